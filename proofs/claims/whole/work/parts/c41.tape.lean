/-! the tape: feed and end, of the class and of the reference -/
def bt (x s : Int32) : Int32 := vp_nar .byte (Int8.toInt32 (Int32.toInt8 (((Int32.toUInt32 x >>> (Int32.toUInt32 s &&& Int32.toUInt32 31)).toInt32))))
theorem bt_fits (x s : Int32) : fits .byte (.int (bt x s)) = true := fits_byte_narrow _
def bs (k : Nat) : Int32 := if k = 0 then 24 else if k = 1 then 16 else if k = 2 then 8 else 0
def wd (a b c d e : Int32) (k : Nat) : Int32 := if k < 4 then a else if k < 8 then b else if k < 12 then c else if k < 16 then d else e
def fd (a b c d e : Int32) (k : Nat) : Int32 := bt (wd a b c d e k) (bs (k % 4))
def tv (G : hg_E) (S : hg_S) (o t N : Nat) (g : Nat → Int32) (n : Int32) (r : List Value) : Prop := hg_at S.1 o = some (.inr (0, .ref t :: .int n :: r)) ∧ hg_at S.1 t = some (.inl (G.1 1, N, .inl g))
def tf (S S' : hg_S) (o t : Nat) : Prop := S'.2 = S.2 ∧ ∀ b, b ≠ o → b ≠ t → hg_at S'.1 b = hg_at S.1 b
theorem tf.trans {S S1 S2 : hg_S} {o t : Nat} (h : tf S S1 o t) (g : tf S1 S2 o t) : tf S S2 o t := ⟨g.1.trans h.1, fun b h1 h2 => (g.2 b h1 h2).trans (h.2 b h1 h2)⟩
theorem tf.w {G : hg_E} {S S1 : hg_S} {o t N : Nat} {g : Nat → Int32} {n : Int32} {r : List Value} (h : tf S S1 o t) (hv : tv G S o t N g n r) (hw0 : hw S) : hw S1 := by
  intro b hb
  rw [h.1] at hb
  have h1 := hw0.lt hv.1
  have h2 := hw0.lt hv.2
  rw [h.2 b (by omega) (by omega)]
  exact hw0 b hb
section TAPE
variable {G : hg_E} {S : hg_S} {o t N : Nat} {g : Nat → Int32} {n : Int32} {r : List Value}
theorem ap_step {x s : Int32} (h : tv G S o t N g n r) (hne : o ≠ t) (hs : ¬ s < 0) (h0 : 0 ≤ n.toInt) (h1 : n.toInt < (N : Int)) : ∃ S', hm_SE_append_b3 G S o x s = some (.inl (S', s + (-8))) ∧ tv G S' o t N (upd g n.toInt.toNat (bt x s)) (n + 1) r ∧ tf S S' o t := by
  have hx : dc_wp (hm_SE_append_b3 G S o x s) (fun z => ∃ S', z = .inl (S', s + (-8)) ∧ tv G S' o t N (upd g n.toInt.toNat (bt x s)) (n + 1) r ∧ tf S S' o t) := by
    delta hm_SE_append_b3
    refine wq_if (fun c => absurd c hs) (fun _ => ?_)
    refine wq_gr (x := some t) h.1 rfl ?_
    refine wq_gi (x := n) h.1 rfl ?_
    refine wq_st h.2 h0 h1 ?_
    have a1 : hg_at (hu S t (.inl (G.1 1, N, .inl (upd g n.toInt.toNat (bt x s))))).1 o = some (.inr (0, .ref t :: .int n :: r)) := by
      rw [hu_ne hne]; exact h.1
    refine wq_gi (x := n) a1 rfl ?_
    refine wq_pf a1 (by simp) ?_
    refine ⟨_, rfl, _, rfl, ⟨hu_self a1, ?_⟩, rfl, ?_⟩
    · rw [hu_ne (fun z => hne z.symm)]; exact hu_self h.2
    · intro b hb1 hb2
      rw [hu_ne hb1, hu_ne hb2]
  obtain ⟨z, e, S', rfl, h3, h4⟩ := hx
  exact ⟨S', e, h3, h4⟩
theorem ap_it {x s : Int32} (h : tv G S o t N g n r) (hne : o ≠ t) (hs : ¬ s < 0) (h0 : 0 ≤ n.toInt) (h1 : n.toInt < (N : Int)) : ∃ S', dc_it (hm_SE_append_s3 G o x) (S, s) = dc_it (hm_SE_append_s3 G o x) (S', s + (-8)) ∧ tv G S' o t N (upd g n.toInt.toNat (bt x s)) (n + 1) r ∧ tf S S' o t := by
  obtain ⟨S', e, h3, h4⟩ := ap_step (x := x) h hne hs h0 h1
  refine ⟨S', ?_, h3, h4⟩
  rw [dc_it_eq]
  show ((hm_SE_append_b3 G S o x s).bind _) = _
  rw [e]
  rfl
theorem ap_all {x : Int32} (h : tv G S o t N g n r) (hne : o ≠ t) (h0 : 0 ≤ n.toInt) (h1 : n.toInt + 4 ≤ (N : Int)) (hN : N ≤ 100000) : dc_wp (hm_SE_append G S o x) (fun S' => ∃ g', tv G S' o t N g' (n + 4) r ∧ tf S S' o t ∧ ∀ i, g' i = if n.toInt.toNat ≤ i ∧ i < n.toInt.toNat + 4 then bt x (bs (i - n.toInt.toNat)) else g i) := by
  have a1 : (n + 1).toInt = n.toInt + 1 := by rw [i_addS (by rw [il_1]; omega), il_1]
  have a2 : (n + 1 + 1).toInt = n.toInt + 2 := by rw [i_addS (by rw [il_1, a1]; omega), il_1, a1]; omega
  have a3 : (n + 1 + 1 + 1).toInt = n.toInt + 3 := by rw [i_addS (by rw [il_1, a2]; omega), il_1, a2]; omega
  have a4 : n + 1 + 1 + 1 + 1 = n + 4 := by
    rw [i_eq, i_addS (by rw [il_1, a3]; omega), il_1, a3, i_addS (by rw [il_4]; omega), il_4]; omega
  obtain ⟨S1, e1, v1, f1⟩ := ap_it (x := x) (s := 24) h hne (by decide) h0 (by omega)
  obtain ⟨S2, e2, v2, f2⟩ := ap_it (x := x) (s := 24 + (-8)) v1 hne (by decide) (by omega) (by omega)
  obtain ⟨S3, e3, v3, f3⟩ := ap_it (x := x) (s := 24 + (-8) + (-8)) v2 hne (by decide) (by omega) (by omega)
  obtain ⟨S4, e4, v4, f4⟩ := ap_it (x := x) (s := 24 + (-8) + (-8) + (-8)) v3 hne (by decide) (by omega) (by omega)
  have e5 : dc_it (hm_SE_append_s3 G o x) (S4, 24 + (-8) + (-8) + (-8) + (-8)) = some S4 := by
    rw [dc_it_eq]
    show ((hm_SE_append_b3 G S4 o x (24 + (-8) + (-8) + (-8) + (-8))).bind _) = _
    delta hm_SE_append_b3
    rw [if_pos (by decide)]
    rfl
  refine ⟨S4, ?_, _, by rw [a4] at v4; exact v4, ((f1.trans f2).trans f3).trans f4, fun i => ?_⟩
  · show (dc_it (hm_SE_append_s3 G o x) (S, 24)).bind _ = _
    rw [e1, e2, e3, e4, e5]
    rfl
  · rw [a1, a2, a3]
    have b1 : (n.toInt + 1).toNat = n.toInt.toNat + 1 := by omega
    have b2 : (n.toInt + 2).toNat = n.toInt.toNat + 2 := by omega
    have b3 : (n.toInt + 3).toNat = n.toInt.toNat + 3 := by omega
    rw [b1, b2, b3]
    generalize n.toInt.toNat = m
    unfold upd
    by_cases c : m ≤ i ∧ i < m + 4
    · rw [if_pos c]
      have hk : i = m ∨ i = m + 1 ∨ i = m + 2 ∨ i = m + 3 := by omega
      rcases hk with hk | hk | hk | hk
      · subst hk
        rw [if_neg (by omega), if_neg (by omega), if_neg (by omega), if_pos rfl, Nat.sub_self]
        rfl
      · subst hk
        rw [if_neg (by omega), if_neg (by omega), if_pos rfl, Nat.add_sub_cancel_left]
        rfl
      · subst hk
        rw [if_neg (by omega), if_pos rfl, Nat.add_sub_cancel_left]
        rfl
      · subst hk
        rw [if_pos rfl, Nat.add_sub_cancel_left]
        rfl
    · rw [if_neg c, if_neg (by omega), if_neg (by omega), if_neg (by omega), if_neg (by omega)]
theorem fd_all {a b c d e : Int32} {f : Int32} (h : tv G S o t N g n (.int f :: r)) (hne : o ≠ t) (h0 : 0 ≤ n.toInt) (h1 : n.toInt + 20 ≤ (N : Int)) (hN : N ≤ 100000) : dc_wp (hm_SE_feed_L47 G S o a b c d e) (fun q => q.2 = n + 20 ∧ ∃ g', tv G q.1 o t N g' (n + 20) (.int 1 :: r) ∧ tf S q.1 o t ∧ ∀ i, g' i = if n.toInt.toNat ≤ i ∧ i < n.toInt.toNat + 20 then fd a b c d e (i - n.toInt.toNat) else g i) := by
  have a1 : (n + 4).toInt = n.toInt + 4 := by rw [i_addS (by rw [il_4]; omega), il_4]
  have a2 : (n + 4 + 4).toInt = n.toInt + 8 := by rw [i_addS (by rw [il_4, a1]; omega), il_4, a1]; omega
  have a3 : (n + 4 + 4 + 4).toInt = n.toInt + 12 := by rw [i_addS (by rw [il_4, a2]; omega), il_4, a2]; omega
  have a4 : (n + 4 + 4 + 4 + 4).toInt = n.toInt + 16 := by rw [i_addS (by rw [il_4, a3]; omega), il_4, a3]; omega
  have a5 : n + 4 + 4 + 4 + 4 + 4 = n + 20 := by
    rw [i_eq, i_addS (by rw [il_4, a4]; omega), il_4, a4, i_addS (by rw [il_20]; omega), il_20]; omega
  delta hm_SE_feed_L47
  refine wq_chk h.1 ?_
  refine wq_call (ap_all h hne h0 (by omega) hN) ?_
  rintro S1 ⟨g1, v1, f1, k1⟩
  refine wq_chk v1.1 ?_
  refine wq_call (ap_all v1 hne (by omega) (by omega) hN) ?_
  rintro S2 ⟨g2, v2, f2, k2⟩
  refine wq_chk v2.1 ?_
  refine wq_call (ap_all v2 hne (by omega) (by omega) hN) ?_
  rintro S3 ⟨g3, v3, f3, k3⟩
  refine wq_chk v3.1 ?_
  refine wq_call (ap_all v3 hne (by omega) (by omega) hN) ?_
  rintro S4 ⟨g4, v4, f4, k4⟩
  refine wq_chk v4.1 ?_
  refine wq_call (ap_all v4 hne (by omega) (by omega) hN) ?_
  rintro S5 ⟨g5, v5, f5, k5⟩
  rw [a5] at v5
  refine wq_pf v5.1 (by simp) ?_
  have w1 : hg_at (hu S5 o (.inr (0, .ref t :: .int (n + 20) :: .int 1 :: r))).1 o = some (.inr (0, .ref t :: .int (n + 20) :: .int 1 :: r)) := hu_self v5.1
  refine wq_gi (x := n + 20) w1 rfl ?_
  refine ⟨_, rfl, rfl, g5, ⟨w1, ?_⟩, ?_, fun i => ?_⟩
  · show hg_at (hu S5 o _).1 t = _
    rw [hu_ne (fun z => hne z.symm)]; exact v5.2
  · refine (((f1.trans f2).trans f3).trans f4).trans (f5.trans ⟨rfl, fun b hb1 hb2 => ?_⟩)
    show hg_at (hu S5 o _).1 b = _
    rw [hu_ne hb1]
  · have b1 : (n + 4).toInt.toNat = n.toInt.toNat + 4 := by omega
    have b2 : (n + 4 + 4).toInt.toNat = n.toInt.toNat + 8 := by omega
    have b3 : (n + 4 + 4 + 4).toInt.toNat = n.toInt.toNat + 12 := by omega
    have b4 : (n + 4 + 4 + 4 + 4).toInt.toNat = n.toInt.toNat + 16 := by omega
    rw [k5 i, k4 i, k3 i, k2 i, k1 i, b1, b2, b3, b4]
    generalize n.toInt.toNat = m
    unfold fd wd
    by_cases c : m ≤ i ∧ i < m + 20
    · rw [if_pos c]
      by_cases c1 : i - m < 4
      · rw [if_neg (by omega), if_neg (by omega), if_neg (by omega), if_neg (by omega), if_pos (by omega), if_pos c1, show (i - m) % 4 = i - m by omega]
      · by_cases c2 : i - m < 8
        · rw [if_neg (by omega), if_neg (by omega), if_neg (by omega), if_pos (by omega), if_neg c1, if_pos c2, show (i - m) % 4 = i - (m + 4) by omega]
        · by_cases c3 : i - m < 12
          · rw [if_neg (by omega), if_neg (by omega), if_pos (by omega), if_neg c1, if_neg c2, if_pos c3, show (i - m) % 4 = i - (m + 8) by omega]
          · by_cases c4 : i - m < 16
            · rw [if_neg (by omega), if_pos (by omega), if_neg c1, if_neg c2, if_neg c3, if_pos c4, show (i - m) % 4 = i - (m + 12) by omega]
            · rw [if_pos (by omega), if_neg c1, if_neg c2, if_neg c3, if_neg c4, show (i - m) % 4 = i - (m + 16) by omega]
    · rw [if_neg c, if_neg (by omega), if_neg (by omega), if_neg (by omega), if_neg (by omega), if_neg (by omega)]
end TAPE
