/-- a program is there -/
def sb_PF (S : md_S) : Prop :=
  ((1 ≤ (S.1 42).toInt ∧ (S.1 42).toInt ≤ 1200) ∧ (0 ≤ (S.1 43).toInt ∧ (S.1 43).toInt ≤ 1000) ∧ (0 ≤ (S.1 44).toInt ∧ (S.1 44).toInt ≤ 400) ∧ (0 ≤ (S.1 45).toInt ∧ (S.1 45).toInt ≤ 31) ∧ (0 ≤ (S.1 46).toInt ∧ (S.1 46).toInt ≤ 31) ∧ (S.1 45).toInt + (S.1 46).toInt ≤ (S.1 44).toInt ∧ (0 ≤ (S.1 47).toInt ∧ (S.1 47).toInt ≤ 200) ∧ (62 ≤ (S.1 50).toInt ∧ (S.1 50).toInt ≤ 1662)) ∧
  (∃ n, sb_L S n 582 1 (-1) 0 (S.1 42).toInt.toNat) ∧
  (∀ j : Nat, (j : Int) < (S.1 42).toInt → (1 ≤ (S.2.1 57 j).toInt ∧ (S.2.1 57 j).toInt ≤ (j : Int) + 1) ∧ ((j : Int) < (S.2.1 59 j).toInt ∧ (S.2.1 59 j).toInt ≤ (S.1 42).toInt)) ∧
  (∀ j : Nat, (j : Int) ≤ (S.1 42).toInt → 0 ≤ (S.2.1 62 j).toInt ∧ (S.2.1 62 j).toInt ≤ (S.1 47).toInt) ∧
  (∀ i : Nat, (i : Int) < (S.1 43).toInt → sb_pl S i) ∧
  (∀ j : Nat, (j : Int) < (S.1 42).toInt → S.2.1 51 j = 10 → 62 ≤ (S.2.1 61 j).toInt ∧ (S.2.1 61 j).toInt + (S.2.1 57 j).toInt < (S.1 50).toInt) ∧
  ∀ i : Nat, (i : Int) < (S.1 44).toInt → (S.2.1 69 i).toInt ≤ 31
/-- none is -/
def sb_NO (S : md_S) : Prop := ∀ k, k ∈ sb_zs → S.1 k = 0
def sb_RD (q : md_S) : Prop := (q.1 2 = 0 ∧ q.1 3 = 0) ∧ (sb_NO q ∨ (sb_PF q ∧ q.1 41 = 1 ∧ q.1 82 = 1 ∧ q.1 77 = 1 ∧ ∀ k, k ∈ [83, 85, 86, 87, 106] → q.1 k = 0))
theorem i_0le {x : Int32} : 0 ≤ x ↔ 0 ≤ x.toInt := by rw [i_le, il_0]
theorem i_pos {x : Int32} (h : 0 ≤ x) (hn : ¬ x = 0) : (0 : Int32) < x := i_lt.mpr (by
  have h1 := i_0le.mp h
  have h2 : ¬ x.toInt = 0 := fun e => hn (i_eq.mpr (e.trans il_0.symm))
  rw [il_0]; omega)
theorem i_48 {x : Int32} (h : 1 ≤ x) (h2 : x ≤ 32769) : (0 : Int32) < 4 + 8 * x := i_lt.mpr (by
  have a := i_le.mp h; have b := i_le.mp h2
  rw [il_1] at a; rw [il_32769] at b
  rw [a_add, a_mul, il_4, il_8, il_0]; omega)
theorem i_ngt {x : Int32} {n : Int32} (h : ¬ n < x) : x.toInt ≤ n.toInt := by
  have : ¬ n.toInt < x.toInt := fun e => h (i_lt.mpr e)
  omega
theorem rd_io {a b c : Int32} (h1 : 0 ≤ a) (h2 : 0 ≤ b) (h3 : a + b ≤ c) (ha : a.toInt ≤ 31) (hb : b.toInt ≤ 31) : a.toInt + b.toInt ≤ c.toInt := by
  have x := i_0le.mp h1; have y := i_0le.mp h2; have z := i_le.mp h3
  rw [a_add] at z; omega
theorem mm_read_l {S : md_S} (h0 : 0 ≤ S.1 2) (h1 : S.1 2 ≤ 32768) : dc_wp (mm_read S) (fun q => sb_RD q.1) := by
  have A : ∀ S1 : md_S, (0 : Int32) < S1.1 10 → dc_wp (mm_read_L235 S1) (fun q => sb_RD q.1) := by
    intro S1 h
    unfold mm_read_L235
    refine dc_letB ?_; intro Sa ha
    refine dc_letB ?_; intro Sb hb
    have e10 : Sb.1 10 = S1.1 10 := by rw [hb, ha]; rfl
    have e2 : Sb.1 2 = 0 := by rw [hb, ha]; rfl
    have e3 : Sb.1 3 = 0 := by rw [hb, ha]; rfl
    rw [e10]
    refine dc_ifP h ?_
    refine dc_callI (dc_wpw (dc_wpw (mm_forget_s Sb) (forget_z Sb)) (mm_forget_fr Sb)) ?_
    rintro q3 ⟨⟨_, hz⟩, hf⟩
    exact dc_ret ⟨⟨(hf.1 2 (by decide)).trans e2, (hf.1 3 (by decide)).trans e3⟩, .inl hz⟩
  have B : ∀ S1 : md_S, S1.1 10 = 0 → (0 ≤ (S1.1 15).toInt ∧ (S1.1 15).toInt ≤ 400) → (∀ i : Nat, (i : Int) < (S1.1 15).toInt → 0 ≤ (S1.2.1 21 i).toInt ∧ 0 ≤ (S1.2.1 22 i).toInt ∧ (S1.2.1 22 i).toInt ≤ 31 ∧ (S1.2.1 21 i).toInt + (S1.2.1 22 i).toInt ≤ 32768) → sb_LP S1 400 → (S1.1 47).toInt ≤ 200 → (S1.1 43).toInt ≤ 1000 → (S1.1 48).toInt ≤ 1200 → (0 ≤ (S1.1 16).toInt ∧ (S1.1 16).toInt ≤ 31) → (0 ≤ (S1.1 17).toInt ∧ (S1.1 17).toInt ≤ 31) → (S1.1 16).toInt + (S1.1 17).toInt ≤ (S1.1 15).toInt → (∀ k, k ∈ [83, 85, 86, 87, 106] → S1.1 k = 0) → dc_wp (mm_read_L235 S1) (fun q => sb_RD q.1) := by
    intro S1 h h15 hnm lp h47 h43 h48 h16 h17 hio hz
    unfold mm_read_L235
    refine dc_letB ?_; intro Sa ha
    refine dc_letB ?_; intro Sb hb
    have f : md_fr [2, 3] [] false false S1 Sb := by
      refine ⟨fun k hk => ?_, fun k _ => by rw [hb, ha]; rfl, fun _ => by rw [hb, ha]; rfl, fun _ => by rw [hb, ha]; rfl⟩
      simp only [List.mem_cons, List.mem_nil_iff, or_false, not_or] at hk
      rw [hb, ha, md_i1, if_neg hk.2, md_i1, if_neg hk.1]
    have e2 : Sb.1 2 = 0 := by rw [hb, ha]; rfl
    have e3 : Sb.1 3 = 0 := by rw [hb, ha]; rfl
    clear hb ha
    rw [f.1 10 (by decide)]
    refine dc_ifN (by rw [h]; decide) ?_
    obtain ⟨p1, p2, p3, p4, p5, p6, p7, ⟨n, p8⟩, p9⟩ := lp
    have e42 := f.1 42 (by decide)
    refine dc_callI (mm_settle_l (S := Sb) ?_ ?_ ?_ ?_ ?_ ?_) ?_
    · rw [f.1 15 (by decide)]; exact h15
    · rw [f.1 15 (by decide), f.2.1 21 (by decide), f.2.1 22 (by decide)]; exact hnm
    · rw [e42]; omega
    · rw [e42, f.2.1 57 (by decide)]; exact fun j hj => (p6 j hj).1
    · rw [e42, f.2.1 57 (by decide), ← p5]; exact h48
    · rw [e42, f.2.1 51 (by decide)]; exact p9
    · rintro q ⟨g1, ⟨v1, v2, v3, v4, v5, v6⟩, g2, g3, g4, g5⟩
      have ei : ∀ k, k ∉ [2, 3, 41, 44, 45, 46, 50, 77, 82] → q.1 k = S1.1 k := by
        intro k hk
        simp only [List.mem_cons, List.mem_nil_iff, or_false, not_or] at hk
        rw [g1.1 k (by simp only [List.mem_cons, List.mem_nil_iff, or_false, not_or]; exact hk.2.2), f.1 k (by simp only [List.mem_cons, List.mem_nil_iff, or_false, not_or]; exact ⟨hk.1, hk.2.1⟩)]
      have ea : ∀ k, k ∉ [54, 61, 68, 69] → q.2.1 k = S1.2.1 k := fun k hk => (g1.2.1 k hk).trans (f.2.1 k (by simp))
      rw [f.1 15 (by decide)] at v4 g5
      rw [f.1 16 (by decide)] at v5
      rw [f.1 17 (by decide)] at v6
      rw [e42] at g4
      rw [f.2.1 51 (by decide), f.2.1 54 (by decide)] at g3
      rw [f.2.1 51 (by decide), f.2.1 57 (by decide)] at g4
      have q42 : q.1 42 = S1.1 42 := ei 42 (by decide)
      have q43 : q.1 43 = S1.1 43 := ei 43 (by decide)
      have q47 : q.1 47 = S1.1 47 := ei 47 (by decide)
      refine dc_ret ⟨⟨(g1.1 2 (by decide)).trans e2, (g1.1 3 (by decide)).trans e3⟩, .inr ⟨?_, v1, v2, v3, fun k hk => ?_⟩⟩
      · unfold sb_PF
        rw [q42, q43, q47, v4, v5, v6, ea 57 (by decide), ea 59 (by decide), ea 62 (by decide), ea 51 (by decide)]
        refine ⟨⟨p1, ⟨p3, h43⟩, h15, h16, h17, hio, ⟨p2.1, h47⟩, g2⟩, ⟨n, ?_⟩, p6, p7, fun i hi => ?_, g4, g5⟩
        · refine sb_L_eq (by rw [q47]; exact Int.le_refl _) (fun x hx => ?_) n (fun j _ _ => ?_) p8
          · unfold sb_PR at *; rw [q43, ea 66 (by decide)]; exact hx
          · rw [ea 51 (by decide), ea 52 (by decide), ea 53 (by decide), ea 57 (by decide), ea 58 (by decide), ea 60 (by decide)]
            exact ⟨⟨rfl, rfl, rfl, rfl, rfl⟩, fun _ => rfl, fun _ h8 => g3 j h8⟩
        · exact sb_pl_eq (by rw [ea 63 (by decide)]) (by rw [ea 64 (by decide)]) (by rw [ea 65 (by decide)]) (p4 h43 i hi)
      · rw [ei k (by revert hk; simp only [List.mem_cons, List.mem_nil_iff, or_false, not_or]; omega)]
        exact hz k hk
  have L219 : ∀ S1 : md_S, dc_wp (mm_read_L219 S1 1) (fun q => sb_RD q.1) := by
    intro S1
    unfold mm_read_L219
    refine dc_zbI (.inr rfl) ?_
    refine dc_letB ?_; intro S6 h6
    have e : S6.1 12 = 1 := by rw [h6]; rfl
    rw [e]
    refine dc_ifN (by decide) ?_
    refine dc_letB ?_; intro S7 h7
    have e7 : S7.1 10 = 6 := by rw [h7]; rfl
    exact A S7 (by rw [e7]; decide)
  have L147 : ∀ S1 : md_S, S1.1 10 = 0 → ∀ x : Int32, dc_wp (mm_read_L147 S1 x) (fun q => sb_RD q.1) := by
    intro S1 h x
    unfold mm_read_L147 mm_read_L152
    refine dc_zbI (.inr rfl) ?_
    refine dc_letB ?_; intro S9 h9
    have e : S9.1 12 = 1 := by rw [h9]; rfl
    rw [e]
    refine dc_ifN (by decide) ?_
    unfold mm_read_L167
    rw [e]
    refine dc_ifN (by decide) ?_
    exact L219 S9
  have L104A : ∀ S1 : md_S, (0 : Int32) < S1.1 10 → ∀ x : Int32, dc_wp (mm_read_L104 S1 x) (fun q => sb_RD q.1) := by
    intro S1 h x
    unfold mm_read_L104
    exact dc_ifN (sb_pos h) (A S1 h)
  unfold mm_read
  refine dc_letB ?_; intro S11 h11
  refine dc_letB ?_; intro S12 h12
  refine dc_letB ?_; intro S13 h13
  refine dc_letB ?_; intro S14 h14
  refine dc_letB ?_; intro S15 h15
  refine dc_letB ?_; intro S16 h16
  refine dc_letB ?_; intro S17 h17
  refine dc_letB ?_; intro S18 h18
  refine dc_letB ?_; intro S19 h19
  refine dc_letB ?_; intro S20 h20
  refine dc_letB ?_; intro S21 h21
  refine dc_letB ?_; intro S22 h22
  refine dc_letB ?_; intro S23 h23
  have z : S23.1 2 = S.1 2 ∧ S23.1 5 = 1 ∧ S23.1 10 = 0 ∧ S23.1 4 = 0 ∧ S23.1 11 = 0 ∧ S23.1 15 = 0 ∧ S23.1 18 = 0 ∧ S23.1 19 = 0 ∧ S23.1 27 = 0 ∧ S23.1 28 = 0 ∧ S23.1 13 = 32768 ∧ S23.1 12 = 0 := by
    rw [h23, h22, h21, h20, h19, h18, h17, h16, h15, h14, h13, h12, h11]
    exact ⟨rfl, rfl, rfl, rfl, rfl, rfl, rfl, rfl, rfl, rfl, rfl, rfl⟩
  clear h23 h22 h21 h20 h19 h18 h17 h16 h15 h14 h13 h12 h11
  obtain ⟨z2, z5, z10, z4, z11, z15, z18, z19, z27, z28, z13, z12⟩ := z
  refine dc_callI (dc_wpw (dc_wpw (mm_forget_s S23) (forget_z S23)) (mm_forget_fr S23)) ?_
  rintro q24 ⟨⟨_, hz⟩, hf⟩
  have y2 : q24.1 2 = S.1 2 := (hf.1 2 (by decide)).trans z2
  have y11 : q24.1 11 = 0 := (hf.1 11 (by decide)).trans z11
  have y15 : q24.1 15 = 0 := (hf.1 15 (by decide)).trans z15
  have y18 : q24.1 18 = 0 := (hf.1 18 (by decide)).trans z18
  have y19 : q24.1 19 = 0 := (hf.1 19 (by decide)).trans z19
  have y27 : q24.1 27 = 0 := (hf.1 27 (by decide)).trans z27
  have y28 : q24.1 28 = 0 := (hf.1 28 (by decide)).trans z28
  have jj : sb_J q24 := by
    unfold sb_J
    rw [y27, y28, y15, y19, y18, y11, il_0]
    exact ⟨by omega, by omega, by omega, by omega, ⟨by omega, fun i hi => by omega⟩, fun _ => by omega⟩
  refine dc_callI (dc_wpw (dc_wpw (mm_program_s q24 (by rw [y2]; exact h0) (by rw [y2]; exact h1) ((hf.1 5 (by decide)).trans z5) ((hf.1 10 (by decide)).trans z10) ((hf.1 4 (by decide)).trans z4) y11 y15 y18 y19 y27 y28 ((hf.1 13 (by decide)).trans z13)) (jg_program jj y11 y19)) (mm_program_fr q24)) ?_
  rintro q25 ⟨⟨⟨r1, r2, r3, r4, r5, r6⟩, r7⟩, fp⟩
  have hz25 : ∀ k, k ∈ sb_zs → q25.1.1 k = 0 := by
    intro k hk
    rw [fp.1 k (by revert hk; simp only [sb_zs, List.mem_cons, List.mem_nil_iff, or_false, not_or]; omega)]
    exact hz k hk
  refine dc_ifI (fun e10 => ?_) (fun e10 => L104A _ (i_pos r1 e10) _)
  refine dc_ifI (fun e13 => ?_) (fun e13 => ?_)
  · refine dc_letB ?_; intro S26 h26
    refine L104A S26 ?_ _
    rw [show S26.1 10 = 4 + 8 * q25.1.1 14 by rw [h26]; rfl]
    have := r3 e10 e13
    exact i_48 this.1 this.2
  · have ri := r2 e10
    obtain ⟨jq, tq⟩ := r7 e10
    obtain ⟨io1, io2, io3⟩ := r6 e10
    have nmq := ri.2.1.2.1
    have tpq : (q25.1.1 2).toInt ≤ 32768 := by have := i_le.mp ri.1.1.2.2.2; rw [il_32768] at this; exact this
    unfold mm_read_L104
    refine dc_ifP e10 ?_
    refine dc_ifI (fun e12 => ?_) (fun _ => L147 _ e10 _)
    refine dc_ifI (fun _ => L147 _ e10 _) (fun c16 => ?_)
    refine dc_ifI (fun _ => L147 _ e10 _) (fun c17 => ?_)
    refine dc_ifI (fun _ => L147 _ e10 _) (fun c15 => ?_)
    have c16 := i_ngt c16; have c17 := i_ngt c17; have c15 := i_ngt c15
    rw [il_31] at c16 c17; rw [il_400] at c15
    unfold mm_read_L152
    refine dc_zbI (.inl rfl) ?_
    refine dc_letB ?_; intro S9 h9
    have f9 : md_fr [12] [] false false q25.1 S9 := by
      refine ⟨fun k hk => ?_, fun k _ => by rw [h9]; rfl, fun _ => by rw [h9]; rfl, fun _ => by rw [h9]; rfl⟩
      rw [h9, md_i1]; exact if_neg (fun h => hk (by rw [h]; decide))
    have e9 : S9.1 12 = 0 := by rw [h9]; rfl
    clear h9
    rw [e9]
    refine dc_ifP rfl ?_
    have tq := tq e12
    have tq9 : sb_Tr (S9.1 27).toInt 0 (S9.1 15) S9 (fun _ => False) 582 q25.2 := by
      unfold sb_Tr sb_QS at *
      rw [f9.1 27 (by decide), f9.1 15 (by decide), f9.1 28 (by decide), f9.2.1 30 (by decide), f9.2.1 31 (by decide), f9.2.1 32 (by decide), f9.2.1 33 (by decide), f9.2.1 35 (by decide), f9.2.1 36 (by decide), f9.2.1 37 (by decide), f9.2.1 38 (by decide)]
      exact tq
    have z9 : ∀ k, k ∈ sb_zs → S9.1 k = 0 := fun k hk => by
      rw [f9.1 k (by revert hk; simp only [sb_zs, List.mem_cons, List.mem_nil_iff, or_false]; omega)]; exact hz25 k hk
    refine dc_callI (mm_lay_I_l tq9 (by rw [f9.1 27 (by decide)]; exact jq.1.2) (by rw [f9.1 15 (by decide)]; exact c15) (by rw [f9.1 28 (by decide)]; exact jq.2.1.2) (z9 42 (by decide)) (z9 43 (by decide)) (z9 47 (by decide)) (z9 48 (by decide))) ?_
    rintro q10 ⟨fl, lp⟩
    rw [f9.1 15 (by decide)] at lp
    have lp4 : sb_LP q10 400 := by
      obtain ⟨p1, p2, p3, p4, p5, p6, p7, p8, p9⟩ := lp
      exact ⟨p1, p2, p3, p4, p5, p6, p7, p8, by omega⟩
    have eq : ∀ k, k ∉ [12, 42, 43, 47, 48, 49] → q10.1 k = q25.1.1 k := by
      intro k hk
      simp only [List.mem_cons, List.mem_nil_iff, or_false, not_or] at hk
      rw [fl.1 k (by simp only [List.mem_cons, List.mem_nil_iff, or_false, not_or]; exact hk.2), f9.1 k (by simp only [List.mem_cons, List.mem_nil_iff, or_false]; exact hk.1)]
    have ea : ∀ k, k = 21 ∨ k = 22 → q10.2.1 k = q25.1.2.1 k := by
      intro k hk
      rw [fl.2.1 k (by simp only [List.mem_cons, List.mem_nil_iff, or_false, not_or]; omega), f9.2.1 k (by simp)]
    unfold mm_read_L167
    rw [fl.1 12 (by decide), e9]
    refine dc_ifP rfl ?_
    refine dc_ifI (fun _ => L219 _) (fun d47 => ?_)
    refine dc_ifI (fun _ => L219 _) (fun d43 => ?_)
    refine dc_ifI (fun _ => L219 _) (fun d49 => ?_)
    refine dc_ifI (fun _ => L219 _) (fun d48 => ?_)
    have d47 := i_ngt d47; have d43 := i_ngt d43; have d48 := i_ngt d48
    rw [il_200] at d47; rw [il_1000] at d43; rw [il_1200] at d48
    unfold mm_read_L219
    refine dc_zbI (.inl rfl) ?_
    refine dc_letB ?_; intro S6 h6
    have f6 : md_fr [12] [] false false q10 S6 := by
      refine ⟨fun k hk => ?_, fun k _ => by rw [h6]; rfl, fun _ => by rw [h6]; rfl, fun _ => by rw [h6]; rfl⟩
      rw [h6, md_i1]; exact if_neg (fun h => hk (by rw [h]; decide))
    have e6 : S6.1 12 = 0 := by rw [h6]; rfl
    clear h6
    rw [e6]
    refine dc_ifP rfl ?_
    have e15 : S6.1 15 = q25.1.1 15 := (f6.1 15 (by decide)).trans (eq 15 (by decide))
    have e16 : S6.1 16 = q25.1.1 16 := (f6.1 16 (by decide)).trans (eq 16 (by decide))
    have e17 : S6.1 17 = q25.1.1 17 := (f6.1 17 (by decide)).trans (eq 17 (by decide))
    refine B S6 ?_ ?_ ?_ ?_ ?_ ?_ ?_ ?_ ?_ ?_ ?_
    · rw [f6.1 10 (by decide), eq 10 (by decide)]; exact e10
    · rw [e15]; exact ⟨jq.2.2.1.1, c15⟩
    · rw [e15, f6.2.1 21 (by decide), f6.2.1 22 (by decide), ea 21 (.inl rfl), ea 22 (.inr rfl)]
      intro i hi
      have := nmq i hi
      omega
    · unfold sb_LP at *
      rw [f6.1 42 (by decide), f6.1 43 (by decide), f6.1 47 (by decide), f6.1 48 (by decide), f6.2.1 51 (by decide), f6.2.1 57 (by decide), f6.2.1 59 (by decide), f6.2.1 62 (by decide)]
      obtain ⟨p1, p2, p3, p4, p5, p6, p7, ⟨n, p8⟩, p9⟩ := lp4
      refine ⟨p1, p2, p3, fun h i hi => sb_pl_eq (by rw [f6.2.1 63 (by decide)]) (by rw [f6.2.1 64 (by decide)]) (by rw [f6.2.1 65 (by decide)]) (p4 h i hi), p5, p6, p7, ⟨n, ?_⟩, p9⟩
      refine sb_L_eq (by rw [f6.1 47 (by decide)]; exact Int.le_refl _) (fun x hx => ?_) n (fun j _ _ => ?_) p8
      · unfold sb_PR at *; rw [f6.1 43 (by decide), f6.2.1 66 (by decide)]; exact hx
      · rw [f6.2.1 51 (by decide), f6.2.1 52 (by decide), f6.2.1 53 (by decide), f6.2.1 54 (by decide), f6.2.1 57 (by decide), f6.2.1 58 (by decide), f6.2.1 60 (by decide)]
        exact ⟨⟨rfl, rfl, rfl, rfl, rfl⟩, fun _ => rfl, fun _ _ => rfl⟩
    · rw [f6.1 47 (by decide)]; exact d47
    · rw [f6.1 43 (by decide)]; exact d43
    · rw [f6.1 48 (by decide)]; exact d48
    · rw [e16]; exact ⟨i_0le.mp io1, c16⟩
    · rw [e17]; exact ⟨i_0le.mp io2, c17⟩
    · rw [e15, e16, e17]; exact rd_io io1 io2 io3 c16 c17
    · intro k hk
      rw [f6.1 k (by revert hk; simp only [List.mem_cons, List.mem_nil_iff, or_false]; omega), eq k (by revert hk; simp only [List.mem_cons, List.mem_nil_iff, or_false, not_or]; omega)]
      exact hz25 k (by revert hk; simp only [sb_zs, List.mem_cons, List.mem_nil_iff, or_false]; omega)
