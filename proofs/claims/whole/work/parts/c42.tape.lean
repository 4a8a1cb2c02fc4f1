/-! the tape, on: feed whole, end; the reference's too -/
section TAPE2
variable {G : hg_E} {S : hg_S} {o t N : Nat} {g : Nat → Int32} {n : Int32} {r : List Value}
def fdP (G : hg_E) (S : hg_S) (o t N : Nat) (g : Nat → Int32) (n : Int32) (r : List Value) (a b c d e : Int32) (q : hg_S × Int32) : Prop :=
  (32768 < n.toInt + 20 ∧ q = (S, -1)) ∨ (n.toInt + 20 ≤ 32768 ∧ q.2 = n + 20 ∧ ∃ t' N' g', tv G q.1 o t' N' g' (n + 20) (.int 1 :: r) ∧ hw q.1 ∧ o ≠ t' ∧ n.toInt + 20 ≤ (N' : Int) ∧ ((t' = t ∧ N' = N ∧ q.1.2 = S.2) ∨ (t' = S.2.1 ∧ N' = 2 * N ∧ N < 32768 ∧ q.1.2 = (S.2.1 + 1, S.2.2.1 - 1, S.2.2.2 - 2 * N))) ∧ (∀ i, fits .byte (.int (g' i)) = true) ∧ (∀ i, i < n.toInt.toNat + 20 → g' i = if n.toInt.toNat ≤ i then fd a b c d e (i - n.toInt.toNat) else g i) ∧ ∀ b, b ≠ o → b ≠ t → b ≠ t' → hg_at q.1.1 b = hg_at S.1 b)
theorem se_feed {a b c d e f : Int32} (h : tv G S o t N g n (.int f :: r)) (hw0 : hw S) (hne : o ≠ t) (h0 : 0 ≤ n.toInt) (hN : n.toInt ≤ (N : Int)) (h20 : 20 ≤ N) (hN2 : N ≤ 65536) (hn : n.toInt ≤ 32768) (hf : ∀ i, fits .byte (.int (g i)) = true) (hc : 1 ≤ S.2.2.1) (hs : 2 * N ≤ S.2.2.2) : dc_wp (hm_SE_feed G S o a b c d e) (fdP G S o t N g n r a b c d e) := by
  have an : (n + 20).toInt = n.toInt + 20 := by rw [i_addS (by rw [il_20]; omega), il_20]
  have aN : (Int32.ofNat N).toInt = (N : Int) := Int32.toInt_ofNat_of_lt (by omega)
  have a2 : (2 * Int32.ofNat N).toInt = ((2 * N : Nat) : Int) := by rw [i_mulS (by rw [il_2, aN]; omega), il_2, aN]; omega
  have k3 : (32768 : Int32).toInt = 32768 := by decide
  have ho := hw0.lt h.1
  have ht := hw0.lt h.2
  delta hm_SE_feed
  refine wq_gi (x := n) h.1 rfl ?_
  refine wq_if (fun c1 => ?_) (fun c1 => ?_)
  · have c2 := i_lt.mp c1
    rw [an, k3] at c2
    exact ⟨_, rfl, Or.inl ⟨c2, rfl⟩⟩
  · have c2 : ¬ (32768 : Int32).toInt < (n + 20).toInt := fun z => c1 (i_lt.mpr z)
    rw [an, k3] at c2
    refine wq_gi (x := n) h.1 rfl ?_
    refine wq_gr (x := some t) h.1 rfl ?_
    refine wq_ln h.2 ?_
    refine wq_if (fun c3 => ?_) (fun c3 => ?_)
    · have c4 := i_lt.mp c3
      rw [an, aN] at c4
      refine wq_gr (x := some t) h.1 rfl ?_
      refine wq_gr (x := some t) h.1 rfl ?_
      refine wq_ln h.2 ?_
      refine wq_call (P := fun q : hg_S × Option Nat => q.2 = some S.2.1 ∧ q.1 = hu (hp S (.inl (G.1 1, 2 * N, .inl (fun _ => 0))) (2 * N)) S.2.1 (.inl (G.1 1, 2 * N, .inl (va_cpy g (fun _ => 0) 0 0 N)))) ?_ ?_
      · delta hm_JA_copyB
        refine wq_ln h.2 ?_
        refine wq_if (fun z => ?_) (fun _ => ?_)
        · exfalso
          have z2 := i_eq.mp z
          rw [a2, aN] at z2
          omega
        · refine wq_newa (N := 2 * N) a2 hc hs (by omega) ?_
          refine wq_let (fun v hv => ?_)
          subst hv
          have b1 : hg_at (hp S (.inl (G.1 1, 2 * N, .inl (fun _ => 0))) (2 * N)).1 t = some (.inl (G.1 1, N, .inl g)) := by
            rw [hp_ne (by omega)]; exact h.2
          have b2 : hg_at (hp S (.inl (G.1 1, 2 * N, .inl (fun _ => 0))) (2 * N)).1 S.2.1 = some (.inl (G.1 1, 2 * N, .inl (fun _ => 0))) := hp_self hw0
          refine wq_ln b1 ?_
          have m1 : hg_min (Int32.ofNat N) (2 * Int32.ofNat N) = Int32.ofNat N := by
            unfold hg_min
            rw [if_neg (fun z => by have z2 := i_lt.mp z; rw [a2, aN] at z2; omega)]
          rw [m1]
          refine wq_cpy b1 b2 (by rw [il_0]; omega) (by rw [il_0]; omega) (by rw [aN]; omega) (by rw [aN, il_0]; omega) (by rw [aN, il_0]; omega) (fun i hi => ?_) ?_
          · rw [aN] at hi
            rw [il_0, show (0 : Int).toNat + i = i by omega]
            exact hf i
          · rw [aN, il_0]
            exact ⟨_, rfl, rfl, rfl⟩
      · rintro ⟨S7, v⟩ ⟨hv, hS7⟩
        have hv : v = some S.2.1 := hv
        subst hv
        have hS7 : S7 = hu (hp S (.inl (G.1 1, 2 * N, .inl (fun _ => 0))) (2 * N)) S.2.1 (.inl (G.1 1, 2 * N, .inl (va_cpy g (fun _ => 0) 0 0 N))) := hS7
        have b2 : hg_at (hp S (.inl (G.1 1, 2 * N, .inl (fun _ => 0))) (2 * N)).1 S.2.1 = some (.inl (G.1 1, 2 * N, .inl (fun _ => 0))) := hp_self hw0
        have b3 : hg_at S7.1 o = some (.inr (0, .ref t :: .int n :: .int f :: r)) := by
          rw [hS7, hu_ne (by omega), hp_ne (by omega)]; exact h.1
        have b4 : hg_at S7.1 S.2.1 = some (.inl (G.1 1, 2 * N, .inl (va_cpy g (fun _ => 0) 0 0 N))) := by
          rw [hS7]; exact hu_self b2
        have b5 : ∀ b, b ≠ S.2.1 → hg_at S7.1 b = hg_at S.1 b := fun b hb => by rw [hS7, hu_ne hb, hp_ne hb]
        have b6 : hw S7 := by rw [hS7]; exact (hw0.hp).hu
        have b7 : S7.2 = (S.2.1 + 1, S.2.2.1 - 1, S.2.2.2 - 2 * N) := by rw [hS7]; rfl
        refine wq_pf b3 (by simp) ?_
        have v8 : tv G (hu S7 o (.inr (0, .ref S.2.1 :: .int n :: .int f :: r))) o S.2.1 (2 * N) (va_cpy g (fun _ => 0) 0 0 N) n (.int f :: r) := ⟨hu_self b3, by rw [hu_ne (by omega)]; exact b4⟩
        obtain ⟨q, e1, h1, g', h2, h3, h4⟩ := fd_all (a := a) (b := b) (c := c) (d := d) (e := e) v8 (by omega) h0 (by omega) (by omega)
        have v9 : ∀ i, i < N → va_cpy g (fun _ => 0) 0 0 N i = g i := fun i hi => by
          unfold va_cpy
          rw [if_pos ⟨Nat.zero_le _, by omega⟩, show 0 + (i - 0) = i by omega]
        refine ⟨q, e1, Or.inr ⟨by omega, h1, S.2.1, 2 * N, g', h2, h3.w v8 b6.hu, by omega, by omega, Or.inr ⟨rfl, rfl, by omega, h3.1.trans b7⟩, fun i => ?_, fun i hi => ?_, fun b h5 h6 h7 => ?_⟩⟩
        · rw [h4 i]
          by_cases c5 : n.toInt.toNat ≤ i ∧ i < n.toInt.toNat + 20
          · rw [if_pos c5]; exact bt_fits _ _
          · rw [if_neg c5]
            unfold va_cpy
            by_cases c6 : 0 ≤ i ∧ i < 0 + N
            · rw [if_pos c6]; exact hf _
            · rw [if_neg c6]; rfl
        · rw [h4 i]
          by_cases c5 : n.toInt.toNat ≤ i
          · rw [if_pos ⟨c5, hi⟩, if_pos c5]
          · rw [if_neg (fun z => c5 z.1), if_neg c5, v9 i (by omega)]
        · rw [h3.2 b h5 h7, hu_ne h5, b5 b h7]
    · have c4 : ¬ (Int32.ofNat N).toInt < (n + 20).toInt := fun z => c3 (i_lt.mpr z)
      rw [an, aN] at c4
      obtain ⟨q, e1, h1, g', h2, h3, h4⟩ := fd_all (a := a) (b := b) (c := c) (d := d) (e := e) h hne h0 (by omega) (by omega)
      refine ⟨q, e1, Or.inr ⟨by omega, h1, t, N, g', h2, h3.w h hw0, hne, by omega, Or.inl ⟨rfl, rfl, h3.1⟩, fun i => ?_, fun i hi => ?_, fun b h5 h6 _ => h3.2 b h5 h6⟩⟩
      · rw [h4 i]
        by_cases c5 : n.toInt.toNat ≤ i ∧ i < n.toInt.toNat + 20
        · rw [if_pos c5]; exact bt_fits _ _
        · rw [if_neg c5]; exact hf i
      · rw [h4 i]
        by_cases c5 : n.toInt.toNat ≤ i
        · rw [if_pos ⟨c5, hi⟩, if_pos c5]
        · rw [if_neg (fun z => c5 z.1), if_neg c5]
end TAPE2
/-- the reference's bytes -/
def rt (x s : Int32) : Int32 := vp_nar .byte (Int8.toInt32 (Int32.toInt8 (x >>> s)))
def rd (a b c d e : Int32) (k : Nat) : Int32 := rt (wd a b c d e k) ((24 - (8 * (Int32.ofNat k - Int32.ofNat k / 4 * 4))) &&& (31 : Int32))
theorem md_feed {M : md_S} {a b c d e : Int32} (h0 : 0 ≤ (M.1 2).toInt) (hn : (M.1 2).toInt ≤ 32768) : dc_wp (mm_feed M a b c d e) (fun q => (32768 < (M.1 2).toInt + 20 ∧ q = (md_i M 0 0, -1)) ∨ ((M.1 2).toInt + 20 ≤ 32768 ∧ q.2 = M.1 2 + 20 ∧ q.1.1 = upd (upd (upd M.1 0 0) 2 (M.1 2 + 20)) 3 1 ∧ (∀ k, k ≠ 1 → q.1.2.1 k = M.2.1 k) ∧ q.1.2.2 = M.2.2 ∧ ∀ i, q.1.2.1 1 i = if (M.1 2).toInt.toNat ≤ i ∧ i < (M.1 2).toInt.toNat + 20 then rd a b c d e (i - (M.1 2).toInt.toNat) else M.2.1 1 i)) := by
  have an : (M.1 2 + 20).toInt = (M.1 2).toInt + 20 := by rw [i_addS (by rw [il_20]; omega), il_20]
  have k3 : (32768 : Int32).toInt = 32768 := by decide
  have ti : ∀ k : Nat, k ≤ 100000 → (Int32.ofNat k).toInt = (k : Int) := fun k hk => Int32.toInt_ofNat_of_lt (by omega)
  delta mm_feed
  refine wq_let (fun M1 hM1 => ?_)
  have e2 : M1.1 2 = M.1 2 := by rw [hM1]; rfl
  have e1 : M1.1 = upd M.1 0 0 := by rw [hM1]; rfl
  have e3 : M1.2 = M.2 := by rw [hM1]; rfl
  rw [e2]
  refine wq_if (fun c1 => ?_) (fun c1 => ?_)
  · have c2 := i_lt.mp c1
    rw [an, k3] at c2
    exact ⟨_, rfl, Or.inl ⟨c2, by rw [hM1]⟩⟩
  · have c2 : ¬ (32768 : Int32).toInt < (M.1 2 + 20).toInt := fun z => c1 (i_lt.mpr z)
    rw [an, k3] at c2
    delta mm_feed_L22
    refine wq_call (P := fun z : md_S => z.1 = M1.1 ∧ (∀ k, k ≠ 1 → z.2.1 k = M1.2.1 k) ∧ z.2.2 = M1.2.2 ∧ ∀ i, z.2.1 1 i = if (M.1 2).toInt.toNat ≤ i ∧ i < (M.1 2).toInt.toNat + 20 then rd a b c d e (i - (M.1 2).toInt.toNat) else M1.2.1 1 i) ?_ ?_
    · refine dc_itI (I := fun q : md_S × Int32 => ∃ k : Nat, k ≤ 20 ∧ q.2 = Int32.ofNat k ∧ q.1.1 = M1.1 ∧ (∀ j, j ≠ 1 → q.1.2.1 j = M1.2.1 j) ∧ q.1.2.2 = M1.2.2 ∧ ∀ i, q.1.2.1 1 i = if (M.1 2).toInt.toNat ≤ i ∧ i < (M.1 2).toInt.toNat + k then rd a b c d e (i - (M.1 2).toInt.toNat) else M1.2.1 1 i) (μ := fun q => 20 - q.2.toInt.toNat) ?_ _ ⟨0, by omega, rfl, rfl, fun _ _ => rfl, rfl, fun i => by rw [if_neg (by omega)]⟩
      rintro ⟨Q, x⟩ ⟨k, hk, hx, q1, q2, q3, q4⟩
      have hx : x = Int32.ofNat k := hx
      subst hx
      have q1 : Q.1 = M1.1 := q1
      have q2 : ∀ j, j ≠ 1 → Q.2.1 j = M1.2.1 j := q2
      have q3 : Q.2.2 = M1.2.2 := q3
      have tk := ti k (by omega)
      show dc_wp (mm_feed_b22 Q a b c d e (Int32.ofNat k)) _
      delta mm_feed_b22
      have cmp : ∀ m : Int32, ∀ v : Nat, m.toInt = (v : Int) → (Int32.ofNat k < m ↔ k < v) := by
        intro m v hm
        rw [i_lt, tk, hm]
        omega
      refine wq_if (fun c3 => ?_) (fun c3 => ?_)
      · have hk2 : k < 20 := (cmp 20 20 il_20).mp c3
        have key : ∀ y, y = wd a b c d e k → dc_wp (mm_feed_L75 Q a b c d e (Int32.ofNat k) y) (Sum.elim (fun y : md_S × Int32 => (∃ k : Nat, k ≤ 20 ∧ y.2 = Int32.ofNat k ∧ y.1.1 = M1.1 ∧ (∀ j, j ≠ 1 → y.1.2.1 j = M1.2.1 j) ∧ y.1.2.2 = M1.2.2 ∧ ∀ i, y.1.2.1 1 i = if (M.1 2).toInt.toNat ≤ i ∧ i < (M.1 2).toInt.toNat + k then rd a b c d e (i - (M.1 2).toInt.toNat) else M1.2.1 1 i) ∧ 20 - y.2.toInt.toNat < 20 - (Int32.ofNat k).toInt.toNat) (fun z : md_S => z.1 = M1.1 ∧ (∀ k, k ≠ 1 → z.2.1 k = M1.2.1 k) ∧ z.2.2 = M1.2.2 ∧ ∀ i, z.2.1 1 i = if (M.1 2).toInt.toNat ≤ i ∧ i < (M.1 2).toInt.toNat + 20 then rd a b c d e (i - (M.1 2).toInt.toNat) else M1.2.1 1 i)) := by
          intro y hy
          have b1 : (Q.1 2 + Int32.ofNat k).toInt = (M.1 2).toInt + k := by rw [q1, e2, i_addS (by rw [tk]; omega), tk]
          have b2 : (Int32.ofNat k + 1).toInt = (k : Int) + 1 := by rw [i_addS (by rw [il_1, tk]; omega), il_1, tk]
          delta mm_feed_L75
          refine wq_ix (by omega) (by omega) ?_
          refine wq_let (fun S4 hS4 => ?_)
          subst hS4
          refine ⟨_, rfl, ⟨k + 1, by omega, ?_, q1, fun j hj => ?_, q3, fun i => ?_⟩, ?_⟩
          · show Int32.ofNat k + 1 = Int32.ofNat (k + 1)
            rw [i_eq, b2, ti (k + 1) (by omega)]
            omega
          · show (if j = 1 then _ else Q.2.1 j) = _
            rw [if_neg hj]
            exact q2 j hj
          · show upd (Q.2.1 1) (Q.1 2 + Int32.ofNat k).toInt.toNat _ i = _
            unfold upd
            rw [b1, show ((M.1 2).toInt + (k : Int)).toNat = (M.1 2).toInt.toNat + k by omega]
            by_cases c5 : i = (M.1 2).toInt.toNat + k
            · rw [if_pos c5, if_pos (by omega), hy, c5, Nat.add_sub_cancel_left]
              rfl
            · rw [if_neg c5]
              have h6 : Q.2.1 1 i = if (M.1 2).toInt.toNat ≤ i ∧ i < (M.1 2).toInt.toNat + k then rd a b c d e (i - (M.1 2).toInt.toNat) else M1.2.1 1 i := q4 i
              rw [h6]
              by_cases c6 : (M.1 2).toInt.toNat ≤ i ∧ i < (M.1 2).toInt.toNat + k
              · rw [if_pos c6, if_pos (by omega)]
              · rw [if_neg c6, if_neg (by omega)]
          · show 20 - (Int32.ofNat k + 1).toInt.toNat < 20 - (Int32.ofNat k).toInt.toNat
            rw [b2, tk]
            omega
        refine wq_if (fun c4 => key _ ?_) (fun c4 => ?_)
        · have := (cmp 4 4 il_4).mp c4
          unfold wd; rw [if_pos (by omega)]
        refine wq_if (fun c5 => key _ ?_) (fun c5 => ?_)
        · have := (cmp 8 8 il_8).mp c5
          have := mt (cmp 4 4 il_4).mpr c4
          unfold wd; rw [if_neg (by omega), if_pos (by omega)]
        refine wq_if (fun c6 => key _ ?_) (fun c6 => ?_)
        · have := (cmp 12 12 (by decide)).mp c6
          have := mt (cmp 8 8 il_8).mpr c5
          unfold wd; rw [if_neg (by omega), if_neg (by omega), if_pos (by omega)]
        refine wq_if (fun c7 => key _ ?_) (fun c7 => key _ ?_)
        · have := (cmp 16 16 (by decide)).mp c7
          have := mt (cmp 12 12 (by decide)).mpr c6
          unfold wd; rw [if_neg (by omega), if_neg (by omega), if_neg (by omega), if_pos (by omega)]
        · have := mt (cmp 16 16 (by decide)).mpr c7
          unfold wd; rw [if_neg (by omega), if_neg (by omega), if_neg (by omega), if_neg (by omega)]
      · have hk2 : k = 20 := by have := mt (cmp 20 20 il_20).mpr c3; omega
        subst hk2
        exact ⟨_, rfl, q1, q2, q3, q4⟩
    · rintro z ⟨z1, z2, z3, z4⟩
      delta mm_feed_L109
      refine wq_let (fun Y1 hY1 => ?_)
      subst hY1
      refine wq_let (fun Y2 hY2 => ?_)
      subst hY2
      have e4 : z.1 2 = M.1 2 := by rw [z1]; exact e2
      refine ⟨_, rfl, Or.inr ⟨by omega, ?_, ?_, fun k hk => ?_, ?_, fun i => ?_⟩⟩
      · show z.1 2 + 20 = _
        rw [e4]
      · show upd (upd z.1 2 (z.1 2 + 20)) 3 1 = _
        rw [e4, z1, e1]
      · show z.2.1 k = _
        rw [z2 k hk, e3]
      · show z.2.2 = _
        rw [z3, e3]
      · show z.2.1 1 i = _
        rw [z4 i, e3]
