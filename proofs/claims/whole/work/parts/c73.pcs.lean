/-! a piece more, seen from the parser and the reader -/
def aF (A : Nat → Nat) (t : Nat) : Nat → Nat := fun k => if 14 ≤ k ∧ k ≤ 18 then t + (k - 14) else A k
def b5 (B : Nat → Nat → Int32) (g0 g1 g2 g3 g4 : Nat → Int32) : Nat → Nat → Int32 := fun k => if k = 6 then g0 else if k = 7 then g1 else if k = 8 then g2 else if k = 9 then g3 else if k = 10 then g4 else B k
theorem b5_n {B : Nat → Nat → Int32} {g0 g1 g2 g3 g4 : Nat → Int32} {k : Nat} (h : ¬ (6 ≤ k ∧ k ≤ 10)) : b5 B g0 g1 g2 g3 g4 k = B k := by
  unfold b5
  rw [if_neg (by omega), if_neg (by omega), if_neg (by omega), if_neg (by omega), if_neg (by omega)]
section PVP
variable {G : hg_E} {sz t0 : Nat} {H0 : Nat → Option va_E} {K1 K2 n : Nat} {f : Nat → Int32} {S S' : hg_S} {A C : Nat → Nat} {B : Nat → Nat → Int32} {Q : Nat → Int32} {j : Nat} {el : Nat → Option Nat} {P : Nat → Nat} {ND : Nat → ndT} {M M' : md_S} {b u w : Int}
theorem PV.pnd (h : PV G t0 H0 K1 K2 n f S A C B Q j el P ND) : pnd (A 6) (A 14) (A 15) (A 16) (A 17) (A 18) := by
  have ne : ∀ i k, i < 19 → k < 19 → ¬ i = k → A i ≠ A k := fun i k hi hk d => h.st.2.1.ne hi hk d
  exact ⟨⟨ne _ _ (by omega) (by omega) (by omega), ne _ _ (by omega) (by omega) (by omega), ne _ _ (by omega) (by omega) (by omega), ne _ _ (by omega) (by omega) (by omega), ne _ _ (by omega) (by omega) (by omega)⟩, ⟨ne _ _ (by omega) (by omega) (by omega), ne _ _ (by omega) (by omega) (by omega), ne _ _ (by omega) (by omega) (by omega), ne _ _ (by omega) (by omega) (by omega)⟩, ⟨ne _ _ (by omega) (by omega) (by omega), ne _ _ (by omega) (by omega) (by omega), ne _ _ (by omega) (by omega) (by omega)⟩, ⟨ne _ _ (by omega) (by omega) (by omega), ne _ _ (by omega) (by omega) (by omega)⟩, ne _ _ (by omega) (by omega) (by omega)⟩
/-- the stores -/
theorem PV_ps (h : PV G t0 H0 K1 K2 n f S A C B Q j el P ND) (m0 : 0 ≤ (Q 11).toInt) (m1 : (Q 11).toInt < (C 2 : Int)) (hcap : C 2 ≤ 1000000) {k p s : Int32} (hp : ¬ k = 0 → 0 ≤ p.toInt ∧ p.toInt < (Q 11).toInt) (hs : ¬ s = -1 → 0 ≤ s.toInt ∧ s.toInt < (Q 11).toInt) : dc_wp (hm_PI_add_L24 G S (A 6) k p s) (fun q => q.2 = Q 11 ∧ ∃ x', PV G t0 H0 K1 K2 n f q.1 A C (b5 B (upd (B 6) (Q 11).toInt.toNat k) (upd (B 7) (Q 11).toInt.toNat p) (upd (B 8) (Q 11).toInt.toNat s) x' (B 10)) (q1 Q 11 (Q 11 + 1)) j el P ND ∧ x' (Q 11).toInt.toNat = pxx (B 9) k p s ∧ ∀ i, ¬ i = (Q 11).toInt.toNat → x' i = B 9 i) := by
  have ne : ∀ i k, i < 19 → k < 19 → ¬ i = k → A i ≠ A k := fun i k hi hk d => h.st.2.1.ne hi hk d
  obtain ⟨q, eq, q2, q3, q4, q5, x', q6, q7, q8⟩ := padd_w h.pi h.pnd h.st.1 m0 m1 hcap hp hs
  have an : ∀ k, k < 19 → ¬ k = 6 → ¬ (14 ≤ k ∧ k ≤ 17) → hg_at q.1.1 (A k) = hg_at S.1 (A k) := fun k hk d0 d1 => q5 _ (ne k 6 hk (by omega) d0) (ne k 14 hk (by omega) (by omega)) (ne k 15 hk (by omega) (by omega)) (ne k 16 hk (by omega) (by omega)) (ne k 17 hk (by omega) (by omega))
  refine ⟨q, eq, q2, x', ⟨⟨q4, h.st.2.1, h.st.2.2.1, ?_, h.st.2.2.2.2.1, by rw [q3]; exact h.st.2.2.2.2.2⟩, (an 0 (by omega) (by omega) (by omega)).trans h.pa, h.lx.fr (an 1 (by omega) (by omega) (by omega)) (an 2 (by omega) (by omega) (by omega)), h.sn.fr (an 3 (by omega) (by omega) (by omega)) (an 8 (by omega) (by omega) (by omega)) (an 9 (by omega) (by omega) (by omega)) (an 10 (by omega) (by omega) (by omega)), h.tn.fr (an 4 (by omega) (by omega) (by omega)) (an 11 (by omega) (by omega) (by omega)) (an 12 (by omega) (by omega) (by omega)) (an 13 (by omega) (by omega) (by omega)), (an 5 (by omega) (by omega) (by omega)).trans h.dr, q6, ?_, ?_, ?_⟩, q7, q8⟩
  · intro b hb
    have k0 := h.st.2.2.1 6 (by omega)
    have k1 := h.st.2.2.1 14 (by omega)
    have k2 := h.st.2.2.1 15 (by omega)
    have k3 := h.st.2.2.1 16 (by omega)
    have k4 := h.st.2.2.1 17 (by omega)
    rw [q5 b (by omega) (by omega) (by omega) (by omega) (by omega)]
    exact h.st.2.2.2.1 b hb
  · exact ⟨h.al.fr (an 7 (by omega) (by omega) (by omega)) (fun z => q5 _ (h.el_ne z h.pi.1 (fun _ _ _ z => by cases z)) (h.el_ne z h.pi.2.1 (fun _ _ _ z => by cases z)) (h.el_ne z h.pi.2.2.1 (fun _ _ _ z => by cases z)) (h.el_ne z h.pi.2.2.2.1 (fun _ _ _ z => by cases z)) (h.el_ne z h.pi.2.2.2.2.1 (fun _ _ _ z => by cases z))), h.a19⟩
  · exact h.nd.fr (fun i hi => q5 _ (h.nd_ne hi h.pi.1 (fun _ z => by cases z)) (h.nd_ne hi h.pi.2.1 (fun _ z => by cases z)) (h.nd_ne hi h.pi.2.2.1 (fun _ z => by cases z)) (h.nd_ne hi h.pi.2.2.2.1 (fun _ z => by cases z)) (h.nd_ne hi h.pi.2.2.2.2.1 (fun _ z => by cases z)))
  · rw [q3]; exact h.rm
theorem aF_n {t k : Nat} (h : ¬ (14 ≤ k ∧ k ≤ 18)) : aF A t k = A k := if_neg h
theorem aF_i {t k : Nat} (h : 14 ≤ k ∧ k ≤ 18) : aF A t k = t + (k - 14) := if_pos h
/-- more room -/
theorem PV_pw (h : PV G t0 H0 K1 K2 n f S A C B Q j el P ND) {x : Int32} {N : Nat} (hx : x.toInt = (N : Int)) (hN : C 2 < N) (hN2 : N ≤ 1000000) (hN3 : 2 * C 2 ≤ N) (hc : 5 ≤ S.2.2.1) (hs : 5 * N ≤ S.2.2.2) : dc_wp (hm_PI_widen G S (A 6) x) (fun T => ∃ g0 g1 g2 g3 g4, PV G t0 H0 K1 K2 n f T (aF A S.2.1) (c1 C 2 N) (b5 B g0 g1 g2 g3 g4) Q j el P ND ∧ ∀ i, i < C 2 → g0 i = B 6 i ∧ g1 i = B 7 i ∧ g2 i = B 8 i ∧ g3 i = B 9 i) := by
  have ne : ∀ i k, i < 19 → k < 19 → ¬ i = k → A i ≠ A k := fun i k hi hk d => h.st.2.1.ne hi hk d
  have lt := h.lt
  obtain ⟨T, eT, g0, g1, g2, g3, g4, q1, q2, q3, q4, q5⟩ := widen_w h.pi h.st.1 hx hN hN2 hc hs
  have s1 : T.2.1 = S.2.1 + 5 := by rw [q4]
  have an : ∀ k, k < 19 → ¬ k = 6 → ¬ (14 ≤ k ∧ k ≤ 18) → hg_at T.1 (A k) = hg_at S.1 (A k) := fun k hk d0 _ => q3 _ (lt k hk) (ne k 6 hk (by omega) d0)
  have nn := h.st.2.2.2.2.2
  refine ⟨T, eT, g0, g1, g2, g3, g4, ⟨⟨q5, ?_, ?_, ?_, h.st.2.2.2.2.1, by omega⟩, (an 0 (by omega) (by omega) (by omega)).trans h.pa, h.lx.fr (an 1 (by omega) (by omega) (by omega)) (an 2 (by omega) (by omega) (by omega)), h.sn.fr (an 3 (by omega) (by omega) (by omega)) (an 8 (by omega) (by omega) (by omega)) (an 9 (by omega) (by omega) (by omega)) (an 10 (by omega) (by omega) (by omega)), h.tn.fr (an 4 (by omega) (by omega) (by omega)) (an 11 (by omega) (by omega) (by omega)) (an 12 (by omega) (by omega) (by omega)) (an 13 (by omega) (by omega) (by omega)), (an 5 (by omega) (by omega) (by omega)).trans h.dr, q1, ?_, ?_, ?_⟩, q2⟩
  · intro i hi k hk e
    by_cases ci : 14 ≤ i ∧ i ≤ 18 <;> by_cases ck : 14 ≤ k ∧ k ≤ 18
    · rw [aF_i ci, aF_i ck] at e; omega
    · rw [aF_i ci, aF_n ck] at e
      have := lt k hk
      omega
    · rw [aF_n ci, aF_i ck] at e
      have := lt i hi
      omega
    · rw [aF_n ci, aF_n ck] at e
      exact h.st.2.1 i hi k hk e
  · intro i hi
    by_cases ci : 14 ≤ i ∧ i ≤ 18
    · rw [aF_i ci]; omega
    · rw [aF_n ci]; exact h.st.2.2.1 i hi
  · intro b hb
    have k0 := h.st.2.2.1 6 (by omega)
    rw [q3 b (by omega) (by omega)]
    exact h.st.2.2.2.1 b hb
  · refine ⟨h.al.fr (an 7 (by omega) (by omega) (by omega)) (fun z => ?_), h.a19⟩
    have l19 : A 19 < S.2.1 := by
      rcases h.al.2 with ⟨y, -⟩ | ⟨-, -, y⟩
      · exact absurd y z
      · exact h.st.1.lt y
    exact q3 _ l19 (h.el_ne z h.pi.1 (fun _ _ _ z => by cases z))
  · exact h.nd.fr (fun i hi => q3 _ (h.st.1.lt (h.nd i hi).2.2.1) (h.nd_ne hi h.pi.1 (fun _ z => by cases z)))
  · have rm := h.rm
    rw [q4]
    show K1 ≤ S.2.2.1 - 5 + (Q 12).toInt.toNat + 3 * C 0 + 3 * C 1 + 5 * N + C 3 ∧ K2 ≤ S.2.2.2 - 5 * N + 13 * (Q 12).toInt.toNat + 6 * C 0 + 6 * C 1 + 10 * N + 4 * C 3
    omega
/-- what a reading of tests changes -/
def evT (A C : Nat → Nat) (B : Nat → Nat → Int32) (Q : Nat → Int32) (M : md_S) (A' C' : Nat → Nat) (B' : Nat → Nat → Int32) (Q' : Nat → Int32) (M' : md_S) : Prop :=
  (∀ k, ¬ (14 ≤ k ∧ k ≤ 18) → A' k = A k) ∧ (∀ k, ¬ k = 2 → C' k = C k) ∧ (∀ k, ¬ (6 ≤ k ∧ k ≤ 10) → B' k = B k) ∧ (∀ k, ¬ (3 ≤ k ∧ k ≤ 6) → ¬ k = 11 → Q' k = Q k) ∧ (∀ k, ¬ (4 ≤ k ∧ k ≤ 8) → ¬ k = 12 → ¬ k = 28 → M'.1 k = M.1 k) ∧ (∀ k, ¬ (36 ≤ k ∧ k ≤ 38) → M'.2.1 k = M.2.1 k) ∧ M'.2.2.2 = M.2.2.2 ∧ (M'.1 12 = 0 → M.1 12 = 0) ∧ (Q 11).toInt ≤ (Q' 11).toInt ∧ (∀ k, k < (Q 11).toInt.toNat → B' 6 k = B 6 k ∧ B' 7 k = B 7 k ∧ B' 8 k = B 8 k ∧ B' 9 k = B 9 k) ∧ (M.1 7).toInt ≤ (M'.1 7).toInt ∧ (M.1 12 = 0 → (Q' 11).toInt ≤ 1000 → M'.1 12 = 0) ∧ (∀ k, (Q 11).toInt.toNat ≤ k → k < (Q' 11).toInt.toNat → B' 6 k = 0 → sV B M (B' 7 k))
theorem evT_rf : evT A C B Q M A C B Q M := ⟨fun _ _ => rfl, fun _ _ => rfl, fun _ _ => rfl, fun _ _ _ => rfl, fun _ _ _ _ => rfl, fun _ _ => rfl, rfl, id, Int.le_refl _, fun _ _ => ⟨rfl, rfl, rfl, rfl⟩, Int.le_refl _, fun z _ => z, fun k h1 h2 => absurd h2 (by omega)⟩
theorem evT_tr {A' C' A2 C2 : Nat → Nat} {B' B2 : Nat → Nat → Int32} {Q' Q2 : Nat → Int32} {M2 : md_S} (h : evT A C B Q M A' C' B' Q' M') (g : evT A' C' B' Q' M' A2 C2 B2 Q2 M2) : evT A C B Q M A2 C2 B2 Q2 M2 := by
  obtain ⟨h1, h2, h3, h4, h5, h6, h7, h8, h9, h10, h11, h12, h13⟩ := h
  obtain ⟨g1, g2, g3, g4, g5, g6, g7, g8, g9, g10, g11, g12, g13⟩ := g
  refine ⟨fun k d => (g1 k d).trans (h1 k d), fun k d => (g2 k d).trans (h2 k d), fun k d => (g3 k d).trans (h3 k d), fun k d e => (g4 k d e).trans (h4 k d e), fun k d e i => (g5 k d e i).trans (h5 k d e i), fun k d => (g6 k d).trans (h6 k d), g7.trans h7, fun z => h8 (g8 z), Int.le_trans h9 g9, fun k hk => ?_, Int.le_trans h11 g11, fun z hz => g12 (h12 z (by omega)) hz, fun k k1 k2 k3 => ?_⟩
  · obtain ⟨x1, x2, x3, x4⟩ := h10 k hk
    obtain ⟨y1, y2, y3, y4⟩ := g10 k (by omega)
    exact ⟨y1.trans x1, y2.trans x2, y3.trans x3, y4.trans x4⟩
  · by_cases c : k < (Q' 11).toInt.toNat
    · obtain ⟨y1, y2, -, -⟩ := g10 k c
      rw [y2]
      exact h13 k k1 c (by rw [← y1]; exact k3)
    · obtain ⟨i, i1, i2⟩ := g13 k (by omega) k2 k3
      rw [h5 18 (by omega) (by omega) (by omega)] at i1
      rw [h3 2 (by omega)] at i2
      exact ⟨i, i1, i2⟩
theorem evT_adv (r : radv M M') (hp : (M.1 7).toInt ≤ (M.1 4).toInt) {a b c d : Int32} : evT A C B Q M A C B (q4 Q a b c d) M' := by
  obtain ⟨m1, m2, m3, -, m5, -⟩ := r
  refine ⟨fun _ _ => rfl, fun _ _ => rfl, fun _ _ => rfl, fun k d _ => ?_, fun k d _ _ => m1 k (by omega) (by omega) (by omega) (by omega) (by omega), fun k _ => by rw [m2], m3, fun z => by rw [m1 12 (by omega) (by omega) (by omega) (by omega) (by omega)] at z; exact z, Int.le_refl _, fun _ _ => ⟨rfl, rfl, rfl, rfl⟩, by omega, fun z _ => by rw [m1 12 (by omega) (by omega) (by omega) (by omega) (by omega)]; exact z, fun k k1 k2 => absurd k2 (by show ¬ k < (Q 11).toInt.toNat; omega)⟩
  unfold q4
  rw [if_neg (by omega), if_neg (by omega), if_neg (by omega), if_neg (by omega)]
/-- the reference's piece -/
theorem piece_i {k p s : Int32} {q : md_S × Int32} (hq : mm_piece_III M k p s = some q) : (M.1 28 = 1000 ∧ q = (md_i M 12 1, 0)) ∨ (¬ M.1 28 = 1000 ∧ (0 ≤ (M.1 28).toInt ∧ (M.1 28).toInt < 1000) ∧ q.1 = md_i (md_a (md_a (md_a M 36 (M.1 28).toInt.toNat k) 37 (M.1 28).toInt.toNat p) 38 (M.1 28).toInt.toNat s) 28 (M.1 28 + 1) ∧ q.2 = M.1 28) := by
  delta mm_piece_III at hq
  rcases iv_if hq with ⟨c, g⟩ | ⟨c, g⟩
  · have g : some (md_i M 12 1, (0 : Int32)) = some q := g
    exact Or.inl ⟨c, (Option.some.inj g).symm⟩
  · obtain ⟨x1, x2, g⟩ := iv_ix g
    obtain ⟨-, -, g⟩ := iv_ix g
    obtain ⟨-, -, g⟩ := iv_ix g
    have g : some (md_i (md_a (md_a (md_a M 36 (M.1 28).toInt.toNat k) 37 (M.1 28).toInt.toNat p) 38 (M.1 28).toInt.toNat s) 28 (M.1 28 + 1), (M.1 28 + 1) - 1) = some q := g
    refine Or.inr ⟨c, ⟨x1, x2⟩, ?_, ?_⟩
    · exact congrArg Prod.fst (Option.some.inj g).symm
    · rw [← congrArg Prod.snd (Option.some.inj g)]
      show (M.1 28 + 1) - 1 = M.1 28
      have e1 : (M.1 28 + 1).toInt = (M.1 28).toInt + 1 := by rw [i_addS (by rw [il_1]; omega), il_1]
      refine i_eq.mpr ?_
      rw [i_subS (by rw [e1, il_1]; omega), e1, il_1]
      omega
end PVP
