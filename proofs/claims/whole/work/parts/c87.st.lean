/-! what a statement comes to, on both sides -/
def envP (bn rs : Nat → Int32) : Nat → List (Int32 × Int32)
  | 0 => []
  | k + 1 => (bn k, rs k) :: envP bn rs k
theorem envP_congr {bn rs bn' rs' : Nat → Int32} : ∀ (k : Nat), (∀ i, i < k → bn' i = bn i ∧ rs' i = rs i) → envP bn' rs' k = envP bn rs k
  | 0, _ => rfl
  | k + 1, h => by
    show (bn' k, rs' k) :: envP bn' rs' k = (bn k, rs k) :: envP bn rs k
    rw [(h k (by omega)).1, (h k (by omega)).2, envP_congr k (fun i hi => h i (by omega))]
abbrev eM (B : Nat → Nat → Int32) (M : md_S) : List (Int32 × Int32) := envP (B 5) (M.2.1 26) (M.1 19).toInt.toNat
def RS (M : md_S) (B : Nat → Nat → Int32) (Q : Nat → Int32) : Prop := EOK (eM B M) (M.1 20) (Q 9) ∧ ((M.1 13).toInt < (M.1 7).toInt ∨ M.1 13 = 32768) ∧ (M.1 20).toInt ≤ (M.1 7).toInt ∧ Q 0 = M.1 16 ∧ 0 ≤ (M.1 16).toInt
def evS (A C : Nat → Nat) (B : Nat → Nat → Int32) (Q : Nat → Int32) (P : Nat → Nat) (ND : Nat → ndT) (M : md_S) (A' C' : Nat → Nat) (B' : Nat → Nat → Int32) (Q' : Nat → Int32) (P' : Nat → Nat) (ND' : Nat → ndT) (M' : md_S) : Prop :=
  (∀ k, k < 8 → A' k = A k) ∧ (Q' 0 = Q 0 ∧ Q' 1 = Q 1 ∧ Q' 2 = Q 2 ∧ Q' 8 = Q 8 ∧ Q' 10 = Q 10) ∧ (M'.1 2 = M.1 2 ∧ M'.1 11 = M.1 11 ∧ M'.1 16 = M.1 16 ∧ M'.1 17 = M.1 17 ∧ M'.1 18 = M.1 18 ∧ M'.1 19 = M.1 19) ∧
  ((Q 12).toInt ≤ (Q' 12).toInt ∧ ∀ i, i < (Q 12).toInt.toNat → P' i = P i ∧ ND' i = ND i) ∧
  ((Q 11).toInt ≤ (Q' 11).toInt ∧ ∀ k, k < (Q 11).toInt.toNat → B' 6 k = B 6 k ∧ B' 7 k = B 7 k ∧ B' 8 k = B 8 k ∧ B' 9 k = B 9 k) ∧
  (∀ k, k < (M.1 19).toInt.toNat → B' 5 k = B 5 k ∧ M'.2.1 26 k = M.2.1 26 k) ∧
  (M'.1 12 = 0 → M.1 12 = 0 ∧ (M.1 27).toInt ≤ (M'.1 27).toInt ∧ ∀ k i, 30 ≤ k → k ≤ 35 → i < (M.1 27).toInt.toNat → M'.2.1 k i = M.2.1 k i) ∧
  (M.1 7).toInt ≤ (M'.1 7).toInt ∧ (∀ k, k < (M.1 18).toInt.toNat → B' 2 k = B 2 k) ∧ (M.1 15).toInt ≤ (M'.1 15).toInt
section EVS
variable {A C A' C' A2 C2 P P' P2 : Nat → Nat} {B B' B2 : Nat → Nat → Int32} {Q Q' Q2 : Nat → Int32} {ND ND' ND2 : Nat → ndT} {M M' M2 : md_S}
theorem evS_rf : evS A C B Q P ND M A C B Q P ND M := ⟨fun _ _ => rfl, ⟨rfl, rfl, rfl, rfl, rfl⟩, ⟨rfl, rfl, rfl, rfl, rfl, rfl⟩, ⟨Int.le_refl _, fun _ _ => ⟨rfl, rfl⟩⟩, ⟨Int.le_refl _, fun _ _ => ⟨rfl, rfl, rfl, rfl⟩⟩, fun _ _ => ⟨rfl, rfl⟩, fun z => ⟨z, Int.le_refl _, fun _ _ _ _ _ => rfl⟩, Int.le_refl _, fun _ _ => rfl, Int.le_refl _⟩
theorem evS_tr (h : evS A C B Q P ND M A' C' B' Q' P' ND' M') (g : evS A' C' B' Q' P' ND' M' A2 C2 B2 Q2 P2 ND2 M2) : evS A C B Q P ND M A2 C2 B2 Q2 P2 ND2 M2 := by
  obtain ⟨h1, ⟨h2, h3, h4, h5, h6⟩, ⟨h7, h8, h9, h10, h11, h12⟩, ⟨h13, h14⟩, ⟨h15, h16⟩, h17, h18, h19, h20, h21⟩ := h
  obtain ⟨g1, ⟨g2, g3, g4, g5, g6⟩, ⟨g7, g8, g9, g10, g11, g12⟩, ⟨g13, g14⟩, ⟨g15, g16⟩, g17, g18, g19, g20, g21⟩ := g
  refine ⟨fun k d => (g1 k d).trans (h1 k d), ⟨g2.trans h2, g3.trans h3, g4.trans h4, g5.trans h5, g6.trans h6⟩, ⟨g7.trans h7, g8.trans h8, g9.trans h9, g10.trans h10, g11.trans h11, g12.trans h12⟩, ⟨Int.le_trans h13 g13, fun i hi => ?_⟩, ⟨Int.le_trans h15 g15, fun k hk => ?_⟩, fun k hk => ?_, fun z => ?_, Int.le_trans h19 g19, fun k hk => (g20 k (by rw [h11]; exact hk)).trans (h20 k hk), Int.le_trans h21 g21⟩
  · obtain ⟨x1, x2⟩ := h14 i hi
    obtain ⟨y1, y2⟩ := g14 i (by omega)
    exact ⟨y1.trans x1, y2.trans x2⟩
  · obtain ⟨x1, x2, x3, x4⟩ := h16 k hk
    obtain ⟨y1, y2, y3, y4⟩ := g16 k (by omega)
    exact ⟨y1.trans x1, y2.trans x2, y3.trans x3, y4.trans x4⟩
  · obtain ⟨x1, x2⟩ := h17 k hk
    obtain ⟨y1, y2⟩ := g17 k (by rw [h12]; exact hk)
    exact ⟨y1.trans x1, y2.trans x2⟩
  · obtain ⟨y1, y2, y3⟩ := g18 z
    obtain ⟨x1, x2, x3⟩ := h18 y1
    exact ⟨x1, Int.le_trans x2 y2, fun k i k1 k2 hi => (y3 k i k1 k2 (by omega)).trans (x3 k i k1 k2 hi)⟩
theorem evS_T (h : evT A C B Q M A' C' B' Q' M') : evS A C B Q P ND M A' C' B' Q' P ND M' := by
  obtain ⟨h1, h2, h3, h4, h5, h6, h7, h8, h9, h10, h11, -, -⟩ := h
  have q := fun k (d : ¬ (3 ≤ k ∧ k ≤ 6)) (e : ¬ k = 11) => h4 k d e
  have m := fun k (d : ¬ (4 ≤ k ∧ k ≤ 8)) (e : ¬ k = 12) (i : ¬ k = 28) => h5 k d e i
  refine ⟨fun k d => h1 k (by omega), ⟨q 0 (by omega) (by omega), q 1 (by omega) (by omega), q 2 (by omega) (by omega), q 8 (by omega) (by omega), q 10 (by omega) (by omega)⟩, ⟨m 2 (by omega) (by omega) (by omega), m 11 (by omega) (by omega) (by omega), m 16 (by omega) (by omega) (by omega), m 17 (by omega) (by omega) (by omega), m 18 (by omega) (by omega) (by omega), m 19 (by omega) (by omega) (by omega)⟩, ⟨by rw [q 12 (by omega) (by omega)]; exact Int.le_refl _, fun _ _ => ⟨rfl, rfl⟩⟩, ⟨h9, h10⟩, fun k hk => ⟨by rw [h3 5 (by omega)], by rw [h6 26 (by omega)]⟩, fun z => ⟨h8 z, by rw [m 27 (by omega) (by omega) (by omega)]; exact Int.le_refl _, fun k i k1 k2 _ => by rw [h6 k (by omega)]⟩, h11, fun k _ => by rw [h3 2 (by omega)], by rw [m 15 (by omega) (by omega) (by omega)]; exact Int.le_refl _⟩
theorem evS_adv (r : radv M M') (hp : (M.1 7).toInt ≤ (M.1 4).toInt) {a b c d : Int32} : evS A C B Q P ND M A C B (q4 Q a b c d) P ND M' := evS_T (evT_adv r hp)
theorem evS_C (h : evC A C Q P ND A' C' Q' P' ND') : evS A C B Q P ND M A' C' B Q' P' ND' M := by
  obtain ⟨h1, h2, h3, h4, h5⟩ := h
  have q := fun k (d : ¬ k = 12) (e : ¬ k = 13) => h3 k d e
  exact ⟨fun k d => h1 k (by omega), ⟨q 0 (by omega) (by omega), q 1 (by omega) (by omega), q 2 (by omega) (by omega), q 8 (by omega) (by omega), q 10 (by omega) (by omega)⟩, ⟨rfl, rfl, rfl, rfl, rfl, rfl⟩, ⟨h4, h5⟩, ⟨by rw [q 11 (by omega) (by omega)]; exact Int.le_refl _, fun _ _ => ⟨rfl, rfl, rfl, rfl⟩⟩, fun _ _ => ⟨rfl, rfl⟩, fun z => ⟨z, Int.le_refl _, fun _ _ _ _ _ => rfl⟩, Int.le_refl _, fun _ _ => rfl, Int.le_refl _⟩
/-- the reference makes nodes, with other codes and serials -/
theorem evS_R (h : evR M M') : evS A C B Q P ND M A C B Q P ND M' := by
  obtain ⟨h1, h2, h3, h4⟩ := h
  have m := fun k (d : ¬ k = 12) (e : ¬ k = 27) => h1 k d e
  exact ⟨fun _ _ => rfl, ⟨rfl, rfl, rfl, rfl, rfl⟩, ⟨m 2 (by omega) (by omega), m 11 (by omega) (by omega), m 16 (by omega) (by omega), m 17 (by omega) (by omega), m 18 (by omega) (by omega), m 19 (by omega) (by omega)⟩, ⟨Int.le_refl _, fun _ _ => ⟨rfl, rfl⟩⟩, ⟨Int.le_refl _, fun _ _ => ⟨rfl, rfl, rfl, rfl⟩⟩, fun k _ => ⟨rfl, by rw [h2 26 (by omega)]⟩, fun z => ⟨(h4 z).1, (h4 z).2.1, fun k i _ _ hi => (h4 z).2.2 k i hi⟩, by rw [m 7 (by omega) (by omega)]; exact Int.le_refl _, fun _ _ => rfl, by rw [m 15 (by omega) (by omega)]; exact Int.le_refl _⟩
theorem evS_i {k : Nat} {v : Int32} (h : ¬ k = 2 ∧ ¬ k = 7 ∧ ¬ k = 11 ∧ ¬ k = 12 ∧ ¬ k = 15 ∧ ¬ k = 16 ∧ ¬ k = 17 ∧ ¬ k = 18 ∧ ¬ k = 19 ∧ ¬ k = 27) : evS A C B Q P ND M A C B Q P ND (md_i M k v) := by
  have m : ∀ i, ¬ i = k → (md_i M k v).1 i = M.1 i := fun i d => md_ij d
  exact ⟨fun _ _ => rfl, ⟨rfl, rfl, rfl, rfl, rfl⟩, ⟨m 2 (by omega), m 11 (by omega), m 16 (by omega), m 17 (by omega), m 18 (by omega), m 19 (by omega)⟩, ⟨Int.le_refl _, fun _ _ => ⟨rfl, rfl⟩⟩, ⟨Int.le_refl _, fun _ _ => ⟨rfl, rfl, rfl, rfl⟩⟩, fun _ _ => ⟨rfl, rfl⟩, fun z => ⟨by rw [m 12 (by omega)] at z; exact z, by rw [m 27 (by omega)]; exact Int.le_refl _, fun _ _ _ _ _ => rfl⟩, by rw [m 7 (by omega)]; exact Int.le_refl _, fun _ _ => rfl, by rw [m 15 (by omega)]; exact Int.le_refl _⟩
theorem eM_ev (h : evS A C B Q P ND M A' C' B' Q' P' ND' M') : eM B' M' = eM B M := by
  obtain ⟨-, -, ⟨-, -, -, -, -, h12⟩, -, -, h17, -⟩ := h
  show envP (B' 5) (M'.2.1 26) (M'.1 19).toInt.toNat = envP (B 5) (M.2.1 26) (M.1 19).toInt.toNat
  rw [h12]
  exact envP_congr _ h17
theorem repR_rows {g : Nat → Nat → Int32} : ∀ {T : tT} {s : Int32}, repR M T s → repR (M.1, fun k => if 30 ≤ k ∧ k ≤ 35 then M.2.1 k else g k, M.2.2) T s
  | .const _, _, h => h
  | .unary _ _, _, ⟨h1, s1, h2, h3, h4⟩ => ⟨h1, s1, h2, h3, repR_rows h4⟩
  | .binary _ _ _, _, ⟨h1, s1, s2, h2, h3, h4, h5, h6⟩ => ⟨h1, s1, s2, h2, h3, h4, repR_rows h5, repR_rows h6⟩
theorem repR_S {T : tT} {s : Int32} (h : M.1 12 = 0 → repR M T s) (ev : evS A C B Q P ND M A' C' B' Q' P' ND' M') (z : M'.1 12 = 0) : repR M' T s := by
  obtain ⟨x1, x2, x3⟩ := ev.2.2.2.2.2.2.1 z
  refine (repR_ext (M := (M.1, fun k => if 30 ≤ k ∧ k ≤ 35 then M.2.1 k else M'.2.1 k, M.2.2)) (M' := M') x2 (fun k i hi => ?_) T s ?_)
  · show M'.2.1 k i = (if 30 ≤ k ∧ k ≤ 35 then M.2.1 k else M'.2.1 k) i
    by_cases c : 30 ≤ k ∧ k ≤ 35
    · rw [if_pos c]; exact x3 k i c.1 c.2 hi
    · rw [if_neg c]
  · exact repR_rows (h x1)
end EVS
