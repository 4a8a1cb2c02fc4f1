/-! a statement read on both sides -/
def stOc (G : hg_E) (t0 : Nat) (H0 : Nat → Option va_E) (K1 K2 n : Nat) (f : Nat → Int32) (d2 : Nat) (A C : Nat → Nat) (B : Nat → Nat → Int32) (Q : Nat → Int32) (P : Nat → Nat) (ND : Nat → ndT) (M : md_S) (u w p0 : Int) (S' : hg_S) (r : Option Nat) (M' : md_S) (s c : Int32) : Prop :=
  ∃ A' C' B' Q' j' el' P' ND' T i I, PV G t0 H0 K1 K2 n f S' A' C' B' Q' j' el' P' ND' ∧ RM M' C' B' n f Q' j' (M'.1 7).toInt (u + 6 * ((M'.1 7).toInt - p0)) (w + ((M'.1 7).toInt - p0)) ∧ evS A C B Q P ND M A' C' B' Q' P' ND' M' ∧ (r = some (P' i) ∧ i + 1 = (Q' 12).toInt.toNat ∧ repC ND' T i I ∧ cov I (Q 12).toInt.toNat (Q' 12).toInt.toNat) ∧ ((M'.1 12 = 0 → repR M' T s) ∧ FB M Q B M' Q' B' d2 T ∧ GK (tsz T : Int) (Q' 11).toInt M M') ∧ BU (eM B M) (M.1 20) (Q 9) (M.1 13) (M.1 14) p0 T c (M'.1 20) (Q' 9) (M'.1 13) (M'.1 14) (M'.1 7).toInt ∧ (M'.1 20).toInt ≤ (M.1 20).toInt + ((M'.1 7).toInt - p0) ∧ p0 < (M'.1 7).toInt
def stO (G : hg_E) (t0 : Nat) (H0 : Nat → Option va_E) (K1 K2 n : Nat) (f : Nat → Int32) (d2 : Nat) (A C : Nat → Nat) (B : Nat → Nat → Int32) (Q : Nat → Int32) (P : Nat → Nat) (ND : Nat → ndT) (M : md_S) (u w p0 : Int) (S' : hg_S) (r : Option Nat) (q : md_S × Int32) : Prop := stOc G t0 H0 K1 K2 n f d2 A C B Q P ND M u w p0 S' r q.1 q.2 (q.1.1 29)
/-- reading without what was read before -/
def StP (G : hg_E) (t0 : Nat) (H0 : Nat → Option va_E) (K1 K2 n : Nat) (f : Nat → Int32) (d : Nat) (c : Int) (cl : hg_E → hg_S → Nat → Option ((hg_S × (Option Nat)) ⊕ hg_X)) (rf : md_S → Option (md_S × Int32)) : Prop :=
  ∀ (S : hg_S) (A C : Nat → Nat) (B : Nat → Nat → Int32) (Q : Nat → Int32) (j : Nat) (el : Nat → Option Nat) (P : Nat → Nat) (ND : Nat → ndT) (M : md_S) (b u w : Int) (q : md_S × Int32), PV G t0 H0 K1 K2 n f S A C B Q j el P ND → RM M C B n f Q j b u w → b ≤ (M.1 7).toInt → RS M B Q → 5 * (24 - (M.1 11).toInt) + c ≤ (d : Int) → rf M = some q → dc_wp (cl G S (A 0)) (fun z => (∃ S' r, z = .inl (S', r) ∧ stO G t0 H0 K1 K2 n f (100 * (2 * d) + (26 - (M.1 11).toInt).toNat) A C B Q P ND M u w (M.1 7).toInt S' r q) ∨ ∃ X : hg_X, z = .inr X ∧ thr t0 H0 K1 K2 n (A 0) (A 1) X q.1)
theorem BU_end {E : List (Int32 × Int32)} {s tm a l : Int32} {p : Int} {T : tT} {c s' tm' a' l' : Int32} {p' p'' : Int} (h : BU E s tm a l p T c s' tm' a' l' p') (hp : p' ≤ p'') : BU E s tm a l p T c s' tm' a' l' p'' := by
  obtain ⟨h1, ⟨h2, h3, h4⟩, ⟨h5, h6⟩, h7⟩ := h
  refine ⟨h1, ⟨h2, h3, by omega⟩, ⟨h5, fun z => ?_⟩, h7⟩
  rcases h6 z with y | ⟨y, y1, y2, y3, y4⟩
  · exact Or.inl y
  · exact Or.inr ⟨y, y1, y2, y3, by omega⟩
theorem EOK.mono {E : List (Int32 × Int32)} {s tm s' tm' : Int32} (h : EOK E s tm) (h1 : s.toInt ≤ s'.toInt) (h2 : tm.toInt ≤ tm'.toInt) : EOK E s' tm' := by
  obtain ⟨a1, a2, a3, a4⟩ := h
  refine ⟨⟨by omega, by omega⟩, a2, fun p hp => ?_, a4⟩
  have := a3 p hp
  omega
theorem repC_ln : ∀ {ND : Nat → ndT} {T : tT} {i : Nat} {I : List Nat}, repC ND T i I → (ND i).2.1 = (tlab T).2.1
  | _, .const _, _, _, ⟨_, h2⟩ => by rw [h2]; rfl
  | _, .unary _ _, _, _, ⟨_, _, _, h2, _⟩ => by rw [h2]; rfl
  | _, .binary _ _ _, _, _, ⟨_, _, _, _, _, h2, _⟩ => by rw [h2]; rfl
theorem repR_ln : ∀ {M : md_S} {T : tT} {s : Int32}, repR M T s → M.2.1 34 s.toInt.toNat = (tlab T).2.1
  | _, .const _, _, h => h.2.2.2.2.2.1
  | _, .unary _ _, _, ⟨_, _, _, h3, _⟩ => h3.2.2.2.2.1
  | _, .binary _ _ _, _, ⟨_, _, _, _, _, h4, _⟩ => h4.2.2.2.2.1
section STO
variable {G : hg_E} {sz t0' : Nat} {H0 : Nat → Option va_E} {K1 K2 n : Nat} {f : Nat → Int32} {S S' : hg_S} {A C A' C' : Nat → Nat} {B B' : Nat → Nat → Int32} {Q Q' : Nat → Int32} {j : Nat} {el el' : Nat → Option Nat} {P P' : Nat → Nat} {ND ND' : Nat → ndT} {M M' : md_S} {b u w u' w' : Int}
theorem RC_of (h : PV G t0' H0 K1 K2 n f S A C B Q j el P ND) (r : RM M C B n f Q j b u w) (hK : 40 * n + 70 ≤ K1 ∧ 200 * n + 400 ≤ K2) : RC n K1 K2 C Q := by
  obtain ⟨r1, -, -, -, ⟨⟨p1, p2, p3⟩, -⟩, -, -, -, -, ⟨⟨b1, b2, b3⟩, ⟨b4, b5, b6⟩, b7, b8⟩, ⟨-, c0⟩, ⟨-, c1⟩, ⟨-, c2⟩, c3, c4⟩ := r
  have hn := r1.1
  refine ⟨hK, ⟨by omega, by omega, by omega⟩, ⟨c4, b4, c3⟩, by omega⟩
/-- the class makes nodes -/
theorem RM_C (r : RM M C B n f Q j b u w) (ev : evC A C Q P ND A' C' Q' P' ND') (rc : RC n K1 K2 C' Q') (h1 : (Q' 12).toInt ≤ u') (h2 : u' ≤ 6 * (M.1 7).toInt) : RM M C' B n f Q' j b u' w := by
  obtain ⟨r1, r2, r3, r4, r5, r6, r7, r8, r9, ⟨b1, ⟨b4, b5, b6⟩, b7⟩, c0, c1, c2, c3⟩ := r
  have q := fun k (d : ¬ k = 12) (e : ¬ k = 13) => ev.2.2.1 k d e
  have cc := fun k (d : ¬ k = 3) => ev.2.1 k d
  have q3 := q 3 (by omega) (by omega)
  have q4 := q 4 (by omega) (by omega)
  have q5 := q 5 (by omega) (by omega)
  have q6 := q 6 (by omega) (by omega)
  have q7 := q 7 (by omega) (by omega)
  have q8 := q 8 (by omega) (by omega)
  have q9 := q 9 (by omega) (by omega)
  have q10 := q 10 (by omega) (by omega)
  have q11 := q 11 (by omega) (by omega)
  have q2 := q 2 (by omega) (by omega)
  have C0 := cc 0 (by omega)
  have C1 := cc 1 (by omega)
  have C2 := cc 2 (by omega)
  unfold RM
  rw [q2, q3, q4, q5, q6, q7, q8, q9, q10, q11, C0, C1, C2]
  exact ⟨r1, r2, r3, r4, r5, r6, r7, r8, r9, ⟨b1, ⟨rc.2.2.1.2.1, h1, h2⟩, b7⟩, c0, c1, c2, rc.2.2.1.2.2, rc.2.2.1.1⟩
/-- the reference makes nodes -/
theorem RM_R (r : RM M C B n f Q j b u w) (ev : evR M M') : RM M' C B n f Q j b u w := by
  obtain ⟨e1, e2, e3, e4⟩ := ev
  have m := fun k (d : ¬ k = 12) (e : ¬ k = 27) => e1 k d e
  have a := fun k (d : ¬ (30 ≤ k ∧ k ≤ 35)) => e2 k d
  obtain ⟨⟨r1, r1', r1''⟩, r2, r3, r4, r5, r6, r7, r8, ⟨i1, i2, i3⟩, r10⟩ := r
  unfold RM txR
  rw [m 2 (by omega) (by omega), m 4 (by omega) (by omega), m 5 (by omega) (by omega), m 6 (by omega) (by omega), m 7 (by omega) (by omega), m 8 (by omega) (by omega), m 10 (by omega) (by omega), m 11 (by omega) (by omega), m 15 (by omega) (by omega), m 18 (by omega) (by omega), m 19 (by omega) (by omega), m 28 (by omega) (by omega), e3, a 1 (by omega), a 21 (by omega), a 22 (by omega), a 23 (by omega), a 24 (by omega), a 25 (by omega), a 36 (by omega), a 37 (by omega), a 38 (by omega)]
  exact ⟨⟨r1, r1', r1''⟩, r2, r3, r4, r5, r6, r7, r8, ⟨i1, i2, fun z => i3 (e4 z).1⟩, r10⟩
theorem RM_i (r : RM M C B n f Q j b u w) {k : Nat} {v : Int32} (hk : k = 13 ∨ k = 14 ∨ k = 20 ∨ k = 29) : RM (md_i M k v) C B n f Q j b u w := by
  have m : ∀ i, ¬ i = k → (md_i M k v).1 i = M.1 i := fun i d => md_ij d
  unfold RM txR
  rw [m 2 (by omega), m 4 (by omega), m 5 (by omega), m 6 (by omega), m 7 (by omega), m 8 (by omega), m 10 (by omega), m 11 (by omega), m 12 (by omega), m 15 (by omega), m 18 (by omega), m 19 (by omega), m 28 (by omega)]
  exact r
/-- what stands behind a statement is as it was ahead of it -/
theorem RS_next (rs : RS M B Q) {p0 : Int} {T : tT} {c : Int32} (ev : evS A C B Q P ND M A' C' B' Q' P' ND' M') (h : BU (eM B M) (M.1 20) (Q 9) (M.1 13) (M.1 14) p0 T c (M'.1 20) (Q' 9) (M'.1 13) (M'.1 14) (M'.1 7).toInt) (hs : (M'.1 20).toInt ≤ (M.1 20).toInt + ((M'.1 7).toInt - p0)) (h0 : (M.1 13).toInt < p0 ∨ M.1 13 = 32768) (h1 : (M.1 20).toInt ≤ p0) : RS M' B' Q' := by
  obtain ⟨e1, -, -, e4, e5⟩ := rs
  obtain ⟨-, ⟨b1, b2, b3⟩, ⟨b4, b5⟩, -⟩ := h
  refine ⟨?_, ?_, by omega, by rw [ev.2.1.1, ev.2.2.1.2.2.1]; exact e4, by rw [ev.2.2.1.2.2.1]; exact e5⟩
  · rw [eM_ev ev]
    exact e1.mono b1 b2
  · rcases h0 with z | z
    · rw [(b4 z).1]
      left
      omega
    · rcases b5 z with ⟨-, y⟩ | ⟨y, -, -, -, y4⟩
      · exact Or.inr y
      · exact Or.inl y4
theorem RS_adv (rs : RS M B Q) (r : radv M M') (hp : (M.1 7).toInt ≤ (M.1 4).toInt) {a b c d : Int32} : RS M' B (q4 Q a b c d) := by
  obtain ⟨m1, m2, -, -, ⟨m5, -, -⟩, -⟩ := r
  have m := fun k (d : ¬ (4 ≤ k ∧ k ≤ 8)) => m1 k (by omega) (by omega) (by omega) (by omega) (by omega)
  obtain ⟨e1, e2, e3, e4, e5⟩ := rs
  unfold RS
  have ee : eM B M' = eM B M := by
    show envP (B 5) (M'.2.1 26) (M'.1 19).toInt.toNat = _
    rw [m2, m 19 (by omega)]
  rw [ee, m 20 (by omega), m 13 (by omega), m 16 (by omega)]
  exact ⟨e1, e2.imp (fun z => by omega) id, by omega, e4, e5⟩
end STO
