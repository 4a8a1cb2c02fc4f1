/-! two loops side by side; a name brought in, seen from the parser -/
def itF {α β : Type} (r : α → Option (α ⊕ β)) (q : α ⊕ β) (z : β) : Prop := match q with | .inl y => dc_it r y = some z | .inr b => b = z
theorem it_both {α β α' β' : Type} {s : α → Option (α ⊕ β)} {r : α' → Option (α' ⊕ β')} (I : α → α' → Prop) (F : β → β' → Prop) (hs : ∀ x y, I x y → ∀ q, r y = some q → dc_wp (s x) (fun z => (∃ x' y', z = .inl x' ∧ q = .inl y' ∧ I x' y') ∨ (∃ b, z = .inr b ∧ ∀ z', itF r q z' → F b z'))) : ∀ (z' : β') (x : α) (y : α'), I x y → dc_it r y = some z' → dc_wp (dc_it s x) (fun b => F b z') := by
  intro z' x y hI h
  obtain ⟨N, hN⟩ := dc_it_iff.mp h
  clear h
  induction N generalizing x y with
  | zero => cases hN
  | succ N ih =>
    unfold dc_itN at hN
    revert hN
    cases hr : r y with
    | none => intro hN; cases hN
    | some q =>
      intro hN
      obtain ⟨z, ez, hz⟩ := hs x y hI q hr
      rcases hz with ⟨x', y', rfl, rfl, h'⟩ | ⟨b, rfl, h'⟩
      · obtain ⟨c, e, g⟩ := ih x' y' h' hN
        refine ⟨c, ?_, g⟩
        rw [dc_it_eq, ez]
        exact e
      · refine ⟨b, ?_, ?_⟩
        · rw [dc_it_eq, ez]; rfl
        · cases q with
          | inl y' => exact h' z' (dc_it_iff.mpr ⟨N, hN⟩)
          | inr b' => exact h' z' (Option.some.inj hN)
def a3 (A : Nat → Nat) (i x y z : Nat) : Nat → Nat := fun k => if k = i then x else if k = i + 1 then y else if k = i + 2 then z else A k
theorem a3_0 {A : Nat → Nat} {i x y z : Nat} : a3 A i x y z i = x := if_pos rfl
theorem a3_1 {A : Nat → Nat} {i x y z : Nat} : a3 A i x y z (i + 1) = y := by
  unfold a3; rw [if_neg (by omega), if_pos rfl]
theorem a3_2 {A : Nat → Nat} {i x y z : Nat} : a3 A i x y z (i + 2) = z := by
  unfold a3; rw [if_neg (by omega), if_neg (by omega), if_pos rfl]
theorem a3_n {A : Nat → Nat} {i x y z k : Nat} (h : ¬ (i ≤ k ∧ k ≤ i + 2)) : a3 A i x y z k = A k := by
  unfold a3; rw [if_neg (by omega), if_neg (by omega), if_neg (by omega)]
theorem a3_c {A : Nat → Nat} {i x y z k : Nat} : (k = i ∧ a3 A i x y z k = x) ∨ (k = i + 1 ∧ a3 A i x y z k = y) ∨ (k = i + 2 ∧ a3 A i x y z k = z) ∨ (¬ (i ≤ k ∧ k ≤ i + 2) ∧ a3 A i x y z k = A k) := by
  by_cases h0 : k = i
  · left; rw [h0]; exact ⟨rfl, a3_0⟩
  · by_cases h1 : k = i + 1
    · right; left; rw [h1]; exact ⟨rfl, a3_1⟩
    · by_cases h2 : k = i + 2
      · right; right; left; rw [h2]; exact ⟨rfl, a3_2⟩
      · right; right; right; exact ⟨by omega, a3_n (by omega)⟩
theorem inA_a3 {A : Nat → Nat} {i x y z : Nat} (h : inA A) (xy : x ≠ y) (xz : x ≠ z) (yz : y ≠ z) (hx : ∀ k, k < 19 → ¬ (i ≤ k ∧ k ≤ i + 2) → A k ≠ x ∧ A k ≠ y ∧ A k ≠ z) : inA (a3 A i x y z) := by
  intro k hk l hl e
  rcases a3_c (A := A) (i := i) (x := x) (y := y) (z := z) (k := k) with ⟨k1, k2⟩ | ⟨k1, k2⟩ | ⟨k1, k2⟩ | ⟨k1, k2⟩ <;> rcases a3_c (A := A) (i := i) (x := x) (y := y) (z := z) (k := l) with ⟨l1, l2⟩ | ⟨l1, l2⟩ | ⟨l1, l2⟩ | ⟨l1, l2⟩ <;> rw [k2, l2] at e
  · omega
  · exact absurd e xy
  · exact absurd e xz
  · exact absurd e.symm (hx l hl l1).1
  · exact absurd e.symm xy
  · omega
  · exact absurd e yz
  · exact absurd e.symm (hx l hl l1).2.1
  · exact absurd e.symm xz
  · exact absurd e.symm yz
  · omega
  · exact absurd e.symm (hx l hl l1).2.2
  · exact absurd e (hx k hk k1).1
  · exact absurd e (hx k hk k1).2.1
  · exact absurd e (hx k hk k1).2.2
  · exact h k hk l hl e
section PVB
variable {G : hg_E} {sz t0 : Nat} {H0 : Nat → Option va_E} {K1 K2 n : Nat} {f : Nat → Int32} {S S' : hg_S} {A C : Nat → Nat} {B : Nat → Nat → Int32} {Q : Nat → Int32} {j : Nat} {el : Nat → Option Nat} {P : Nat → Nat} {ND : Nat → ndT} {M M' : md_S} {b u w : Int}
theorem PV.lt (h : PV G t0 H0 K1 K2 n f S A C B Q j el P ND) : ∀ i, i < 19 → A i < S.2.1
  | 0, _ => h.st.1.lt h.pa
  | 1, _ => h.st.1.lt h.lx.1
  | 2, _ => h.st.1.lt h.lx.2.1
  | 3, _ => h.st.1.lt h.sn.1
  | 4, _ => h.st.1.lt h.tn.1
  | 5, _ => h.st.1.lt h.dr
  | 6, _ => h.st.1.lt h.pi.1
  | 7, _ => h.st.1.lt h.al.1
  | 8, _ => h.st.1.lt h.sn.2.1
  | 9, _ => h.st.1.lt h.sn.2.2.1
  | 10, _ => h.st.1.lt h.sn.2.2.2
  | 11, _ => h.st.1.lt h.tn.2.1
  | 12, _ => h.st.1.lt h.tn.2.2.1
  | 13, _ => h.st.1.lt h.tn.2.2.2
  | 14, _ => h.st.1.lt h.pi.2.1
  | 15, _ => h.st.1.lt h.pi.2.2.1
  | 16, _ => h.st.1.lt h.pi.2.2.2.1
  | 17, _ => h.st.1.lt h.pi.2.2.2.2.1
  | 18, _ => h.st.1.lt h.pi.2.2.2.2.2
  | k + 19, h => absurd h (by omega)
def c1 (C : Nat → Nat) (i x : Nat) : Nat → Nat := fun k => if k = i then x else C k
def b3 (B : Nat → Nat → Int32) (i : Nat) (x y z : Nat → Int32) : Nat → Nat → Int32 := fun k => if k = i then x else if k = i + 1 then y else if k = i + 2 then z else B k

/-- bs -/
theorem PV_bs (h : PV G t0 H0 K1 K2 n f S A C B Q j el P ND) (m0 : 0 ≤ (Q 7).toInt) (m1 : (Q 7).toInt ≤ (C 0 : Int)) (s0 : 0 ≤ (Q 8).toInt) (s1 : (Q 8).toInt ≤ (Q 7).toInt) (hcap : C 0 ≤ 70000) (hcap1 : 1 ≤ C 0) (hc : 3 ≤ S.2.2.1) (hs : 6 * C 0 ≤ S.2.2.2) : dc_wp (hm_NM_bring G S (A 3) (some (A 1))) (fun q => q.2 = Q 7 ∧ ∃ x y z c xf xe xs, PV G t0 H0 K1 K2 n f q.1 (a3 A 8 x y z) (c1 C 0 c) (b3 B 0 xf xe xs) (q1 (q1 Q 7 (Q 7 + 1)) 8 (Q 8 + 1)) j el P ND ∧ (Q 7).toInt < (c : Int) ∧ (c = C 0 ∨ (c = 2 * C 0 ∧ (Q 7).toInt = (C 0 : Int))) ∧ (∀ i, i < (Q 7).toInt.toNat → xf i = B 0 i ∧ xe i = B 1 i) ∧ xf (Q 7).toInt.toNat = Q 3 ∧ xe (Q 7).toInt.toNat = Q 4 - Q 3 ∧ (∀ i, i < (Q 8).toInt.toNat → xs i = B 2 i) ∧ xs (Q 8).toInt.toNat = Q 7) := by
  have ne : ∀ i k, i < 19 → k < 19 → ¬ i = k → A i ≠ A k := fun i k hi hk d => h.st.2.1.ne hi hk d
  have lt := h.lt
  obtain ⟨q, eq, q2, fA, eA, sA, cap, ff, ee, ss, g1, g2, g3, g4, g5, g6, g7, g8, g9, g10, g11, g12⟩ := bring_w h.sn h.lx ⟨⟨ne 3 8 (by omega) (by omega) (by omega), ne 3 9 (by omega) (by omega) (by omega), ne 3 10 (by omega) (by omega) (by omega), ne 3 1 (by omega) (by omega) (by omega), ne 3 2 (by omega) (by omega) (by omega)⟩, ⟨ne 8 9 (by omega) (by omega) (by omega), ne 8 10 (by omega) (by omega) (by omega), ne 8 1 (by omega) (by omega) (by omega), ne 8 2 (by omega) (by omega) (by omega)⟩, ⟨ne 9 10 (by omega) (by omega) (by omega), ne 9 1 (by omega) (by omega) (by omega), ne 9 2 (by omega) (by omega) (by omega)⟩, ⟨ne 10 1 (by omega) (by omega) (by omega), ne 10 2 (by omega) (by omega) (by omega)⟩, ne 1 2 (by omega) (by omega) (by omega)⟩ h.st.1 m0 m1 s0 s1 hcap hcap1 hc hs
  have hb : ∀ b, b < S.2.1 → b ≠ A 3 → b ≠ A 8 → b ≠ A 9 → b ≠ A 10 → hg_at q.1.1 b = hg_at S.1 b := by
    intro b hl b0 b1 b2 b3
    refine g12 b b0 ?_ ?_ ?_ b1 b2 b3
    · rcases g6 with ⟨z, -⟩ | ⟨z, -⟩
      · rw [z]; exact b1
      · rw [z]; omega
    · rcases g6 with ⟨-, z, -⟩ | ⟨-, z, -⟩
      · rw [z]; exact b2
      · rw [z]; omega
    · rcases g6 with ⟨-, -, z, -⟩ | ⟨-, -, z, -⟩
      · rw [z]; exact b3
      · rw [z]; omega
  have an : ∀ k, k < 19 → ¬ k = 3 → ¬ (8 ≤ k ∧ k ≤ 8 + 2) → hg_at q.1.1 (A k) = hg_at S.1 (A k) := fun k hk d0 d1 => hb _ (lt k hk) (ne k 3 hk (by omega) d0) (ne k 8 hk (by omega) (by omega)) (ne k 9 hk (by omega) (by omega)) (ne k 10 hk (by omega) (by omega))
  have tp : S.2.1 ≤ q.1.2.1 := by
    rcases g6 with ⟨-, -, -, -, z⟩ | ⟨-, -, -, -, -, z⟩
    · rw [z]; exact Nat.le_refl _
    · rw [z]; show S.2.1 ≤ S.2.1 + 3; omega
  refine ⟨q, eq, q2, fA, eA, sA, cap, ff, ee, ss, ⟨⟨g4, ?_, ?_, ?_, h.st.2.2.2.2.1, Nat.le_trans h.st.2.2.2.2.2 tp⟩, ?_, ?_, ?_, ?_, ?_, ?_, ?_, ?_, ?_⟩, g5, ?_, g7, g8, g9, g10, g11⟩
  · refine inA_a3 h.st.2.1 g3.2.1.1 g3.2.1.2.1 g3.2.2.1.1 ?_
    intro k hk d
    have lk := lt k hk
    rcases g6 with ⟨z1, z2, z3, -⟩ | ⟨z1, z2, z3, -⟩
    · rw [z1, z2, z3]
      exact ⟨ne k 8 hk (by omega) (by omega), ne k 9 hk (by omega) (by omega), ne k 10 hk (by omega) (by omega)⟩
    · omega
  · intro k hk
    have k0 := h.st.2.2.1 8 (by omega)
    have k1 := h.st.2.2.1 9 (by omega)
    have k2 := h.st.2.2.1 10 (by omega)
    have k3 := h.st.2.2.1 k hk
    have k4 := h.st.2.2.2.2.2
    rcases a3_c (A := A) (i := 8) (x := fA) (y := eA) (z := sA) (k := k) with ⟨-, e⟩ | ⟨-, e⟩ | ⟨-, e⟩ | ⟨-, e⟩ <;> rw [e] <;> rcases g6 with ⟨z1, z2, z3, -⟩ | ⟨z1, z2, z3, -⟩ <;> omega
  · intro b hbl
    have k4 := h.st.2.2.2.2.2
    have k0 := h.st.2.2.1 8 (by omega)
    have k1 := h.st.2.2.1 9 (by omega)
    have k2 := h.st.2.2.1 10 (by omega)
    have k3 := h.st.2.2.1 3 (by omega)
    rw [hb b (by omega) (by omega) (by omega) (by omega) (by omega)]
    exact h.st.2.2.2.1 b hbl
  · exact (an 0 (by omega) (by omega) (by omega)).trans h.pa
  · exact g2
  · exact g1
  · exact h.tn.fr (an 4 (by omega) (by omega) (by omega)) (an 11 (by omega) (by omega) (by omega)) (an 12 (by omega) (by omega) (by omega)) (an 13 (by omega) (by omega) (by omega))
  · exact (an 5 (by omega) (by omega) (by omega)).trans h.dr
  · exact h.pi.fr (an 6 (by omega) (by omega) (by omega)) (an 14 (by omega) (by omega) (by omega)) (an 15 (by omega) (by omega) (by omega)) (an 16 (by omega) (by omega) (by omega)) (an 17 (by omega) (by omega) (by omega)) (an 18 (by omega) (by omega) (by omega))
  · refine ⟨h.al.fr (an 7 (by omega) (by omega) (by omega)) (fun z => ?_), h.a19⟩
    have l19 : A 19 < S.2.1 := by
      rcases h.al.2 with ⟨y, -⟩ | ⟨-, -, y⟩
      · exact absurd y z
      · exact h.st.1.lt y
    exact hb _ l19 (h.el_ne z h.sn.1 (fun _ _ _ z => by cases z)) (h.el_ne z h.sn.2.1 (fun _ _ _ z => by cases z)) (h.el_ne z h.sn.2.2.1 (fun _ _ _ z => by cases z)) (h.el_ne z h.sn.2.2.2 (fun _ _ _ z => by cases z))
  · exact h.nd.fr (fun i hi => hb _ (h.st.1.lt (h.nd i hi).2.2.1) (h.nd_ne hi h.sn.1 (fun _ z => by cases z)) (h.nd_ne hi h.sn.2.1 (fun _ z => by cases z)) (h.nd_ne hi h.sn.2.2.1 (fun _ z => by cases z)) (h.nd_ne hi h.sn.2.2.2 (fun _ z => by cases z)))
  · have rm := h.rm
    rcases g6 with ⟨-, -, -, z1, z2⟩ | ⟨-, -, -, z1, -, z2⟩
    · rw [z1, z2]
      show K1 ≤ S.2.2.1 + (Q 12).toInt.toNat + 3 * C 0 + 3 * C 1 + 5 * C 2 + C 3 ∧ K2 ≤ S.2.2.2 + 13 * (Q 12).toInt.toNat + 6 * C 0 + 6 * C 1 + 10 * C 2 + 4 * C 3
      exact rm
    · rw [z1, z2]
      show K1 ≤ S.2.2.1 - 3 + (Q 12).toInt.toNat + 3 * (2 * C 0) + 3 * C 1 + 5 * C 2 + C 3 ∧ K2 ≤ S.2.2.2 - 6 * C 0 + 13 * (Q 12).toInt.toNat + 6 * (2 * C 0) + 6 * C 1 + 10 * C 2 + 4 * C 3
      omega
  · rcases g6 with ⟨-, -, -, z, -⟩ | ⟨-, -, -, z, z2, -⟩
    · exact Or.inl z
    · exact Or.inr ⟨z, z2⟩

/-- bt -/
theorem PV_bt (h : PV G t0 H0 K1 K2 n f S A C B Q j el P ND) (m0 : 0 ≤ (Q 9).toInt) (m1 : (Q 9).toInt ≤ (C 1 : Int)) (s0 : 0 ≤ (Q 10).toInt) (s1 : (Q 10).toInt ≤ (Q 9).toInt) (hcap : C 1 ≤ 70000) (hcap1 : 1 ≤ C 1) (hc : 3 ≤ S.2.2.1) (hs : 6 * C 1 ≤ S.2.2.2) : dc_wp (hm_NM_bring G S (A 4) (some (A 1))) (fun q => q.2 = Q 9 ∧ ∃ x y z c xf xe xs, PV G t0 H0 K1 K2 n f q.1 (a3 A 11 x y z) (c1 C 1 c) (b3 B 3 xf xe xs) (q1 (q1 Q 9 (Q 9 + 1)) 10 (Q 10 + 1)) j el P ND ∧ (Q 9).toInt < (c : Int) ∧ (c = C 1 ∨ (c = 2 * C 1 ∧ (Q 9).toInt = (C 1 : Int))) ∧ (∀ i, i < (Q 9).toInt.toNat → xf i = B 3 i ∧ xe i = B 4 i) ∧ xf (Q 9).toInt.toNat = Q 3 ∧ xe (Q 9).toInt.toNat = Q 4 - Q 3 ∧ (∀ i, i < (Q 10).toInt.toNat → xs i = B 5 i) ∧ xs (Q 10).toInt.toNat = Q 9) := by
  have ne : ∀ i k, i < 19 → k < 19 → ¬ i = k → A i ≠ A k := fun i k hi hk d => h.st.2.1.ne hi hk d
  have lt := h.lt
  obtain ⟨q, eq, q2, fA, eA, sA, cap, ff, ee, ss, g1, g2, g3, g4, g5, g6, g7, g8, g9, g10, g11, g12⟩ := bring_w h.tn h.lx ⟨⟨ne 4 11 (by omega) (by omega) (by omega), ne 4 12 (by omega) (by omega) (by omega), ne 4 13 (by omega) (by omega) (by omega), ne 4 1 (by omega) (by omega) (by omega), ne 4 2 (by omega) (by omega) (by omega)⟩, ⟨ne 11 12 (by omega) (by omega) (by omega), ne 11 13 (by omega) (by omega) (by omega), ne 11 1 (by omega) (by omega) (by omega), ne 11 2 (by omega) (by omega) (by omega)⟩, ⟨ne 12 13 (by omega) (by omega) (by omega), ne 12 1 (by omega) (by omega) (by omega), ne 12 2 (by omega) (by omega) (by omega)⟩, ⟨ne 13 1 (by omega) (by omega) (by omega), ne 13 2 (by omega) (by omega) (by omega)⟩, ne 1 2 (by omega) (by omega) (by omega)⟩ h.st.1 m0 m1 s0 s1 hcap hcap1 hc hs
  have hb : ∀ b, b < S.2.1 → b ≠ A 4 → b ≠ A 11 → b ≠ A 12 → b ≠ A 13 → hg_at q.1.1 b = hg_at S.1 b := by
    intro b hl b0 b1 b2 b3
    refine g12 b b0 ?_ ?_ ?_ b1 b2 b3
    · rcases g6 with ⟨z, -⟩ | ⟨z, -⟩
      · rw [z]; exact b1
      · rw [z]; omega
    · rcases g6 with ⟨-, z, -⟩ | ⟨-, z, -⟩
      · rw [z]; exact b2
      · rw [z]; omega
    · rcases g6 with ⟨-, -, z, -⟩ | ⟨-, -, z, -⟩
      · rw [z]; exact b3
      · rw [z]; omega
  have an : ∀ k, k < 19 → ¬ k = 4 → ¬ (11 ≤ k ∧ k ≤ 11 + 2) → hg_at q.1.1 (A k) = hg_at S.1 (A k) := fun k hk d0 d1 => hb _ (lt k hk) (ne k 4 hk (by omega) d0) (ne k 11 hk (by omega) (by omega)) (ne k 12 hk (by omega) (by omega)) (ne k 13 hk (by omega) (by omega))
  have tp : S.2.1 ≤ q.1.2.1 := by
    rcases g6 with ⟨-, -, -, -, z⟩ | ⟨-, -, -, -, -, z⟩
    · rw [z]; exact Nat.le_refl _
    · rw [z]; show S.2.1 ≤ S.2.1 + 3; omega
  refine ⟨q, eq, q2, fA, eA, sA, cap, ff, ee, ss, ⟨⟨g4, ?_, ?_, ?_, h.st.2.2.2.2.1, Nat.le_trans h.st.2.2.2.2.2 tp⟩, ?_, ?_, ?_, ?_, ?_, ?_, ?_, ?_, ?_⟩, g5, ?_, g7, g8, g9, g10, g11⟩
  · refine inA_a3 h.st.2.1 g3.2.1.1 g3.2.1.2.1 g3.2.2.1.1 ?_
    intro k hk d
    have lk := lt k hk
    rcases g6 with ⟨z1, z2, z3, -⟩ | ⟨z1, z2, z3, -⟩
    · rw [z1, z2, z3]
      exact ⟨ne k 11 hk (by omega) (by omega), ne k 12 hk (by omega) (by omega), ne k 13 hk (by omega) (by omega)⟩
    · omega
  · intro k hk
    have k0 := h.st.2.2.1 11 (by omega)
    have k1 := h.st.2.2.1 12 (by omega)
    have k2 := h.st.2.2.1 13 (by omega)
    have k3 := h.st.2.2.1 k hk
    have k4 := h.st.2.2.2.2.2
    rcases a3_c (A := A) (i := 11) (x := fA) (y := eA) (z := sA) (k := k) with ⟨-, e⟩ | ⟨-, e⟩ | ⟨-, e⟩ | ⟨-, e⟩ <;> rw [e] <;> rcases g6 with ⟨z1, z2, z3, -⟩ | ⟨z1, z2, z3, -⟩ <;> omega
  · intro b hbl
    have k4 := h.st.2.2.2.2.2
    have k0 := h.st.2.2.1 11 (by omega)
    have k1 := h.st.2.2.1 12 (by omega)
    have k2 := h.st.2.2.1 13 (by omega)
    have k3 := h.st.2.2.1 4 (by omega)
    rw [hb b (by omega) (by omega) (by omega) (by omega) (by omega)]
    exact h.st.2.2.2.1 b hbl
  · exact (an 0 (by omega) (by omega) (by omega)).trans h.pa
  · exact g2
  · exact h.sn.fr (an 3 (by omega) (by omega) (by omega)) (an 8 (by omega) (by omega) (by omega)) (an 9 (by omega) (by omega) (by omega)) (an 10 (by omega) (by omega) (by omega))
  · exact g1
  · exact (an 5 (by omega) (by omega) (by omega)).trans h.dr
  · exact h.pi.fr (an 6 (by omega) (by omega) (by omega)) (an 14 (by omega) (by omega) (by omega)) (an 15 (by omega) (by omega) (by omega)) (an 16 (by omega) (by omega) (by omega)) (an 17 (by omega) (by omega) (by omega)) (an 18 (by omega) (by omega) (by omega))
  · refine ⟨h.al.fr (an 7 (by omega) (by omega) (by omega)) (fun z => ?_), h.a19⟩
    have l19 : A 19 < S.2.1 := by
      rcases h.al.2 with ⟨y, -⟩ | ⟨-, -, y⟩
      · exact absurd y z
      · exact h.st.1.lt y
    exact hb _ l19 (h.el_ne z h.tn.1 (fun _ _ _ z => by cases z)) (h.el_ne z h.tn.2.1 (fun _ _ _ z => by cases z)) (h.el_ne z h.tn.2.2.1 (fun _ _ _ z => by cases z)) (h.el_ne z h.tn.2.2.2 (fun _ _ _ z => by cases z))
  · exact h.nd.fr (fun i hi => hb _ (h.st.1.lt (h.nd i hi).2.2.1) (h.nd_ne hi h.tn.1 (fun _ z => by cases z)) (h.nd_ne hi h.tn.2.1 (fun _ z => by cases z)) (h.nd_ne hi h.tn.2.2.1 (fun _ z => by cases z)) (h.nd_ne hi h.tn.2.2.2 (fun _ z => by cases z)))
  · have rm := h.rm
    rcases g6 with ⟨-, -, -, z1, z2⟩ | ⟨-, -, -, z1, -, z2⟩
    · rw [z1, z2]
      show K1 ≤ S.2.2.1 + (Q 12).toInt.toNat + 3 * C 0 + 3 * C 1 + 5 * C 2 + C 3 ∧ K2 ≤ S.2.2.2 + 13 * (Q 12).toInt.toNat + 6 * C 0 + 6 * C 1 + 10 * C 2 + 4 * C 3
      exact rm
    · rw [z1, z2]
      show K1 ≤ S.2.2.1 - 3 + (Q 12).toInt.toNat + 3 * C 0 + 3 * (2 * C 1) + 5 * C 2 + C 3 ∧ K2 ≤ S.2.2.2 - 6 * C 1 + 13 * (Q 12).toInt.toNat + 6 * C 0 + 6 * (2 * C 1) + 10 * C 2 + 4 * C 3
      omega
  · rcases g6 with ⟨-, -, -, z, -⟩ | ⟨-, -, -, z, z2, -⟩
    · exact Or.inl z
    · exact Or.inr ⟨z, z2⟩
end PVB
