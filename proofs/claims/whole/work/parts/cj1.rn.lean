/-! the reference's run: what it is asked, what it leaves -/
/-- what a run may change -/
def rnF (S q : md_S) : Prop := (∀ i, ¬ (i = 78 ∨ i = 79 ∨ i = 80 ∨ i = 81) → q.1 i = S.1 i) ∧ ∀ i, ¬ (i = 67 ∨ i = 71 ∨ i = 72 ∨ i = 73 ∨ i = 75) → q.2.1 i = S.2.1 i
theorem rnF_rf {S : md_S} : rnF S S := ⟨fun _ _ => rfl, fun _ _ => rfl⟩
theorem rnF_tr {S q r : md_S} (h : rnF S q) (g : rnF q r) : rnF S r := ⟨fun i hi => (g.1 i hi).trans (h.1 i hi), fun i hi => (g.2 i hi).trans (h.2 i hi)⟩
theorem rnF_67 {S q : md_S} (h : fr67 S q) : rnF S q := ⟨fun i _ => by rw [h.1], fun i hi => h.2.2 i (by omega)⟩
/-- a number that says which code it must be -/
def mB (x : Int32) (X : Nat → Prop) : Prop := (∃ c, X c ∧ c < 28 ∧ x = Int32.ofNat c) ∨ ((∀ c, ¬ X c) ∧ x = -1)
/-- a truth as a number -/
def bB (x : Int32) (p : Prop) : Prop := (p ∧ x = 1) ∨ (¬ p ∧ x = 0)
section RN
variable (M : md_S)
abbrev siM : Nat → Int32 := fun i => M.2.1 70 i
abbrev hsM : Nat → Prop := fun j => (M.2.1 76 (pfQ M.2.1 j)).toInt < (M.2.1 76 (ptQ M.2.1 j)).toInt
abbrev seM : Nat → Prop := fun p => ¬ M.2.1 74 p = 0
/-- a run is asked -/
def rnP (S : md_S) (V : Int32 → Prop) (ρ : Nat → Nat) (md : Option Nat) (s : Prop) (p2 p3 : Int32) (w : Nat) : Prop :=
  rnF M S ∧ (∀ y, V y → S.2.1 73 y.toInt.toNat = Int32.ofNat (ρ y.toInt.toNat) ∧ ρ y.toInt.toNat < 1662) ∧ (match md with | none => p2 = 0 | some d => p2 = 1 ∧ S.1 79 = Int32.ofNat (d + 1) ∧ d ≤ w) ∧ bB p3 s ∧ (S.1 78 = 0 ∨ S.1 78 = 1)
/-- what it leaves -/
def rnO (S q : md_S) (T : tT) (k : Nat) (e : zvT) : Prop :=
  (rnF S q ∧ q.1 79 = S.1 79) ∧ (cB (q.1 81) (zC e) ∧ mB (q.1 80) (zM e)) ∧ (∀ i, (zE e i → q.2.1 72 i = 1) ∧ (¬ zE e i → q.2.1 72 i = S.2.1 72 i)) ∧ (∀ i, (zS e i → q.2.1 71 i = 1) ∧ (¬ zS e i → q.2.1 71 i = S.2.1 71 i)) ∧ (∀ j, (∀ y, y ∈ lcT T → ¬ j = y.toInt.toNat) → q.2.1 73 j = S.2.1 73 j) ∧ ((zD e → q.1 78 = 1) ∧ (¬ zD e → q.1 78 = S.1 78)) ∧ (∀ p, ¬ (pfQ M.2.1 k ≤ p ∧ p < ptQ M.2.1 k) → q.2.1 75 p = S.2.1 75 p) ∧ ((∃ c, zM e c) → (∀ p, pfQ M.2.1 k ≤ p → p < ptQ M.2.1 k → S.2.1 75 p = 0) → ∀ p, pfQ M.2.1 k ≤ p → p < ptQ M.2.1 k → (zN e p → q.2.1 75 p = 1) ∧ (¬ zN e p → q.2.1 75 p = 0))
/-- run at a row does what the tree means -/
def rnT (T : tT) (V : Int32 → Prop) (k w : Nat) : Prop := ∀ (d : Nat) (S q : md_S) (ρ : Nat → Nat) (md : Option Nat) (s : Prop) (p2 p3 : Int32), rnP M S V ρ md s p2 p3 w → (mm_P3 d).1 S (Int32.ofNat k) p2 p3 = some q → rnO M S q T k (zv M.2.1 (tvQ M.2.1 (siM M)) (siM M) (hsM M) (seM M) T k ρ md s)
end RN
theorem tvF_q {Q Q' : Nat → Nat → Int32} {v : Nat → Int32} (h1 : Q 63 = Q' 63) (h2 : Q 64 = Q' 64) (h3 : Q 65 = Q' 65) : ∀ g k, tvF Q v g k = tvF Q' v g k
  | 0, k => rfl
  | g + 1, k => by
    unfold tvF
    rw [h1, h2, h3, tvF_q h1 h2 h3 g, tvF_q h1 h2 h3 g]
section RN1
variable {M : md_S} {names : Int32} {kk ff ss xx : Nat → Int32} {m : Nat}
/-- a test at a row -/
theorem tst_r (W : pcW names kk ff ss xx m) {S : md_S} {V : Int32 → Prop} {ρ : Nat → Nat} {H : Prop} {k : Nat} {x : lbT} {f s up : Int32} {w : Int} {t : Int32} {a c : Int} (hl : lrow True H kk ff xx M.2.1 k x f s up w t a c) (hp : pOk kk ff xx 0 (m : Int) V x.2.2.2.2.2) (h0 : 0 ≤ c) (h1 : c + txx xx x.2.2.2.2.2 ≤ 1000) (hF : rnF M S) (hV : ∀ y, V y → S.2.1 73 y.toInt.toNat = Int32.ofNat (ρ y.toInt.toNat) ∧ ρ y.toInt.toNat < 1662) {q : md_S × Int32} (hq : mm_truth S (M.2.1 54 k) = some q) : q.2 = tvQ M.2.1 (siM M) ρ (M.2.1 54 k) ∧ fr67 S q.1 := by
  have hp0 := hp
  obtain ⟨⟨q1, q2, q3, q4⟩, q5⟩ := hp
  have nt : ¬ x.2.2.2.2.2 = -1 := by
    intro z
    rw [z, show (-1 : Int32).toInt = -1 by decide] at q1
    omega
  obtain ⟨u1, u2, u3⟩ := hl.2.2.1 nt trivial
  have et : txx xx x.2.2.2.2.2 = (xx x.2.2.2.2.2.toInt.toNat).toInt := if_neg nt
  rw [et] at u2 u3 h1
  have e54 : M.2.1 54 k = Int32.ofNat c.toNat := ofN_m (by omega) (by omega)
  have b := PPr_b W _ _ _ (by omega) (by omega) (by omega) u2
  have e63 : S.2.1 63 = M.2.1 63 := hF.2 63 (by omega)
  have e64 : S.2.1 64 = M.2.1 64 := hF.2 64 (by omega)
  have e65 : S.2.1 65 = M.2.1 65 := hF.2 65 (by omega)
  have b' : blk S.2.1 c.toNat (c.toNat + (xx x.2.2.2.2.2.toInt.toNat).toInt.toNat) := by
    unfold blk
    rw [e63, e64, e65]
    exact b
  rw [e54] at hq
  obtain ⟨r1, r2⟩ := truth_r b' (by omega) (by omega) (by omega) (by
    rw [hF.2 66 (by omega)]
    exact ofN_m (by omega) (by omega)) hq
  refine ⟨?_, r2⟩
  rw [r1, tvF_q e63 e64 e65]
  unfold tvQ
  rw [e54, show (Int32.ofNat c.toNat).toInt.toNat = c.toNat by rw [Int32.toInt_ofNat_of_lt (by omega)]; omega]
  refine tvF_cg W _ _ _ (by omega) (by omega) (by omega) u2 (fun l l1 l2 l3 => ?_) 1001
  obtain ⟨v1, v2⟩ := hV _ (q5 l (by omega) (by omega) l3)
  show vM S (ff l).toInt.toNat = M.2.1 70 (ρ (ff l).toInt.toNat)
  unfold vM
  rw [v1, Int32.toInt_ofNat_of_lt (by omega), hF.2 70 (by omega)]
  rfl
/-- has -/
theorem has_r {S : md_S} (hF : rnF M S) {j : Nat} (hj : j < 1200) {q : Int32} (hq : mm_has S (Int32.ofNat j) = some q) : bB q (hsM M j) := by
  have tj : (Int32.ofNat j).toInt.toNat = j := by rw [Int32.toInt_ofNat_of_lt (by omega)]; omega
  delta mm_has at hq
  obtain ⟨-, -, hq⟩ := iv_ix hq
  obtain ⟨-, -, hq⟩ := iv_ix hq
  obtain ⟨-, -, hq⟩ := iv_ix hq
  obtain ⟨-, -, hq⟩ := iv_ix hq
  obtain ⟨-, -, hq⟩ := iv_ix hq
  rw [tj, hF.2 59 (by omega), hF.2 62 (by omega), hF.2 76 (by omega)] at hq
  rcases iv_if hq with ⟨c, hq⟩ | ⟨c, hq⟩
  · delta mm_has_L35 at hq
    obtain ⟨_, _, hq⟩ := iv_bind hq
    exact Or.inl ⟨i_lt.mp c, (Option.some.inj hq).symm⟩
  · delta mm_has_L35 at hq
    obtain ⟨_, _, hq⟩ := iv_bind hq
    exact Or.inr ⟨fun z => c (i_lt.mpr z), (Option.some.inj hq).symm⟩
/-- an outcome -/
theorem out_r {S q : md_S} {a b : Int32} (hq : mm_outcome S a b = some q) : q = md_i (md_i S 81 a) 80 b := (Option.some.inj hq).symm
theorem out_f {S : md_S} {a b : Int32} : rnF S (md_i (md_i S 81 a) 80 b) ∧ (md_i (md_i S 81 a) 80 b).1 81 = a ∧ (md_i (md_i S 81 a) 80 b).1 80 = b ∧ (md_i (md_i S 81 a) 80 b).1 79 = S.1 79 ∧ (md_i (md_i S 81 a) 80 b).1 78 = S.1 78 ∧ (md_i (md_i S 81 a) 80 b).2 = S.2 := ⟨⟨fun i hi => by rw [md_ij (by omega), md_ij (by omega)], fun _ _ => rfl⟩, rfl, rfl, rfl, rfl, rfl⟩
theorem mB_s {s : Prop} {c : Nat} {x : Int32} (hc : c < 28) (h : (s ∧ x = Int32.ofNat c) ∨ (¬ s ∧ x = -1)) : mB x (fun d => s ∧ d = c) := by
  rcases h with ⟨h, e⟩ | ⟨h, e⟩
  · exact Or.inl ⟨c, ⟨h, rfl⟩, hc, e⟩
  · exact Or.inr ⟨fun d z => h z.1, e⟩
end RN1
