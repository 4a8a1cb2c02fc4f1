/-! the reference's explore: what is put down of one state on one choice of inputs -/
/-- a cell of follows and of emits was written, nothing else -/
def putO (S Z : md_S) (cl : Nat) (v : Int32) (ins out : Nat) : Prop := Z.1 = S.1 ∧ (∀ i, ¬ i = 92 → ¬ i = 93 → Z.2.1 i = S.2.1 i) ∧ Z.2.1 92 = upd (S.2.1 92) cl v ∧ ∀ i, Z.2.1 93 i = if i = cl then oB (psB (S.2.1 70) ins) out else S.2.1 93 i
/-- what follows on an answer of react -/
def ansO (S Z : md_S) (a x2 x3 : Int32) (cnt cl ins out pa : Nat) : Prop :=
  (a = 1 ∧ ∃ r : md_S, metO S r (oB (thB (S.2.1 75)) pa) x2 x3 cnt ∧ putO r Z cl (oB (thB (S.2.1 75)) pa) ins out) ∨ (¬ a = 1 ∧ putO S Z cl (if a = 0 then 257 else -1) ins out)
section XTR
variable {S r : md_S} {x1 x2 x3 : Int32} {cnt pa out ins cl : Nat}
theorem x248_r {v : Int32} {z : (md_S × Int32) ⊕ md_S} (ho : out ≤ 31) (e45 : S.1 45 = Int32.ofNat ins) (hi : ins ≤ 31) (e46 : S.1 46 = Int32.ofNat out) (hcl : 16 * x2 + x3 = Int32.ofNat cl) (hc2 : cl < 4112) (hq : mm_explore_L248 S x1 x2 x3 v = some z) : ∃ Z : md_S, z = .inl (Z, x3 + 1) ∧ putO S Z cl v ins out := by
  have tcl : (Int32.ofNat cl).toInt.toNat = cl := by rw [Int32.toInt_ofNat_of_lt (by omega)]; omega
  delta mm_explore_L248 dc_let at hq
  dsimp only at hq
  obtain ⟨-, -, hq⟩ := iv_ix hq
  obtain ⟨-, -, hq⟩ := iv_ix hq
  rw [hcl, tcl] at hq
  have h0 : (md_a (md_a S 92 cl v) 93 cl 0).2.1 93 cl = 0 := by rw [md_a2, if_pos rfl]; exact upd_s
  obtain ⟨Z, e, g1, g2, g3⟩ := x276_r (S := md_a (md_a S 92 cl v) 93 cl 0) (out := out) (ins := ins) (cl := cl) ho e45 hi e46 hcl hc2 h0 hq
  refine ⟨Z, e, g1, fun i h1 h2 => ?_, ?_, fun i => ?_⟩
  · rw [g2 i h2, md_a2, if_neg h2, md_a2, if_neg h1]
  · rw [g2 92 (by omega), md_a2, if_neg (by omega), md_a2, if_pos rfl]
  · rw [g3 i]
    have e70 : (md_a (md_a S 92 cl v) 93 cl 0).2.1 70 = S.2.1 70 := by rw [md_a2, if_neg (by omega), md_a2, if_neg (by omega)]
    rw [e70]
    by_cases c : i = cl
    · rw [if_pos c, if_pos c]
    · rw [if_neg c, if_neg c, md_a2, if_pos rfl, upd_n c, md_a2, if_neg (by omega)]
theorem x188_r {a y : Int32} {z : (md_S × Int32) ⊕ md_S} (hpa : pa ≤ 200) (e47 : S.1 47 = Int32.ofNat pa) (hc : cnt ≤ 257) (e87 : S.1 87 = Int32.ofNat cnt) (ho : out ≤ 31) (e45 : S.1 45 = Int32.ofNat ins) (hi : ins ≤ 31) (e46 : S.1 46 = Int32.ofNat out) (hcl : 16 * x2 + x3 = Int32.ofNat cl) (hc2 : cl < 4112) (hy : y = if a = 0 then 257 else -1) (hq : mm_explore_L188 S x1 x2 x3 a y = some z) : ∃ Z : md_S, z = .inl (Z, x3 + 1) ∧ ansO S Z a x2 x3 cnt cl ins out pa := by
  delta mm_explore_L188 at hq
  rcases iv_if hq with ⟨c, hq⟩ | ⟨c, hq⟩
  · have h2 : (mm_meet S (oB (thB (S.2.1 75)) pa) x2 x3).bind (fun q12 => mm_explore_L248 q12 x1 x2 x3 (oB (thB (S.2.1 75)) pa)) = some z := x202_r hpa e47 hq
    obtain ⟨R, hR, hq⟩ := iv_bind h2
    have m := met_r hc e87 hR
    have k : ∀ i, ¬ i = 87 → R.1 i = S.1 i := by
      rcases m with ⟨-, e⟩ | ⟨-, -, e, -⟩
      · intro i _; rw [e]
      · exact e
    obtain ⟨Z, e, g⟩ := x248_r (S := R) ho (by rw [k 45 (by omega)]; exact e45) hi (by rw [k 46 (by omega)]; exact e46) hcl hc2 hq
    exact ⟨Z, e, Or.inl ⟨c, R, m, g⟩⟩
  · obtain ⟨Z, e, g⟩ := x248_r ho e45 hi e46 hcl hc2 hq
    rw [hy] at g
    exact ⟨Z, e, Or.inr ⟨c, g⟩⟩
/-- one state on one choice of inputs: it is taken up, reacts, and is put down -/
theorem x149_r {z : (md_S × Int32) ⊕ md_S} (hq : mm_explore_b149 S x1 x2 x3 = some z) : (x3 < ((1 : Int32) <<< ((S.1 45) &&& (31 : Int32))) ∧ 0 ≤ x2.toInt ∧ ∃ P : md_S, mm_place S (S.2.1 88 x2.toInt.toNat) = some P ∧ ∃ R : md_S × Int32, mm_react P x3 = some R ∧ mm_explore_L188 R.1 x1 x2 x3 R.2 (if R.2 = 0 then 257 else -1) = some z) ∨ (¬ x3 < ((1 : Int32) <<< ((S.1 45) &&& (31 : Int32))) ∧ z = .inr S) := by
  delta mm_explore_b149 at hq
  rcases iv_if hq with ⟨c, hq⟩ | ⟨c, hq⟩
  · obtain ⟨j0, -, hq⟩ := iv_ix hq
    obtain ⟨P, hP, hq⟩ := iv_bind hq
    obtain ⟨R, hR, hq⟩ := iv_bind hq
    refine Or.inl ⟨c, j0, P, hP, R, hR, ?_⟩
    rcases iv_if hq with ⟨d, hq⟩ | ⟨d, hq⟩
    · rw [if_pos d]; exact hq
    · rw [if_neg d]; exact hq
  · exact Or.inr ⟨c, (Option.some.inj hq).symm⟩
/-- the state that the engine was in, gathered before -/
theorem x90_r {z : md_S × Int32} {b : Int32} (hpa : pa ≤ 200) (e47 : S.1 47 = Int32.ofNat pa) (hq : mm_explore_L90 S b 0 = some z) : mm_explore_L123 S (b ||| oB (thB (S.2.1 74)) pa) = some z := by
  have key : dc_pw (mm_explore_L90 S b 0) (fun z => mm_explore_L123 S (b ||| oB (thB (S.2.1 74)) pa) = some z) := by
    delta mm_explore_L90
    refine pw_loop (fun (y : Int32 × Int32) => ∃ k, y.2 = Int32.ofNat k ∧ k ≤ pa ∧ y.1 = b ||| oB (thB (S.2.1 74)) k) (fun v => v = b ||| oB (thB (S.2.1 74)) pa) ⟨0, rfl, by omega, ?_⟩ ?_ (fun v hv z hz => by rw [← hv]; exact hz)
    · show b = b ||| 0
      exact Int32.or_zero.symm
    rintro ⟨y1, y2⟩ ⟨k, ev, k1, ey⟩
    have ev : y2 = Int32.ofNat k := ev
    have ey : y1 = b ||| oB (thB (S.2.1 74)) k := ey
    have tk : (Int32.ofNat k).toInt = (k : Int) := Int32.toInt_ofNat_of_lt (by omega)
    have tkn : (Int32.ofNat k).toInt.toNat = k := by omega
    have tp : (Int32.ofNat pa).toInt = (pa : Int) := Int32.toInt_ofNat_of_lt (by omega)
    show dc_pw (mm_explore_b90 S y1 y2) _
    rw [ev, ey]
    delta mm_explore_b90
    rw [e47]
    refine pw_ifc (fun c => ?_) (fun c => ?_)
    · have c := i_lt.mp c
      rw [tk, tp] at c
      refine pw_ix (fun _ _ => ?_)
      rw [tkn]
      delta mm_explore_L115
      refine pw_ifc (fun d => ?_) (fun d => ?_)
      · refine pw_some ⟨k + 1, ad_m (by omega), by omega, ?_⟩
        show b ||| oB (thB (S.2.1 74)) k ||| 0 = b ||| (oB (thB (S.2.1 74)) k ||| thB (S.2.1 74) k)
        unfold thB
        rw [if_pos d, Int32.or_assoc]
      · refine pw_some ⟨k + 1, ad_m (by omega), by omega, ?_⟩
        show b ||| oB (thB (S.2.1 74)) k ||| ((1 : Int32) <<< (Int32.ofNat k &&& (31 : Int32))) = b ||| (oB (thB (S.2.1 74)) k ||| thB (S.2.1 74) k)
        unfold thB
        rw [if_neg d, Int32.or_assoc]
    · have c : ¬ (Int32.ofNat k).toInt < (Int32.ofNat pa).toInt := fun z => c (i_lt.mpr z)
      rw [tk, tp] at c
      have : k = pa := by omega
      subst this
      exact pw_some rfl
  exact key z hq
end XTR
