/-! the reference's react: rows made ready -/
section RX
/-- a loop that writes a row of numbers -/
theorem lp_row {arr n bd cp : Nat} {st : md_S × Int32 → Option ((md_S × Int32) ⊕ md_S)} {S Z : md_S} {f : Nat → Int32} (hb : bd ≤ 100000) (hs : ∀ (Y : md_S) (k : Nat), Y.1 = S.1 → (∀ i, ¬ i = arr → Y.2.1 i = S.2.1 i) → k ≤ bd → dc_pw (st (Y, Int32.ofNat k)) (fun r => (k < bd ∧ r = .inl (md_a Y arr k (f k), Int32.ofNat k + 1)) ∨ (k = bd ∧ r = .inr Y))) (hq : dc_it st (S, 0) = some Z) : Z.1 = S.1 ∧ (∀ i, ¬ i = arr → Z.2.1 i = S.2.1 i) ∧ ∀ i, (i < bd → Z.2.1 arr i = f i) ∧ (bd ≤ i → Z.2.1 arr i = S.2.1 arr i) := by
  have key : dc_pw ((dc_it st (S, 0)).bind some) (fun Z => Z.1 = S.1 ∧ (∀ i, ¬ i = arr → Z.2.1 i = S.2.1 i) ∧ ∀ i, (i < bd → Z.2.1 arr i = f i) ∧ (bd ≤ i → Z.2.1 arr i = S.2.1 arr i)) := by
    refine pw_loop (fun (y : md_S × Int32) => ∃ k, y.2 = Int32.ofNat k ∧ k ≤ bd ∧ y.1.1 = S.1 ∧ (∀ i, ¬ i = arr → y.1.2.1 i = S.2.1 i) ∧ ∀ i, (i < k → y.1.2.1 arr i = f i) ∧ (k ≤ i → y.1.2.1 arr i = S.2.1 arr i)) (fun Z => Z.1 = S.1 ∧ (∀ i, ¬ i = arr → Z.2.1 i = S.2.1 i) ∧ ∀ i, (i < bd → Z.2.1 arr i = f i) ∧ (bd ≤ i → Z.2.1 arr i = S.2.1 arr i)) ⟨0, rfl, Nat.zero_le _, rfl, fun _ _ => rfl, fun i => ⟨fun z => by omega, fun _ => rfl⟩⟩ ?_ (fun Z h => pw_some h)
    rintro ⟨Y, v⟩ ⟨k, ev, k1, f1, f2, f3⟩ r hr
    have ev : v = Int32.ofNat k := ev
    subst ev
    rcases hs Y k f1 f2 k1 r hr with ⟨c, e⟩ | ⟨c, e⟩
    · rw [e]
      refine ⟨k + 1, ad_m (by omega), by omega, f1, fun i hi => by show (md_a Y arr k (f k)).2.1 i = _; rw [md_a2, if_neg hi]; exact f2 i hi, fun i => ⟨fun z => ?_, fun z => ?_⟩⟩
      · show (md_a Y arr k (f k)).2.1 arr i = _
        rw [md_a2, if_pos rfl]
        by_cases ei : i = k
        · rw [ei, upd_s]
        · rw [upd_n ei]; exact (f3 i).1 (by omega)
      · show (md_a Y arr k (f k)).2.1 arr i = _
        rw [md_a2, if_pos rfl, upd_n (by omega)]
        exact (f3 i).2 (by omega)
    · rw [e]
      subst c
      exact ⟨f1, f2, f3⟩
  exact key Z (by rw [hq]; rfl)
variable {S Z : md_S}
theorem lp_54 {inst ins : Nat} {x1 : Int32} (e50 : S.1 50 = Int32.ofNat inst) (e45 : S.1 45 = Int32.ofNat ins) (hb : inst ≤ 1662 ∧ ins ≤ 62) (hq : dc_it (mm_react_s54 x1) (S, 0) = some Z) : Z.1 = S.1 ∧ (∀ i, ¬ i = 70 → Z.2.1 i = S.2.1 i) ∧ ∀ i, (i < inst → Z.2.1 70 i = if i < ins then (x1 >>> (Int32.ofNat i &&& (31 : Int32))) &&& 1 else 2) ∧ (inst ≤ i → Z.2.1 70 i = S.2.1 70 i) := by
  refine lp_row (arr := 70) (n := 1662) (cp := 0) (bd := inst) (f := fun i => if i < ins then (x1 >>> (Int32.ofNat i &&& (31 : Int32))) &&& 1 else 2) (by omega) (fun Y k f1 f2 k1 => ?_) hq
  have tk : (Int32.ofNat k).toInt = (k : Int) := Int32.toInt_ofNat_of_lt (by omega)
  have tkn : (Int32.ofNat k).toInt.toNat = k := by omega
  have tb : (Int32.ofNat inst).toInt = (inst : Int) := Int32.toInt_ofNat_of_lt (by omega)
  have ti : (Int32.ofNat ins).toInt = (ins : Int) := Int32.toInt_ofNat_of_lt (by omega)
  show dc_pw (mm_react_b54 Y x1 (Int32.ofNat k)) _
  delta mm_react_b54
  rw [f1, e50, e45]
  refine pw_ifc (fun c => ?_) (fun c => ?_)
  · have c := i_lt.mp c
    rw [tk, tb] at c
    refine pw_ifc (fun d => ?_) (fun d => ?_)
    · have d := i_lt.mp d
      rw [tk, ti] at d
      delta mm_react_L84
      refine pw_ix (fun _ _ => ?_)
      rw [tkn]
      refine pw_some (Or.inl ⟨by omega, ?_⟩)
      rw [if_pos (by omega)]
    · have d : ¬ (k : Int) < (ins : Int) := fun z => d (i_lt.mpr (by rw [tk, ti]; exact z))
      delta mm_react_L84
      refine pw_ix (fun _ _ => ?_)
      rw [tkn]
      refine pw_some (Or.inl ⟨by omega, ?_⟩)
      rw [if_neg (by omega)]
  · have c : ¬ (k : Int) < (inst : Int) := fun z => c (i_lt.mpr (by rw [tk, tb]; exact z))
    exact pw_some (Or.inr ⟨by omega, rfl⟩)
theorem lp_129 {io : Nat} (eio : S.1 45 + S.1 46 = Int32.ofNat io) (hb : io ≤ 62) (hq : dc_it mm_react_s129 (S, 0) = some Z) : Z.1 = S.1 ∧ (∀ i, ¬ i = 73 → Z.2.1 i = S.2.1 i) ∧ ∀ i, (i < io → Z.2.1 73 i = Int32.ofNat i) ∧ (io ≤ i → Z.2.1 73 i = S.2.1 73 i) := by
  refine lp_row (arr := 73) (n := 400) (cp := 0) (bd := io) (f := fun i => Int32.ofNat i) (by omega) (fun Y k f1 f2 k1 => ?_) hq
  have tk : (Int32.ofNat k).toInt = (k : Int) := Int32.toInt_ofNat_of_lt (by omega)
  have tkn : (Int32.ofNat k).toInt.toNat = k := by omega
  have tb : (Int32.ofNat io).toInt = (io : Int) := Int32.toInt_ofNat_of_lt (by omega)
  show dc_pw (mm_react_b129 Y (Int32.ofNat k)) _
  delta mm_react_b129
  rw [f1, eio]
  refine pw_ifc (fun c => ?_) (fun c => ?_)
  · have c := i_lt.mp c
    rw [tk, tb] at c
    refine pw_ix (fun _ _ => ?_)
    rw [tkn]
    exact pw_some (Or.inl ⟨by omega, rfl⟩)
  · have c : ¬ (k : Int) < (io : Int) := fun z => c (i_lt.mpr (by rw [tk, tb]; exact z))
    exact pw_some (Or.inr ⟨by omega, rfl⟩)
theorem lp_157 {pa : Nat} (e47 : S.1 47 = Int32.ofNat pa) (hb : pa ≤ 200) (hq : dc_it mm_react_s157 (S, 0) = some Z) : Z.1 = S.1 ∧ (∀ i, ¬ i = 75 → Z.2.1 i = S.2.1 i) ∧ ∀ i, (i < pa → Z.2.1 75 i = 0) ∧ (pa ≤ i → Z.2.1 75 i = S.2.1 75 i) := by
  refine lp_row (arr := 75) (n := 200) (cp := 0) (bd := pa) (f := fun i => 0) (by omega) (fun Y k f1 f2 k1 => ?_) hq
  have tk : (Int32.ofNat k).toInt = (k : Int) := Int32.toInt_ofNat_of_lt (by omega)
  have tkn : (Int32.ofNat k).toInt.toNat = k := by omega
  have tb : (Int32.ofNat pa).toInt = (pa : Int) := Int32.toInt_ofNat_of_lt (by omega)
  show dc_pw (mm_react_b157 Y (Int32.ofNat k)) _
  delta mm_react_b157
  rw [f1, e47]
  refine pw_ifc (fun c => ?_) (fun c => ?_)
  · have c := i_lt.mp c
    rw [tk, tb] at c
    refine pw_ix (fun _ _ => ?_)
    rw [tkn]
    exact pw_some (Or.inl ⟨by omega, rfl⟩)
  · have c : ¬ (k : Int) < (pa : Int) := fun z => c (i_lt.mpr (by rw [tk, tb]; exact z))
    exact pw_some (Or.inr ⟨by omega, rfl⟩)
/-- marks are taken away -/
theorem lp_99 {inst : Nat} (e50 : S.1 50 = Int32.ofNat inst) (hb : inst ≤ 1662) (hq : dc_it mm_react_s99 (S, 0) = some Z) : Z.1 = S.1 ∧ (∀ i, ¬ (i = 71 ∨ i = 72) → Z.2.1 i = S.2.1 i) ∧ ∀ i, i < inst → Z.2.1 71 i = 0 ∧ Z.2.1 72 i = 0 := by
  have key : dc_pw ((dc_it mm_react_s99 (S, 0)).bind some) (fun Z => Z.1 = S.1 ∧ (∀ i, ¬ (i = 71 ∨ i = 72) → Z.2.1 i = S.2.1 i) ∧ ∀ i, i < inst → Z.2.1 71 i = 0 ∧ Z.2.1 72 i = 0) := by
    refine pw_loop (fun (y : md_S × Int32) => ∃ k, y.2 = Int32.ofNat k ∧ k ≤ inst ∧ y.1.1 = S.1 ∧ (∀ i, ¬ (i = 71 ∨ i = 72) → y.1.2.1 i = S.2.1 i) ∧ ∀ i, i < k → y.1.2.1 71 i = 0 ∧ y.1.2.1 72 i = 0) (fun Z => Z.1 = S.1 ∧ (∀ i, ¬ (i = 71 ∨ i = 72) → Z.2.1 i = S.2.1 i) ∧ ∀ i, i < inst → Z.2.1 71 i = 0 ∧ Z.2.1 72 i = 0) ⟨0, rfl, Nat.zero_le _, rfl, fun _ _ => rfl, fun i z => by omega⟩ ?_ (fun Z h => pw_some h)
    rintro ⟨Y, v⟩ ⟨k, ev, k1, f1, f2, f3⟩
    have ev : v = Int32.ofNat k := ev
    have f1 : Y.1 = S.1 := f1
    subst ev
    have tk : (Int32.ofNat k).toInt = (k : Int) := Int32.toInt_ofNat_of_lt (by omega)
    have tkn : (Int32.ofNat k).toInt.toNat = k := by omega
    have tb : (Int32.ofNat inst).toInt = (inst : Int) := Int32.toInt_ofNat_of_lt (by omega)
    show dc_pw (mm_react_b99 Y (Int32.ofNat k)) _
    delta mm_react_b99
    rw [f1, e50]
    refine pw_ifc (fun c => ?_) (fun c => ?_)
    · have c := i_lt.mp c
      rw [tk, tb] at c
      refine pw_ix (fun _ _ => ?_)
      rw [tkn]
      refine pw_ix (fun _ _ => ?_)
      rw [tkn]
      refine pw_some ⟨k + 1, ad_m (by omega), by omega, f1, fun i hi => ?_, fun i hi => ?_⟩
      · show (md_a (md_a Y 72 k 0) 71 k 0).2.1 i = _
        rw [md_a2, if_neg (by omega), md_a2, if_neg (by omega)]
        exact f2 i hi
      · have g1 : (md_a (md_a Y 72 k 0) 71 k 0).2.1 71 = upd (Y.2.1 71) k 0 := rfl
        have g2 : (md_a (md_a Y 72 k 0) 71 k 0).2.1 72 = upd (Y.2.1 72) k 0 := rfl
        show (md_a (md_a Y 72 k 0) 71 k 0).2.1 71 i = 0 ∧ (md_a (md_a Y 72 k 0) 71 k 0).2.1 72 i = 0
        rw [g1, g2]
        by_cases e : i = k
        · rw [e, upd_s, upd_s]; exact ⟨rfl, rfl⟩
        · rw [upd_n e, upd_n e]; exact f3 i (by omega)
    · have c : ¬ (k : Int) < (inst : Int) := fun z => c (i_lt.mpr (by rw [tk, tb]; exact z))
      have ek : k = inst := by omega
      subst ek
      exact pw_some ⟨f1, f2, f3⟩
  exact key Z (by rw [hq]; rfl)
/-- held pauses below p -/
def cntH (f : Nat → Int32) : Nat → Nat
  | 0 => 0
  | p + 1 => cntH f p + if f p = 0 then 0 else 1
theorem cntH_le {f : Nat → Int32} : ∀ p, cntH f p ≤ p
  | 0 => Nat.le_refl _
  | p + 1 => by
    have := cntH_le (f := f) p
    show cntH f p + (if f p = 0 then 0 else 1) ≤ p + 1
    split <;> omega
theorem cntH_m {f : Nat → Int32} {p : Nat} : ∀ k, cntH f p ≤ cntH f (p + k)
  | 0 => Nat.le_refl _
  | k + 1 => Nat.le_trans (cntH_m k) (Nat.le_add_right _ _)
theorem lp_9 {pa : Nat} {x1 : Int32} (e47 : S.1 47 = Int32.ofNat pa) (hb : pa ≤ 200) (h0 : S.2.1 76 0 = 0) (hq : dc_it (mm_react_s9 x1) (S, 0) = some Z) : Z.1 = S.1 ∧ (∀ i, ¬ i = 76 → Z.2.1 i = S.2.1 i) ∧ ∀ p, p ≤ pa → Z.2.1 76 p = Int32.ofNat (cntH (S.2.1 74) p) := by
  have key : dc_pw ((dc_it (mm_react_s9 x1) (S, 0)).bind some) (fun Z => Z.1 = S.1 ∧ (∀ i, ¬ i = 76 → Z.2.1 i = S.2.1 i) ∧ ∀ p, p ≤ pa → Z.2.1 76 p = Int32.ofNat (cntH (S.2.1 74) p)) := by
    refine pw_loop (fun (y : md_S × Int32) => ∃ k, y.2 = Int32.ofNat k ∧ k ≤ pa ∧ y.1.1 = S.1 ∧ (∀ i, ¬ i = 76 → y.1.2.1 i = S.2.1 i) ∧ ∀ p, p ≤ k → y.1.2.1 76 p = Int32.ofNat (cntH (S.2.1 74) p)) (fun Z => Z.1 = S.1 ∧ (∀ i, ¬ i = 76 → Z.2.1 i = S.2.1 i) ∧ ∀ p, p ≤ pa → Z.2.1 76 p = Int32.ofNat (cntH (S.2.1 74) p)) ⟨0, rfl, Nat.zero_le _, rfl, fun _ _ => rfl, fun p hp => by rw [show p = 0 by omega]; exact h0⟩ ?_ (fun Z h => pw_some h)
    rintro ⟨Y, v⟩ ⟨k, ev, k1, f1, f2, f3⟩
    have ev : v = Int32.ofNat k := ev
    have f1 : Y.1 = S.1 := f1
    have f2 : ∀ i, ¬ i = 76 → Y.2.1 i = S.2.1 i := f2
    have f3 : ∀ p, p ≤ k → Y.2.1 76 p = Int32.ofNat (cntH (S.2.1 74) p) := f3
    subst ev
    have tk : (Int32.ofNat k).toInt = (k : Int) := Int32.toInt_ofNat_of_lt (by omega)
    have tkn : (Int32.ofNat k).toInt.toNat = k := by omega
    have tb : (Int32.ofNat pa).toInt = (pa : Int) := Int32.toInt_ofNat_of_lt (by omega)
    have cl := cntH_le (f := S.2.1 74) k
    show dc_pw (mm_react_b9 Y x1 (Int32.ofNat k)) _
    delta mm_react_b9
    rw [f1, e47]
    refine pw_ifc (fun c => ?_) (fun c => ?_)
    · have c := i_lt.mp c
      rw [tk, tb] at c
      have fin : ∀ u : Int32, u = (if S.2.1 74 k = 0 then 0 else 1) → dc_pw (mm_react_L44 Y x1 (Int32.ofNat k) u (Y.2.1 76 k) (Int32.ofNat k + 1)) (Sum.elim (fun (y : md_S × Int32) => ∃ k, y.2 = Int32.ofNat k ∧ k ≤ pa ∧ y.1.1 = S.1 ∧ (∀ i, ¬ i = 76 → y.1.2.1 i = S.2.1 i) ∧ ∀ p, p ≤ k → y.1.2.1 76 p = Int32.ofNat (cntH (S.2.1 74) p)) (fun Z => Z.1 = S.1 ∧ (∀ i, ¬ i = 76 → Z.2.1 i = S.2.1 i) ∧ ∀ p, p ≤ pa → Z.2.1 76 p = Int32.ofNat (cntH (S.2.1 74) p))) := by
        intro u hu
        have es : Y.2.1 76 k + u = Int32.ofNat (cntH (S.2.1 74) (k + 1)) := by
          rw [f3 k (Nat.le_refl _), hu]
          show _ = Int32.ofNat (cntH (S.2.1 74) k + if S.2.1 74 k = 0 then 0 else 1)
          by_cases z : S.2.1 74 k = 0
          · rw [if_pos z, if_pos z, Int32.add_zero, Nat.add_zero]
          · rw [if_neg z, if_neg z]
            exact ad_m (by omega)
        delta mm_react_L44
        refine pw_ix (fun _ _ => ?_)
        rw [ad_m (by omega), show (Int32.ofNat (k + 1)).toInt.toNat = k + 1 by rw [Int32.toInt_ofNat_of_lt (by omega)]; omega, es]
        refine pw_some ⟨k + 1, rfl, by omega, f1, fun i hi => by show (md_a Y 76 (k + 1) _).2.1 i = _; rw [md_a2, if_neg hi]; exact f2 i hi, fun p hp => ?_⟩
        show (md_a Y 76 (k + 1) (Int32.ofNat (cntH (S.2.1 74) (k + 1)))).2.1 76 p = _
        rw [md_a2, if_pos rfl]
        by_cases e : p = k + 1
        · rw [e, upd_s]
        · rw [upd_n e]; exact f3 p (by omega)
      refine pw_ix (fun _ _ => ?_)
      rw [tkn]
      refine pw_ix (fun _ _ => ?_)
      rw [tkn, f2 74 (by omega)]
      refine pw_ifc (fun z => ?_) (fun z => ?_)
      · exact fin 0 (by rw [if_pos z])
      · exact fin 1 (by rw [if_neg z])
    · have c : ¬ (k : Int) < (pa : Int) := fun z => c (i_lt.mpr (by rw [tk, tb]; exact z))
      have ek : k = pa := by omega
      subst ek
      exact pw_some ⟨f1, f2, f3⟩
  exact key Z (by rw [hq]; rfl)
end RX
