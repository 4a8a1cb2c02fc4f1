/-! the reference's states: which differ at once; where from they are met -/
/-- states in order, cells that lead to states met -/
def rfS (M : md_S) (cnt ins : Nat) : Prop := (M.1 87 = Int32.ofNat cnt ∧ cnt ≤ 257 ∧ M.1 45 = Int32.ofNat ins ∧ ins ≤ 4) ∧ (∀ j, j < cnt → 0 ≤ (M.2.1 88 j).toInt ∧ (M.2.1 88 j).toInt < 257) ∧ (∀ i j, i < cnt → j < cnt → M.2.1 88 i = M.2.1 88 j → i = j) ∧ ∀ j i, j < cnt → i < 2 ^ ins → M.2.1 92 (16 * j + i) = -1 ∨ M.2.1 92 (16 * j + i) = 257 ∨ ∃ k, k < cnt ∧ M.2.1 92 (16 * j + i) = M.2.1 88 k
/-- two states are not told apart at once on inputs i -/
def dsm (M : md_S) (x y i : Nat) : Prop := (M.2.1 92 (16 * x + i) < 0 ↔ M.2.1 92 (16 * y + i) < 0) ∧ (M.2.1 92 (16 * x + i) = 257 ↔ M.2.1 92 (16 * y + i) = 257) ∧ (¬ M.2.1 92 (16 * x + i) < 0 → M.2.1 93 (16 * x + i) = M.2.1 93 (16 * y + i))
def dfP (M : md_S) (W x y : Nat) : Prop := ∃ i, i < W ∧ ¬ dsm M x y i
/-- p leads to state k on inputs i -/
def prE (M : md_S) (k i p : Nat) : Prop := M.2.1 92 (16 * p + i) = M.2.1 88 k
/-- v is the last one below m that is such -/
def isP (P : Nat → Prop) (m : Nat) (v : Int32) : Prop := (v = -1 ∧ ∀ p, p < m → ¬ P p) ∨ ∃ p, v = Int32.ofNat p ∧ p < m ∧ P p ∧ ∀ k, p < k → k < m → ¬ P k
theorem isP_k {P : Nat → Prop} {m : Nat} {v : Int32} (h : isP P m v) (n : ¬ P m) : isP P (m + 1) v := by
  rcases h with ⟨e, h⟩ | ⟨p, e, h1, h2, h3⟩
  · refine Or.inl ⟨e, fun p hp => ?_⟩
    by_cases c : p = m
    · rw [c]; exact n
    · exact h p (by omega)
  · refine Or.inr ⟨p, e, by omega, h2, fun k k1 k2 => ?_⟩
    by_cases c : k = m
    · rw [c]; exact n
    · exact h3 k k1 (by omega)
section RFD
variable {M : md_S} {cnt ins x y : Nat}
theorem dsm_s {i : Nat} (h : dsm M x y i) : dsm M y x i := ⟨h.1.symm, h.2.1.symm, fun z => (h.2.2 (fun w => z (h.1.mp w))).symm⟩
theorem dfP_s {W : Nat} (h : dfP M W x y) : dfP M W y x := by
  obtain ⟨i, h1, h2⟩ := h
  exact ⟨i, h1, fun z => h2 (dsm_s z)⟩
theorem dfP_r {W : Nat} : ¬ dfP M W x x := fun ⟨i, _, h2⟩ => h2 ⟨Iff.rfl, Iff.rfl, fun _ => rfl⟩
theorem cel_m {i : Nat} : (16 : Int32) * Int32.ofNat x + Int32.ofNat i = Int32.ofNat (16 * x + i) := by
  rw [show (16 : Int32) = Int32.ofNat 16 from rfl, ← Int32.ofNat_mul, ← Int32.ofNat_add]
theorem dif_t (e45 : M.1 45 = Int32.ofNat ins) (hi : ins ≤ 4) (hx : x < 257) (hy : y < 257) : dc_wp (mm_differ M (Int32.ofNat x) (Int32.ofNat y)) (fun v => (v = 1 ∧ dfP M (2 ^ ins) x y) ∨ (v = 0 ∧ ¬ dfP M (2 ^ ins) x y)) := by
  obtain ⟨sh1, sh2, sh3⟩ := sh_ins ins hi
  have tW : (Int32.ofNat (2 ^ ins)).toInt = ((2 ^ ins : Nat) : Int) := Int32.toInt_ofNat_of_lt (by omega)
  have key := dc_itK (step := mm_differ_s2 M (Int32.ofNat x) (Int32.ofNat y)) (fun d (v : Int32) => ∃ j, v = Int32.ofNat j ∧ j ≤ 2 ^ ins ∧ d = 2 ^ ins - j ∧ ∀ i, i < j → dsm M x y i) (F := fun r => match r with | .inl _ => dfP M (2 ^ ins) x y | .inr _ => ∀ i, i < 2 ^ ins → dsm M x y i) (by
    rintro d v ⟨j, ev, j1, ed, g⟩
    subst ev
    have tj : (Int32.ofNat j).toInt = (j : Int) := Int32.toInt_ofNat_of_lt (by omega)
    show dc_wp (mm_differ_b2 M (Int32.ofNat x) (Int32.ofNat y) (Int32.ofNat j)) _
    delta mm_differ_b2
    rw [e45, sh1]
    refine wq_if (fun c => ?_) (fun c => ?_)
    · have c := i_lt.mp c
      rw [tj, tW] at c
      have cx : (Int32.ofNat (16 * x + j)).toInt = ((16 * x + j : Nat) : Int) := Int32.toInt_ofNat_of_lt (by omega)
      have cy : (Int32.ofNat (16 * y + j)).toInt = ((16 * y + j : Nat) : Int) := Int32.toInt_ofNat_of_lt (by omega)
      have cxn : (Int32.ofNat (16 * x + j)).toInt.toNat = 16 * x + j := by omega
      have cyn : (Int32.ofNat (16 * y + j)).toInt.toNat = 16 * y + j := by omega
      rw [cel_m, cel_m]
      refine wq_ix (by omega) (by omega) ?_
      refine wq_let (fun a ea => ?_)
      refine wq_ix (by omega) (by omega) ?_
      refine wq_let (fun b eb => ?_)
      rw [cxn] at ea
      rw [cyn] at eb
      have no : ¬ dsm M x y j → dc_wp (some (.inr (.inl ())) : Option (Int32 ⊕ (Unit ⊕ Unit))) (Sum.elim (fun v => ∃ k', k' < d ∧ ∃ j, v = Int32.ofNat j ∧ j ≤ 2 ^ ins ∧ k' = 2 ^ ins - j ∧ ∀ i, i < j → dsm M x y i) (fun r => match r with | .inl _ => dfP M (2 ^ ins) x y | .inr _ => ∀ i, i < 2 ^ ins → dsm M x y i)) := fun h => ⟨_, rfl, j, by omega, h⟩
      have yes : dsm M x y j → dc_wp (mm_differ_L122 M (Int32.ofNat x) (Int32.ofNat y) (Int32.ofNat j)) (Sum.elim (fun v => ∃ k', k' < d ∧ ∃ j, v = Int32.ofNat j ∧ j ≤ 2 ^ ins ∧ k' = 2 ^ ins - j ∧ ∀ i, i < j → dsm M x y i) (fun r => match r with | .inl _ => dfP M (2 ^ ins) x y | .inr _ => ∀ i, i < 2 ^ ins → dsm M x y i)) := by
        intro h
        delta mm_differ_L122
        refine ⟨_, rfl, 2 ^ ins - (j + 1), by omega, j + 1, ad_m (by omega), by omega, rfl, fun i hi' => ?_⟩
        by_cases ei : i = j
        · rw [ei]; exact h
        · exact g i (by omega)
      have p3 : ∀ u v : Int32, ((u = 1 ∧ a = 257) ∨ (u = 0 ∧ ¬ a = 257)) → ((v = 1 ∧ b = 257) ∨ (v = 0 ∧ ¬ b = 257)) → (a < 0 ↔ b < 0) → dc_wp (mm_differ_L87 M (Int32.ofNat x) (Int32.ofNat y) (Int32.ofNat j) a v u) (Sum.elim (fun v => ∃ k', k' < d ∧ ∃ j, v = Int32.ofNat j ∧ j ≤ 2 ^ ins ∧ k' = 2 ^ ins - j ∧ ∀ i, i < j → dsm M x y i) (fun r => match r with | .inl _ => dfP M (2 ^ ins) x y | .inr _ => ∀ i, i < 2 ^ ins → dsm M x y i)) := by
        intro u v hu hv hs
        have he : u = v ↔ (a = 257 ↔ b = 257) := by
          rcases hu with ⟨u1, u2⟩ | ⟨u1, u2⟩ <;> rcases hv with ⟨v1, v2⟩ | ⟨v1, v2⟩ <;> rw [u1, v1]
          · exact ⟨fun _ => ⟨fun _ => v2, fun _ => u2⟩, fun _ => rfl⟩
          · exact ⟨fun z => absurd z (by decide), fun z => absurd (z.mp u2) v2⟩
          · exact ⟨fun z => absurd z (by decide), fun z => absurd (z.mpr v2) u2⟩
          · exact ⟨fun _ => ⟨fun z => absurd z u2, fun z => absurd z v2⟩, fun _ => rfl⟩
        delta mm_differ_L87
        refine wq_if (fun c2 => ?_) (fun c2 => no (fun z => c2 (he.mpr (by rw [ea, eb]; exact z.2.1))))
        have c3 := he.mp c2
        refine wq_if (fun c4 => yes ?_) (fun c4 => ?_)
        · rw [ea] at c4 hs c3
          rw [eb] at hs c3
          exact ⟨hs, c3, fun z => absurd c4 z⟩
        · rw [cel_m, cel_m]
          refine wq_ix (by omega) (by omega) ?_
          refine wq_ix (by omega) (by omega) ?_
          rw [cxn, cyn]
          rw [ea] at c4 hs c3
          rw [eb] at hs c3
          exact wq_if (fun c5 => yes ⟨hs, c3, fun _ => c5⟩) (fun c5 => no (fun z => c5 (z.2.2 c4)))
      have p2 : ∀ u : Int32, ((u = 1 ∧ a = 257) ∨ (u = 0 ∧ ¬ a = 257)) → (a < 0 ↔ b < 0) → dc_wp (mm_differ_L74 M (Int32.ofNat x) (Int32.ofNat y) (Int32.ofNat j) a b u) (Sum.elim (fun v => ∃ k', k' < d ∧ ∃ j, v = Int32.ofNat j ∧ j ≤ 2 ^ ins ∧ k' = 2 ^ ins - j ∧ ∀ i, i < j → dsm M x y i) (fun r => match r with | .inl _ => dfP M (2 ^ ins) x y | .inr _ => ∀ i, i < 2 ^ ins → dsm M x y i)) := by
        intro u hu hs
        delta mm_differ_L74
        exact wq_if (fun c2 => p3 u 1 hu (Or.inl ⟨rfl, c2⟩) hs) (fun c2 => p3 u 0 hu (Or.inr ⟨rfl, c2⟩) hs)
      have p1 : ∀ u v : Int32, ((u = 1 ∧ a < 0) ∨ (u = 0 ∧ ¬ a < 0)) → ((v = 1 ∧ b < 0) ∨ (v = 0 ∧ ¬ b < 0)) → dc_wp (mm_differ_L58 M (Int32.ofNat x) (Int32.ofNat y) (Int32.ofNat j) a b v u) (Sum.elim (fun v => ∃ k', k' < d ∧ ∃ j, v = Int32.ofNat j ∧ j ≤ 2 ^ ins ∧ k' = 2 ^ ins - j ∧ ∀ i, i < j → dsm M x y i) (fun r => match r with | .inl _ => dfP M (2 ^ ins) x y | .inr _ => ∀ i, i < 2 ^ ins → dsm M x y i)) := by
        intro u v hu hv
        have he : u = v ↔ (a < 0 ↔ b < 0) := by
          rcases hu with ⟨u1, u2⟩ | ⟨u1, u2⟩ <;> rcases hv with ⟨v1, v2⟩ | ⟨v1, v2⟩ <;> rw [u1, v1]
          · exact ⟨fun _ => ⟨fun _ => v2, fun _ => u2⟩, fun _ => rfl⟩
          · exact ⟨fun z => absurd z (by decide), fun z => absurd (z.mp u2) v2⟩
          · exact ⟨fun z => absurd z (by decide), fun z => absurd (z.mpr v2) u2⟩
          · exact ⟨fun _ => ⟨fun z => absurd z u2, fun z => absurd z v2⟩, fun _ => rfl⟩
        delta mm_differ_L58
        refine wq_if (fun c2 => ?_) (fun c2 => no (fun z => c2 (he.mpr (by rw [ea, eb]; exact z.1))))
        exact wq_if (fun c3 => p2 1 (Or.inl ⟨rfl, c3⟩) (he.mp c2)) (fun c3 => p2 0 (Or.inr ⟨rfl, c3⟩) (he.mp c2))
      have p0 : ∀ u : Int32, ((u = 1 ∧ a < 0) ∨ (u = 0 ∧ ¬ a < 0)) → dc_wp (mm_differ_L48 M (Int32.ofNat x) (Int32.ofNat y) (Int32.ofNat j) a b u) (Sum.elim (fun v => ∃ k', k' < d ∧ ∃ j, v = Int32.ofNat j ∧ j ≤ 2 ^ ins ∧ k' = 2 ^ ins - j ∧ ∀ i, i < j → dsm M x y i) (fun r => match r with | .inl _ => dfP M (2 ^ ins) x y | .inr _ => ∀ i, i < 2 ^ ins → dsm M x y i)) := by
        intro u hu
        delta mm_differ_L48
        exact wq_if (fun c2 => p1 u 1 hu (Or.inl ⟨rfl, c2⟩)) (fun c2 => p1 u 0 hu (Or.inr ⟨rfl, c2⟩))
      exact wq_if (fun c2 => p0 1 (Or.inl ⟨rfl, c2⟩)) (fun c2 => p0 0 (Or.inr ⟨rfl, c2⟩))
    · have c : ¬ (Int32.ofNat j).toInt < (Int32.ofNat (2 ^ ins)).toInt := fun z => c (i_lt.mpr z)
      rw [tj, tW] at c
      have ej : j = 2 ^ ins := by omega
      rw [ej] at g
      exact ⟨_, rfl, g⟩)
  delta mm_differ mm_differ_L2
  refine wq_call (key (2 ^ ins) 0 ⟨0, rfl, Nat.zero_le _, rfl, fun i hi' => absurd hi' (by omega)⟩) ?_
  intro r hr
  cases r with
  | inl r => exact ⟨_, rfl, Or.inl ⟨rfl, hr⟩⟩
  | inr r =>
    have hr : ∀ i, i < 2 ^ ins → dsm M x y i := hr
    exact ⟨_, rfl, Or.inr ⟨rfl, fun ⟨i, h1, h2⟩ => h2 (hr i h1)⟩⟩
/-- the reference's find comes to an end -/
theorem fnd_t {p1 : Int32} (hc : cnt ≤ 257) (e87 : M.1 87 = Int32.ofNat cnt) : dc_wp (mm_find M p1) (fun v => (∃ j, j < cnt ∧ v = Int32.ofNat j ∧ M.2.1 88 j = p1 ∧ ∀ i, i < j → ¬ M.2.1 88 i = p1) ∨ (v = -1 ∧ ∀ i, i < cnt → ¬ M.2.1 88 i = p1)) := by
  have tc : (Int32.ofNat cnt).toInt = (cnt : Int) := Int32.toInt_ofNat_of_lt (by omega)
  have key := dc_itK (step := mm_find_s2 M p1) (fun d (y : Int32) => ∃ k, y = Int32.ofNat k ∧ k ≤ cnt ∧ d = cnt - k) (F := fun _ => True) (by
    rintro d y ⟨k, ev, k1, ed⟩
    subst ev
    have tk : (Int32.ofNat k).toInt = (k : Int) := Int32.toInt_ofNat_of_lt (by omega)
    show dc_wp (mm_find_b2 M p1 (Int32.ofNat k)) _
    delta mm_find_b2
    rw [e87]
    refine wq_if (fun c => ?_) (fun c => ⟨_, rfl, trivial⟩)
    have c := i_lt.mp c
    rw [tk, tc] at c
    refine wq_ix (by omega) (by omega) ?_
    exact wq_if (fun _ => ⟨_, rfl, trivial⟩) (fun _ => ⟨_, rfl, cnt - (k + 1), by omega, k + 1, ad_m (by omega), by omega, rfl⟩))
  have tot : dc_wp (mm_find M p1) (fun _ => True) := by
    delta mm_find mm_find_L2
    refine wq_call (key cnt 0 ⟨0, rfl, by omega, rfl⟩) ?_
    intro z _
    cases z with
    | inl v => exact ⟨_, rfl, trivial⟩
    | inr v => exact ⟨_, rfl, trivial⟩
  obtain ⟨v, hv, -⟩ := tot
  exact ⟨v, hv, fnd_r hc e87 hv⟩
end RFD
