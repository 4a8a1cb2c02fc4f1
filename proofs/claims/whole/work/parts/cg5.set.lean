/-! the reference's settle -/
def lis (kd wt : Nat → Int32) : Nat → Nat
  | 0 => 62
  | n + 1 => lis kd wt n + if kd n = 10 then (wt n).toInt.toNat + 1 else 0
theorem lis_le {kd wt : Nat → Int32} {N : Nat} (h : ∀ j, j < N → (wt j).toInt ≤ 1300) : ∀ n, n ≤ N → lis kd wt n ≤ 62 + 1301 * n
  | 0, _ => Nat.le_refl _
  | n + 1, hn => by
    have a := lis_le (kd := kd) h n (by omega)
    have b := h n (by omega)
    show lis kd wt n + (if kd n = 10 then (wt n).toInt.toNat + 1 else 0) ≤ 62 + 1301 * (n + 1)
    split <;> omega
theorem pw_ix {τ : Type} {x : Int32} {n : Nat} {f : Nat → Option τ} {F : τ → Prop} (k : 0 ≤ x.toInt → x.toInt < (n : Int) → dc_pw (f x.toInt.toNat) F) : dc_pw ((dc_ix x n).bind f) F := by
  intro q hq
  obtain ⟨h0, h1, hq⟩ := iv_ix hq
  exact k h0 h1 q hq
theorem pw_ifc {τ : Type} {c : Prop} [Decidable c] {E1 E2 : Option τ} {F : τ → Prop} (k1 : c → dc_pw E1 F) (k2 : ¬ c → dc_pw E2 F) : dc_pw (if c then E1 else E2) F := by
  by_cases h : c
  · rw [if_pos h]; exact k1 h
  · rw [if_neg h]; exact k2 h
/-- letters of signal s, kept -/
def ltK (S q : md_S) (s : Nat) : Prop := q.2.1 69 s = S.2.1 22 s ∧ ∀ j, j < (S.2.1 22 s).toInt.toNat → q.2.1 68 (31 * s + j) = vp_nar .byte (S.2.1 1 ((S.2.1 21 s).toInt.toNat + j))
def stF (S q : md_S) : Prop := q.1 = S.1 ∧ q.2.2 = S.2.2 ∧ ∀ i, ¬ (i = 68 ∨ i = 69) → q.2.1 i = S.2.1 i
section STR
variable {S q : md_S}
theorem set_in (h21 : ∀ s : Nat, (s : Int) < (S.1 44).toInt → (0 ≤ (S.2.1 21 s).toInt ∧ (S.2.1 21 s).toInt ≤ 32768) ∧ 0 ≤ (S.2.1 22 s).toInt ∧ (S.2.1 22 s).toInt ≤ 31) {k : Nat} (hk : (k : Int) < (S.1 44).toInt) (hk4 : k < 400) {X : md_S} (f : stF S X) (i1 : ∀ s, s < k → ltK S X s) (e69 : X.2.1 69 k = S.2.1 22 k) : dc_pw (mm_settle_L69 X (Int32.ofNat k) 0) (fun y => ∃ X', y = .inl (X', Int32.ofNat k + 1) ∧ stF S X' ∧ ∀ s, s < k + 1 → ltK S X' s) := by
  have hh := h21 k hk
  have tk : (Int32.ofNat k).toInt = (k : Int) := Int32.toInt_ofNat_of_lt (by omega)
  have tkn : (Int32.ofNat k).toInt.toNat = k := by omega
  delta mm_settle_L69
  refine pw_loop (fun (y : md_S × Int32) => ∃ j, y.2 = Int32.ofNat j ∧ j ≤ (S.2.1 22 k).toInt.toNat ∧ stF S y.1 ∧ (∀ s, s < k → ltK S y.1 s) ∧ y.1.2.1 69 k = S.2.1 22 k ∧ ∀ j', j' < j → y.1.2.1 68 (31 * k + j') = vp_nar .byte (S.2.1 1 ((S.2.1 21 k).toInt.toNat + j'))) (fun X' => stF S X' ∧ ∀ s, s < k + 1 → ltK S X' s) ⟨0, rfl, Nat.zero_le _, f, i1, e69, fun j' hj => by omega⟩ ?_ (fun X' h => pw_some ⟨X', rfl, h⟩)
  rintro ⟨Y, x2⟩ ⟨j, ex, hj, fy, j1, j2, j3⟩
  have ex : x2 = Int32.ofNat j := ex
  have fy : stF S Y := fy
  have j2 : Y.2.1 69 k = S.2.1 22 k := j2
  subst ex
  have tj : (Int32.ofNat j).toInt = (j : Int) := Int32.toInt_ofNat_of_lt (by omega)
  show dc_pw (mm_settle_b69 Y (Int32.ofNat k) (Int32.ofNat j)) _
  delta mm_settle_b69
  refine pw_ix (fun _ _ => ?_)
  rw [tkn, fy.2.2 22 (by omega)]
  refine pw_ifc (fun c => ?_) (fun c => ?_)
  · have c := i_lt.mp c
    rw [tj] at c
    refine pw_ix (fun _ _ => ?_)
    rw [tkn, fy.2.2 21 (by omega)]
    refine pw_ix (fun _ _ => ?_)
    have e1 : (S.2.1 21 k + Int32.ofNat j).toInt.toNat = (S.2.1 21 k).toInt.toNat + j := by
      rw [i_addS (by rw [tj]; omega), tj]
      omega
    rw [e1, fy.2.2 1 (by omega)]
    refine pw_ix (fun _ _ => ?_)
    have e2 : (31 * Int32.ofNat k + Int32.ofNat j).toInt.toNat = 31 * k + j := by
      have m : (31 * Int32.ofNat k).toInt = 31 * (k : Int) := by
        rw [i_mulS (by rw [tk, show (31 : Int32).toInt = 31 by decide]; omega), tk, show (31 : Int32).toInt = 31 by decide]
      rw [i_addS (by rw [m, tj]; omega), m, tj]
      omega
    rw [e2]
    refine pw_some ⟨j + 1, ad_m (by omega), by omega, ⟨fy.1, fy.2.1, fun i hi => ?_⟩, fun s hs => ⟨?_, fun j' hj' => ?_⟩, ?_, fun j' hj' => ?_⟩
    · rw [md_a2, if_neg (by omega)]
      exact fy.2.2 i hi
    · rw [md_a2, if_neg (by omega)]
      exact (j1 s hs).1
    · have := h21 s (by omega)
      rw [md_a2, if_pos rfl, upd_n (by omega)]
      exact (j1 s hs).2 j' hj'
    · rw [md_a2, if_neg (by omega)]
      exact j2
    · rw [md_a2, if_pos rfl]
      by_cases e : j' = j
      · subst e
        rw [upd_s]
      · rw [upd_n (by omega)]
        exact j3 j' (by omega)
  · have c : ¬ (j : Int) < (S.2.1 22 k).toInt := fun t => c (i_lt.mpr (by rw [tj]; exact t))
    refine pw_some ⟨fy, fun s hs => ?_⟩
    by_cases e : s = k
    · subst e
      exact ⟨j2, fun j' hj' => j3 j' (by omega)⟩
    · exact j1 s (by omega)
/-- numbers of traps, bases of locals -/
def stN (S q : md_S) (n : Nat) : Prop := ((∀ i, ¬ i = 50 → q.1 i = S.1 i) ∧ q.2.2 = S.2.2 ∧ ∀ i, ¬ (i = 54 ∨ i = 61) → q.2.1 i = S.2.1 i) ∧ q.1 50 = Int32.ofNat (lis (S.2.1 51) (S.2.1 57) n) ∧ (∀ j, q.2.1 54 j = if j < n ∧ S.2.1 51 j = 8 then -1 else S.2.1 54 j) ∧ ∀ j, j < n → S.2.1 51 j = 10 → q.2.1 61 j = Int32.ofNat (lis (S.2.1 51) (S.2.1 57) j)
theorem set_nd {N : Nat} (hN : S.1 42 = Int32.ofNat N) (hb : N ≤ 1200) (hw : ∀ j, j < N → 0 ≤ (S.2.1 57 j).toInt ∧ (S.2.1 57 j).toInt ≤ 1300) (h50 : S.1 50 = 62) (hq : mm_settle_L115 S = some q) : stN S q N := by
  have key : dc_pw (mm_settle_L117 S 0) (fun q => stN S q N) := by
    delta mm_settle_L117
    refine pw_loop (fun (y : md_S × Int32) => ∃ k, y.2 = Int32.ofNat k ∧ k ≤ N ∧ stN S y.1 k) (fun X' => stN S X' N) ⟨0, rfl, Nat.zero_le _, ⟨fun _ _ => rfl, rfl, fun _ _ => rfl⟩, h50, fun j => by rw [if_neg (fun z => by have := z.1; omega)], fun j hj => by omega⟩ ?_ (fun X' h => pw_some h)
    rintro ⟨Y, x⟩ ⟨k, ex, hk, ⟨f1, f2, f3⟩, k50, k54, k61⟩
    have ex : x = Int32.ofNat k := ex
    subst ex
    have tk : (Int32.ofNat k).toInt = (k : Int) := Int32.toInt_ofNat_of_lt (by omega)
    have tkn : (Int32.ofNat k).toInt.toNat = k := by omega
    have tN : (Int32.ofNat N).toInt = (N : Int) := Int32.toInt_ofNat_of_lt (by omega)
    have f1 : ∀ i, ¬ i = 50 → Y.1 i = S.1 i := f1
    have f3 : ∀ i, ¬ (i = 54 ∨ i = 61) → Y.2.1 i = S.2.1 i := f3
    have k50 : Y.1 50 = Int32.ofNat (lis (S.2.1 51) (S.2.1 57) k) := k50
    have k54 : ∀ j, Y.2.1 54 j = if j < k ∧ S.2.1 51 j = 8 then -1 else S.2.1 54 j := k54
    have k61 : ∀ j, j < k → S.2.1 51 j = 10 → Y.2.1 61 j = Int32.ofNat (lis (S.2.1 51) (S.2.1 57) j) := k61
    show dc_pw (mm_settle_b117 Y (Int32.ofNat k)) _
    delta mm_settle_b117
    rw [f1 42 (by omega), hN]
    refine pw_ifc (fun c => ?_) (fun c => ?_)
    · have c := i_lt.mp c
      rw [tk, tN] at c
      have wk := hw k (by omega)
      have ll := lis_le (kd := S.2.1 51) (wt := S.2.1 57) (N := N) (fun j hj => (hw j hj).2) k (by omega)
      have l1 : lis (S.2.1 51) (S.2.1 57) (k + 1) = lis (S.2.1 51) (S.2.1 57) k + if S.2.1 51 k = 10 then (S.2.1 57 k).toInt.toNat + 1 else 0 := rfl
      refine pw_ix (fun _ _ => ?_)
      rw [tkn, f3 51 (by omega)]
      -- behind the trap
      have go : ∀ Z : md_S, (∀ i, ¬ i = 50 → Z.1 i = S.1 i) → Z.2.2 = S.2.2 → (∀ i, ¬ (i = 54 ∨ i = 61) → Z.2.1 i = S.2.1 i) → Z.1 50 = Int32.ofNat (lis (S.2.1 51) (S.2.1 57) k) → (∀ j, Z.2.1 54 j = if j < k + 1 ∧ S.2.1 51 j = 8 then -1 else S.2.1 54 j) → (∀ j, j < k → S.2.1 51 j = 10 → Z.2.1 61 j = Int32.ofNat (lis (S.2.1 51) (S.2.1 57) j)) → dc_pw (mm_settle_L143 Z (Int32.ofNat k)) (Sum.elim (fun (y : md_S × Int32) => ∃ k, y.2 = Int32.ofNat k ∧ k ≤ N ∧ stN S y.1 k) (fun X' => stN S X' N)) := by
        intro Z g1 g2 g3 g50 g54 g61
        delta mm_settle_L143
        refine pw_ix (fun _ _ => ?_)
        rw [tkn, g3 51 (by omega)]
        refine pw_ifc (fun d => ?_) (fun d => ?_)
        · rw [if_pos d] at l1
          refine pw_ix (fun _ _ => ?_)
          rw [tkn]
          refine pw_ix (fun _ _ => ?_)
          rw [tkn]
          refine pw_some ⟨k + 1, ad_m (by omega), by omega, ⟨fun i hi => ?_, ?_, fun i hi => ?_⟩, ?_, fun j => ?_, fun j hj dj => ?_⟩
          · show (md_i (md_a Z 61 k (Z.1 50)) 50 _).1 i = _
            rw [md_ij hi]
            exact g1 i hi
          · exact g2
          · show (md_a Z 61 k (Z.1 50)).2.1 i = _
            rw [md_a2, if_neg (by omega)]
            exact g3 i hi
          · show (md_i (md_a Z 61 k (Z.1 50)) 50 (Z.1 50 + ((md_a Z 61 k (Z.1 50)).2.1 57 k + 1))).1 50 = _
            rw [md_ii, md_a2, if_neg (by omega), g3 57 (by omega), g50, l1]
            have e1 : (S.2.1 57 k + 1).toInt = (S.2.1 57 k).toInt + 1 := by rw [i_addS (by rw [il_1]; omega), il_1]
            rw [i_eq, i_addS (by rw [e1, Int32.toInt_ofNat_of_lt (by omega)]; omega), e1, Int32.toInt_ofNat_of_lt (by omega), Int32.toInt_ofNat_of_lt (by omega)]
            omega
          · show (md_a Z 61 k (Z.1 50)).2.1 54 j = _
            rw [md_a2, if_neg (by omega)]
            exact g54 j
          · show (md_a Z 61 k (Z.1 50)).2.1 61 j = _
            rw [md_a2, if_pos rfl]
            by_cases e : j = k
            · subst e
              rw [upd_s]
              exact g50
            · rw [upd_n e]
              exact g61 j (by omega) dj
        · rw [if_neg d] at l1
          refine pw_some ⟨k + 1, ad_m (by omega), by omega, ⟨g1, g2, g3⟩, ?_, g54, fun j hj dj => ?_⟩
          · rw [l1]
            exact g50
          · by_cases e : j = k
            · subst e
              exact absurd dj d
            · exact g61 j (by omega) dj
      refine pw_ifc (fun d => ?_) (fun d => ?_)
      · refine pw_ix (fun _ _ => ?_)
        rw [tkn]
        refine go _ f1 f2 (fun i hi => ?_) k50 (fun j => ?_) (fun j hj dj => ?_)
        · rw [md_a2, if_neg (by omega)]
          exact f3 i hi
        · rw [md_a2, if_pos rfl]
          by_cases e : j = k
          · subst e
            rw [upd_s, if_pos ⟨by omega, d⟩]
          · rw [upd_n e, k54 j]
            by_cases z : j < k ∧ S.2.1 51 j = 8
            · rw [if_pos z, if_pos ⟨by omega, z.2⟩]
            · rw [if_neg z, if_neg (fun t => z ⟨by omega, t.2⟩)]
        · rw [md_a2, if_neg (by omega)]
          exact k61 j hj dj
      · refine go Y f1 f2 f3 k50 (fun j => ?_) k61
        rw [k54 j]
        by_cases z : j < k ∧ S.2.1 51 j = 8
        · rw [if_pos z, if_pos ⟨by omega, z.2⟩]
        · rw [if_neg z, if_neg (fun t => ?_)]
          by_cases e : j = k
          · subst e
            exact d t.2
          · exact z ⟨by omega, t.2⟩
    · have c : ¬ (k : Int) < (N : Int) := fun t => c (i_lt.mpr (by rw [tk, tN]; exact t))
      have ek : k = N := by omega
      subst ek
      exact pw_some ⟨⟨f1, f2, f3⟩, k50, k54, k61⟩
  exact key q hq
/-- settle, whole -/
def setO (S q : md_S) (N : Nat) : Prop :=
  ((∀ i, ¬ (i = 41 ∨ i = 44 ∨ i = 45 ∨ i = 46 ∨ i = 50 ∨ i = 77 ∨ i = 82) → q.1 i = S.1 i) ∧ q.2.2 = S.2.2 ∧ ∀ i, ¬ (i = 54 ∨ i = 61 ∨ i = 68 ∨ i = 69) → q.2.1 i = S.2.1 i) ∧ (q.1 41 = 1 ∧ q.1 82 = 1 ∧ q.1 77 = 1 ∧ q.1 44 = S.1 15 ∧ q.1 45 = S.1 16 ∧ q.1 46 = S.1 17 ∧ q.1 50 = Int32.ofNat (lis (S.2.1 51) (S.2.1 57) N)) ∧ (∀ j, q.2.1 54 j = if j < N ∧ S.2.1 51 j = 8 then -1 else S.2.1 54 j) ∧ (∀ j, j < N → S.2.1 51 j = 10 → q.2.1 61 j = Int32.ofNat (lis (S.2.1 51) (S.2.1 57) j)) ∧ ∀ s : Nat, (s : Int) < (S.1 15).toInt → ltK S q s
theorem setl_w (h15 : (S.1 15).toInt ≤ 400) (h21 : ∀ s : Nat, (s : Int) < (S.1 15).toInt → (0 ≤ (S.2.1 21 s).toInt ∧ (S.2.1 21 s).toInt ≤ 32768) ∧ 0 ≤ (S.2.1 22 s).toInt ∧ (S.2.1 22 s).toInt ≤ 31) {N : Nat} (hN : S.1 42 = Int32.ofNat N) (hb : N ≤ 1200) (hw : ∀ j, j < N → 0 ≤ (S.2.1 57 j).toInt ∧ (S.2.1 57 j).toInt ≤ 1300) (hq : mm_settle S = some q) : setO S q N := by
  have hq : mm_settle_L47 (md_i (md_i (md_i (md_i (md_i (md_i (md_i S 41 1) 82 1) 77 1) 44 (S.1 15)) 45 (S.1 16)) 46 (S.1 17)) 50 62) 0 = some q := hq
  have x1 : ∀ i, ¬ (i = 41 ∨ i = 44 ∨ i = 45 ∨ i = 46 ∨ i = 50 ∨ i = 77 ∨ i = 82) → (md_i (md_i (md_i (md_i (md_i (md_i (md_i S 41 1) 82 1) 77 1) 44 (S.1 15)) 45 (S.1 16)) 46 (S.1 17)) 50 62).1 i = S.1 i := fun i hi => by
    rw [md_ij (by omega), md_ij (by omega), md_ij (by omega), md_ij (by omega), md_ij (by omega), md_ij (by omega), md_ij (by omega)]
  have x2 : (md_i (md_i (md_i (md_i (md_i (md_i (md_i S 41 1) 82 1) 77 1) 44 (S.1 15)) 45 (S.1 16)) 46 (S.1 17)) 50 62).2 = S.2 := rfl
  have x3 : (md_i (md_i (md_i (md_i (md_i (md_i (md_i S 41 1) 82 1) 77 1) 44 (S.1 15)) 45 (S.1 16)) 46 (S.1 17)) 50 62).1 41 = 1 ∧ (md_i (md_i (md_i (md_i (md_i (md_i (md_i S 41 1) 82 1) 77 1) 44 (S.1 15)) 45 (S.1 16)) 46 (S.1 17)) 50 62).1 82 = 1 ∧ (md_i (md_i (md_i (md_i (md_i (md_i (md_i S 41 1) 82 1) 77 1) 44 (S.1 15)) 45 (S.1 16)) 46 (S.1 17)) 50 62).1 77 = 1 ∧ (md_i (md_i (md_i (md_i (md_i (md_i (md_i S 41 1) 82 1) 77 1) 44 (S.1 15)) 45 (S.1 16)) 46 (S.1 17)) 50 62).1 44 = S.1 15 ∧ (md_i (md_i (md_i (md_i (md_i (md_i (md_i S 41 1) 82 1) 77 1) 44 (S.1 15)) 45 (S.1 16)) 46 (S.1 17)) 50 62).1 45 = S.1 16 ∧ (md_i (md_i (md_i (md_i (md_i (md_i (md_i S 41 1) 82 1) 77 1) 44 (S.1 15)) 45 (S.1 16)) 46 (S.1 17)) 50 62).1 46 = S.1 17 ∧ (md_i (md_i (md_i (md_i (md_i (md_i (md_i S 41 1) 82 1) 77 1) 44 (S.1 15)) 45 (S.1 16)) 46 (S.1 17)) 50 62).1 50 = 62 := ⟨rfl, rfl, rfl, rfl, rfl, rfl, rfl⟩
  generalize md_i (md_i (md_i (md_i (md_i (md_i (md_i S 41 1) 82 1) 77 1) 44 (S.1 15)) 45 (S.1 16)) 46 (S.1 17)) 50 62 = X at hq x1 x2 x3
  obtain ⟨x41, x82, x77, x44, x45, x46, x50⟩ := x3
  have a0 : X.2.1 = S.2.1 := by rw [x2]
  have b0 : X.2.2 = S.2.2 := by rw [x2]
  have key : dc_pw (mm_settle_L47 X 0) (fun q => setO S q N) := by
    delta mm_settle_L47
    refine pw_loop (fun (y : md_S × Int32) => ∃ k : Nat, y.2 = Int32.ofNat k ∧ k ≤ 400 ∧ stF X y.1 ∧ ∀ s, s < k → ltK X y.1 s) (fun Z => stF X Z ∧ ∀ s : Nat, (s : Int) < (S.1 15).toInt → ltK X Z s) ⟨0, rfl, by omega, ⟨rfl, rfl, fun _ _ => rfl⟩, fun s hs => by omega⟩ ?_ ?_
    · rintro ⟨Y, x⟩ ⟨k, ex, hk, fy, i1⟩
      have ex : x = Int32.ofNat k := ex
      have fy : stF X Y := fy
      subst ex
      have tk : (Int32.ofNat k).toInt = (k : Int) := Int32.toInt_ofNat_of_lt (by omega)
      have tkn : (Int32.ofNat k).toInt.toNat = k := by omega
      show dc_pw (mm_settle_b47 Y (Int32.ofNat k)) _
      delta mm_settle_b47
      rw [fy.1, x44]
      refine pw_ifc (fun c => ?_) (fun c => ?_)
      · have c := i_lt.mp c
        rw [tk] at c
        refine pw_ix (fun _ _ => ?_)
        refine pw_ix (fun _ _ => ?_)
        rw [tkn, fy.2.2 22 (by omega)]
        have f2 : stF X (md_a Y 69 k (X.2.1 22 k)) := ⟨fy.1, fy.2.1, fun i hi => by rw [md_a2, if_neg (by omega)]; exact fy.2.2 i hi⟩
        intro z hz
        obtain ⟨X', ez, f', i'⟩ := set_in (S := X) (fun s hs => by rw [a0]; rw [x44] at hs; exact h21 s hs) (by rw [x44]; exact c) (by omega) f2 (fun s hs => ⟨by rw [md_a2, if_pos rfl, upd_n (by omega)]; exact (i1 s hs).1, fun j hj => by rw [md_a2, if_neg (by omega)]; exact (i1 s hs).2 j hj⟩) (by rw [md_a2, if_pos rfl, upd_s]) z hz
        rw [ez]
        exact ⟨k + 1, ad_m (by omega), by omega, f', i'⟩
      · have c : ¬ (k : Int) < (S.1 15).toInt := fun t => c (i_lt.mpr (by rw [tk]; exact t))
        exact pw_some ⟨fy, fun s hs => i1 s (by omega)⟩
    · rintro Z ⟨fz, lz⟩ r hr
      obtain ⟨z1, z2, z3⟩ := fz
      have e51 : Z.2.1 51 = S.2.1 51 := by rw [z3 51 (by omega), a0]
      have e57 : Z.2.1 57 = S.2.1 57 := by rw [z3 57 (by omega), a0]
      have e54 : Z.2.1 54 = S.2.1 54 := by rw [z3 54 (by omega), a0]
      obtain ⟨⟨r1, r2, r3⟩, r4, r5, r6⟩ := set_nd (S := Z) (q := r) (by rw [z1, x1 42 (by omega)]; exact hN) hb (fun j hj => by rw [e57]; exact hw j hj) (by rw [z1]; exact x50) hr
      rw [e51, e57] at r4 r6
      rw [e51, e54] at r5
      refine ⟨⟨fun i hi => by rw [r1 i (by omega), z1]; exact x1 i hi, by rw [r2, z2, b0], fun i hi => by rw [r3 i (by omega), z3 i (by omega), a0]⟩, ⟨?_, ?_, ?_, ?_, ?_, ?_, r4⟩, r5, r6, fun s hs => ?_⟩
      · rw [r1 41 (by omega), z1]; exact x41
      · rw [r1 82 (by omega), z1]; exact x82
      · rw [r1 77 (by omega), z1]; exact x77
      · rw [r1 44 (by omega), z1]; exact x44
      · rw [r1 45 (by omega), z1]; exact x45
      · rw [r1 46 (by omega), z1]; exact x46
      · have l := lz s hs
        unfold ltK at l ⊢
        rw [r3 69 (by omega), r3 68 (by omega)]
        rw [a0] at l
        exact l
  exact key q hq
end STR
