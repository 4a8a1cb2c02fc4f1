/-! codes and empty loops of the class are those of the tree -/
theorem feP_uni : ∀ (T : tT) (E : List Int32) (o o' : Option Int32), feP T E o → feP T E o' → o = o'
  | .const x, E, o, o', h, h' => by
    have h : o = none := h
    have h' : o' = none := h'
    rw [h, h']
  | .unary x a, E, o, o', h, h' => by
    rcases h with ⟨k, h⟩ | ⟨k, c, h⟩ | ⟨k, c, h⟩ | ⟨k, k2, h⟩ <;> rcases h' with ⟨l, h'⟩ | ⟨l, c', h'⟩ | ⟨l, c', h'⟩ | ⟨l, l2, h'⟩
    · exact feP_uni a _ _ _ h h'
    · rw [k] at l; exact absurd l (by decide)
    · rw [k] at l; exact absurd l (by decide)
    · exact absurd k l
    · rw [l] at k; exact absurd k (by decide)
    · rw [h, h']
    · exact absurd c c'
    · exact absurd k l2
    · rw [l] at k; exact absurd k (by decide)
    · exact absurd c' c
    · exact feP_uni a _ _ _ h h'
    · exact absurd k l2
    · exact absurd l k
    · exact absurd l k2
    · exact absurd l k2
    · exact feP_uni a _ _ _ h h'
  | .binary x a b, E, o, o', h, h' => by
    rcases h with ⟨l, h1, h2⟩ | ⟨h1, h2⟩ <;> rcases h' with ⟨l', h1', h2'⟩ | ⟨h1', h2'⟩
    · rw [h2, h2']
      exact feP_uni a _ _ _ h1 h1'
    · have := feP_uni a _ _ _ h1 h1'
      cases this
    · have := feP_uni a _ _ _ h1 h1'
      cases this
    · exact feP_uni b _ _ _ h2 h2'
section CDT
variable {ND : Nat → ndT} {F : Nat → Nat → Int32} {m : Nat} {θ : (Int32 → Prop) → Int32 → Prop}
theorem rp_le (hc : ∀ j, j < m → ∀ c, (ND j).2.2.1 = some c ∨ (ND j).2.2.2.1 = some c → c < j) : ∀ (T : tT) (i : Nat) (I : List Nat), repC ND T i I → (∀ j, j ∈ I → j < m) → ∀ j, j ∈ I → j ≤ i
  | .const x, i, I, ⟨h1, h2⟩, hI, j, hj => by
    rw [h1] at hj
    rw [List.mem_singleton.mp hj]
    exact Nat.le_refl _
  | .unary x a, i, I, ⟨i1, I1, h1, h2, h3⟩, hI, j, hj => by
    subst h1
    have := hc i (hI i List.mem_cons_self) i1 (Or.inl (by rw [h2]))
    rcases List.mem_cons.mp hj with z | z
    · omega
    · have := rp_le hc a i1 I1 h3 (fun j hj => hI j (List.mem_cons_of_mem _ hj)) j z
      omega
  | .binary x a b, i, I, ⟨i1, I1, i2, I2, h1, h2, h3, h4⟩, hI, j, hj => by
    subst h1
    have c1 := hc i (hI i List.mem_cons_self) i1 (Or.inl (by rw [h2]))
    have c2 := hc i (hI i List.mem_cons_self) i2 (Or.inr (by rw [h2]))
    rcases List.mem_cons.mp hj with z | z
    · omega
    · rcases List.mem_append.mp z with z | z
      · have := rp_le hc a i1 I1 h3 (fun j hj => hI j (List.mem_cons_of_mem _ (List.mem_append_left _ hj))) j z
        omega
      · have := rp_le hc b i2 I2 h4 (fun j hj => hI j (List.mem_cons_of_mem _ (List.mem_append_right _ hj))) j z
        omega
/-- the traps around: a node for each -/
def TA (ND : Nat → ndT) (F : Nat → Nat → Int32) (m : Nat) (E : List (Int32 × Int32)) (I : List Nat) : Prop := ∀ (k : Nat) (nm sv : Int32), E[k]? = some (nm, sv) → ∃ j', j' < m ∧ (ND j').1 = 8 ∧ (ND j').2.2.2.2.2.1 = nm ∧ (F j' 10).toInt = (E.length : Int) - 1 - (k : Int) ∧ ∀ j, j ∈ I → j < j'
theorem TA_sub {E : List (Int32 × Int32)} {I I' : List Nat} (h : TA ND F m E I) (hs : ∀ j, j ∈ I' → j ∈ I) : TA ND F m E I' := by
  intro k nm sv e
  obtain ⟨j', g1, g2, g3, g4, g5⟩ := h k nm sv e
  exact ⟨j', g1, g2, g3, g4, fun j hj => g5 j (hs j hj)⟩
/-- what is known of the nodes' numbers -/
def CF (ND : Nat → ndT) (F : Nat → Nat → Int32) (m : Nat) : Prop :=
  (∀ j, F j 0 = (ND j).1) ∧ (∀ j, F j 1 = (ND j).2.1) ∧ (∀ j, j < m → ∀ c, (ND j).2.2.1 = some c ∨ (ND j).2.2.2.1 = some c → c < j) ∧
  (∀ j, j < m → HE (fun i => (ND i).2.2.1) (fun i => (ND i).2.2.2.1) F j) ∧ (∀ j, (ND j).2.2.2.2.2.1 = -1 ∨ (ND j).1 = 8 → F j 4 = (ND j).2.2.2.2.1) ∧
  (∀ i' i2, i2 < i' → i' < m → (ND i').1 = 8 → ¬ (ND i2).2.2.2.2.2.1 = -1 → ¬ (ND i2).1 = 8 → (ND i').2.2.2.2.2.1 = (ND i2).2.2.2.2.2.1 → F i2 4 = F i2 10 - F i' 10 + 1) ∧
  ∀ j, j < m → F j 12 = cdN (F j 0) (F j 4) (exN F 12 (ND j).2.2.1) (exN F 12 (ND j).2.2.2.1)
theorem cd_0 {nu a b : Int32} : cdN 0 nu a b = 1 ∧ cdN 1 nu a b = 2 ∧ cdN 2 nu a b = 1 ∧ cdN 3 nu a b = a ||| b ∧ cdN 4 nu a b = a ||| b ∧ cdN 6 nu a b = a ||| b ∧ cdN 10 nu a b = a ||| b := ⟨rfl, rfl, rfl, rfl, rfl, rfl, rfl⟩
theorem cd_5 {nu a b : Int32} : cdN 5 nu a b = (if (a &&& 1) = 0 then a else ((a &&& (-2)) ||| b)) ∧ cdN 7 nu a b = gP a b ∧ cdN 8 nu a b = wTr a ∧ cdN 9 nu a b = ((1 : Int32) <<< (nu &&& (31 : Int32))) := ⟨rfl, rfl, rfl, rfl⟩
/-- the number of an exit -/
theorem ex_nu (hF : CF ND F m) {x : Lean.Name} {E : List (Int32 × Int32)} {i : Nat} (h9 : (lT x).1 = 9) (hw : wfT (.const x) E) (h2 : ND i = ((lT x).1, (lT x).2.1, none, none, (lT x).2.2.1, (lT x).2.2.2.1, (lT x).2.2.2.2.2)) (hi : i < m) (hT : TA ND F m E [i]) (hd : (F i 10).toInt = (E.length : Int)) (hn : (E.map Prod.snd).Nodup) (hl : E.length ≤ 26) : F i 4 = Int32.ofNat (2 + ixE (lT x).2.2.2.2.1 (E.map Prod.snd)) ∧ 2 + ixE (lT x).2.2.2.2.1 (E.map Prod.snd) < 28 := by
  obtain ⟨f0, f1, fc, fH, f4, fx, f12⟩ := hF
  rcases hw h9 with ⟨w1, w2, w3⟩ | ⟨w1, w2⟩
  · have e4 : F i 4 = 2 := by
      rw [f4 i (Or.inl (by rw [h2]; exact w1)), h2]
      exact w2
    cases E with
    | nil => cases w3
    | cons p r =>
      have w3 : p = (-1, (lT x).2.2.2.2.1) := Option.some.inj w3
      have e0 : ixE (lT x).2.2.2.2.1 ((p :: r).map Prod.snd) = 0 := by
        rw [w3]
        show (if (lT x).2.2.2.2.1 = (lT x).2.2.2.2.1 then 0 else _) = 0
        rw [if_pos rfl]
      rw [e0, e4]
      exact ⟨by decide, by omega⟩
  · obtain ⟨k, hk⟩ := List.getElem?_of_mem w2
    obtain ⟨e1, e2, -⟩ := ixE_get E k hn hk
    obtain ⟨j', g1, g2, g3, g4, g5⟩ := hT k _ _ hk
    have n8 : ¬ (ND i).1 = 8 := by
      rw [h2]
      show ¬ (lT x).1 = 8
      rw [h9]; decide
    have e4 := fx j' i (g5 i (List.mem_singleton.mpr rfl)) g1 g2 (by rw [h2]; exact w1) n8 (by rw [g3, h2])
    rw [e2]
    refine ⟨?_, by omega⟩
    refine i_eq.mpr ?_
    have s1 : (F i 10 - F j' 10).toInt = (k : Int) + 1 := by
      rw [i_subS (by omega), hd, g4]
      omega
    rw [e4, i_addS (by rw [s1, il_1]; omega), s1, il_1, Int32.toInt_ofNat_of_lt (by omega)]
    omega
/-- codes and empty loops -/
def cdO (F : Nat → Nat → Int32) (T : tT) (I : List Nat) (i : Nat) (Es : List Int32) : Prop :=
  cB (F i 12) (cod T Es) ∧ ((feP T Es none ∧ ∀ j, j ∈ I → ¬ elN F j) ∨ ∃ j, j ∈ I ∧ elN F j ∧ feP T Es (some (F j 1)) ∧ ∀ j', j' ∈ I → elN F j' → (F j 8).toInt ≤ (F j' 8).toInt)
theorem cB_z (X : Int32) {Y : Nat → Prop} (h : cB X Y) : cB (X ||| 0) Y := by
  rw [Int32.or_zero]
  exact h
theorem cd_T (hE : ∀ j, j < m → F j 7 = 1 + exN F 7 (ND j).2.2.1 + exN F 7 (ND j).2.2.2.1) (hF : CF ND F m) : ∀ (T : tT) (V : Int32 → Prop) (E : List (Int32 × Int32)) (i : Nat) (I : List Nat) (p w : Int), okT θ V T → wfT T E → repC ND T i I → (∀ j, j ∈ I → j < m) → TA ND F m E I → ((tpT T).map Prod.snd ++ E.map Prod.snd).Nodup → E.length + tdp T ≤ 26 → (F i 8).toInt = p → (F i 10).toInt = (E.length : Int) → (F i 11).toInt = w → 0 ≤ p → p + (tsz T : Int) ≤ 200000 → 0 ≤ w → w + (twd T : Int) ≤ 400000 → cdO F T I i (E.map Prod.snd)
  | .const x, V, E, i, I, p, w, hO, hw, hR, hI, hT, hn, hl, ep, ed, ew, p0, p1, w0, w1 => by
    obtain ⟨h1, h2⟩ := hR
    subst h1
    have hi := hI i (List.mem_singleton.mpr rfl)
    obtain ⟨f0, f1, fc, fH, f4, fx, f12⟩ := hF
    have e12 := f12 i hi
    have k0 : F i 0 = (lT x).1 := by rw [f0, h2]
    rw [h2] at e12
    have e12 : F i 12 = cdN (F i 0) (F i 4) 0 0 := e12
    rw [k0] at e12
    have nE : ¬ elN F i := by
      rintro ⟨z, -⟩
      rw [k0] at z
      rcases hO.1 with (y | y | y) | ⟨y, -⟩ <;> (rw [y] at z; exact absurd z (by decide))
    refine ⟨?_, Or.inl ⟨rfl, fun j hj => by rw [List.mem_singleton.mp hj]; exact nE⟩⟩
    rw [e12]
    have oth : ¬ (lT x).1 = 9 → ¬ (lT x).1 = 1 → cB 1 (cod (.const x) (E.map Prod.snd)) := fun n9 n1 => cB_congr cB_1 (fun k => ⟨fun z => Or.inr (Or.inr ⟨n9, n1, z⟩), fun z => by
      rcases z with ⟨z, -⟩ | ⟨z, -⟩ | ⟨-, -, z⟩
      · exact absurd z n9
      · exact absurd z n1
      · exact z⟩)
    rcases hO.1 with (y | y | y) | ⟨y, -⟩
    · rw [y, cd_0.1]
      exact oth (by rw [y]; decide) (by rw [y]; decide)
    · rw [y, cd_0.2.1]
      exact cB_congr cB_2 (fun k => ⟨fun z => Or.inr (Or.inl ⟨y, z⟩), fun z => by
        rcases z with ⟨z, -⟩ | ⟨-, z⟩ | ⟨-, z, -⟩
        · rw [y] at z; exact absurd z (by decide)
        · exact z
        · exact absurd y z⟩)
    · have hn' : (E.map Prod.snd).Nodup := hn
      obtain ⟨n1, n2⟩ := ex_nu ⟨f0, f1, fc, fH, f4, fx, f12⟩ y hw h2 hi hT ed hn' (by omega)
      rw [y, cd_5.2.2.2]
      exact cB_congr (ex_b n2 n1) (fun k => ⟨fun z => Or.inl ⟨y, z⟩, fun z => by
        rcases z with ⟨-, z⟩ | ⟨z, -⟩ | ⟨z, -⟩
        · exact z
        · rw [y] at z; exact absurd z (by decide)
        · exact absurd y z⟩)
    · rw [y, cd_0.2.2.1]
      exact oth (by rw [y]; decide) (by rw [y]; decide)
  | .unary x a, V, E, i, I, p, w, hO, hw, hR, hI, hT, hn, hl, ep, ed, ew, p0, p1, w0, w1 => by
    obtain ⟨i1, I1, h1, h2, h3⟩ := hR
    subst h1
    have hi := hI i List.mem_cons_self
    have hI1 : ∀ j, j ∈ I1 → j < m := fun j hj => hI j (List.mem_cons_of_mem _ hj)
    have hs : (tsz (.unary x a) : Int) = 1 + (tsz a : Int) := by
      show ((1 + tsz a : Nat) : Int) = _
      omega
    have ht : (twd (.unary x a) : Int) = (if (lT x).1 = 6 then 1 else 0) + (twd a : Int) := by
      show (((if (lT x).1 = 6 then 1 else 0) + twd a : Nat) : Int) = _
      by_cases z : (lT x).1 = 6
      · rw [if_pos z, if_pos z]; omega
      · rw [if_neg z, if_neg z]; omega
    have htd : tdp (.unary x a) = (if (lT x).1 = 8 then 1 else 0) + tdp a := rfl
    have hF0 := hF
    obtain ⟨f0, f1, fc, fH, f4, fx, f12⟩ := hF
    have H := (fH i hi).1 i1 (by show (ND i).2.2.1 = some i1; rw [h2])
    have k0 : F i 0 = (lT x).1 := by rw [f0, h2]
    have l1 : F i 1 = (lT x).2.1 := by rw [f1, h2]
    rw [k0] at H
    obtain ⟨e8, e9, e10, e11⟩ := H
    have e12 := f12 i hi
    rw [h2] at e12
    have e12 : F i 12 = cdN (F i 0) (F i 4) (F i1 12) 0 := e12
    rw [k0] at e12
    have b6 : (0 : Int) ≤ (if (lT x).1 = 6 then 1 else 0) ∧ (if (lT x).1 = 6 then (1 : Int) else 0) ≤ 1 := by
      by_cases z : (lT x).1 = 6
      · rw [if_pos z]; omega
      · rw [if_neg z]; omega
    have q8 : (F i1 8).toInt = p + 1 := by rw [e8, i_addS (by rw [ep, il_1]; omega), ep, il_1]
    have q10 : (F i1 10).toInt = (E.length : Int) + (if (lT x).1 = 8 then 1 else 0) := by rw [e10, i_ad1 (by omega), ed]
    have q11 : (F i1 11).toInt = w + (if (lT x).1 = 6 then 1 else 0) := by rw [e11, i_ad1 (by omega), ew]
    have P := pl_T hE fH f0 a _ i1 I1 (p + 1) _ _ hO.2 h3 hI1 q8 q10 q11 (by omega) (by omega) (by by_cases z : (lT x).1 = 8; rw [if_pos z]; omega; rw [if_neg z]; omega) (by by_cases z : (lT x).1 = 8; rw [if_pos z]; omega; rw [if_neg z]; omega) (by omega) (by omega)
    by_cases k8 : (lT x).1 = 8
    · rw [if_pos k8] at q10 htd
      have hw' : wfT a (((lT x).2.2.2.1, (lT x).2.2.2.2.1) :: E) := by
        have hw : (if (lT x).1 = 8 then wfT a (((lT x).2.2.2.1, (lT x).2.2.2.2.1) :: E) else wfT a E) := hw
        rw [if_pos k8] at hw
        exact hw
      have hn' : ((tpT a).map Prod.snd ++ (((lT x).2.2.2.1, (lT x).2.2.2.2.1) :: E).map Prod.snd).Nodup := by
        have hn : ((if (lT x).1 = 8 then ((lT x).2.2.2.1, (lT x).2.2.2.2.1) :: tpT a else tpT a).map Prod.snd ++ E.map Prod.snd).Nodup := hn
        rw [if_pos k8] at hn
        have hn : ((lT x).2.2.2.2.1 :: ((tpT a).map Prod.snd ++ E.map Prod.snd)).Nodup := hn
        show ((tpT a).map Prod.snd ++ (lT x).2.2.2.2.1 :: E.map Prod.snd).Nodup
        exact (List.perm_middle.nodup_iff).mpr hn
      have hT' : TA ND F m (((lT x).2.2.2.1, (lT x).2.2.2.2.1) :: E) I1 := by
        intro k nm sv e
        cases k with
        | zero =>
          have e : ((lT x).2.2.2.1, (lT x).2.2.2.2.1) = (nm, sv) := Option.some.inj e
          have e1 : (lT x).2.2.2.1 = nm := congrArg Prod.fst e
          refine ⟨i, hi, by rw [h2]; exact k8, by rw [h2]; exact e1, ?_, fun j hj => ?_⟩
          · rw [ed, List.length_cons]
            omega
          · have c1 := fc i hi i1 (Or.inl (by rw [h2]))
            have := rp_le fc a i1 I1 h3 hI1 j hj
            omega
        | succ k =>
          have e : E[k]? = some (nm, sv) := e
          obtain ⟨j', g1, g2, g3, g4, g5⟩ := hT k nm sv e
          refine ⟨j', g1, g2, g3, ?_, fun j hj => g5 j (List.mem_cons_of_mem _ hj)⟩
          rw [g4, List.length_cons]
          omega
      obtain ⟨c1, c2⟩ := cd_T hE hF0 a _ _ i1 I1 (p + 1) _ hO.2 hw' h3 hI1 hT' hn' (by rw [List.length_cons]; omega) q8 (by rw [q10, List.length_cons]; omega) q11 (by omega) (by omega) (by omega) (by omega)
      have n6 : ¬ (lT x).1 = 6 := by rw [k8]; decide
      have nE : ¬ elN F i := by
        rintro ⟨z, -⟩
        rw [k0] at z
        exact n6 z
      refine ⟨?_, ?_⟩
      · rw [e12, k8, cd_5.2.2.1]
        exact cB_congr (wTr_b c1) (fun k => ⟨fun z => Or.inl ⟨k8, z⟩, fun z => by
          rcases z with ⟨-, z⟩ | ⟨z, -⟩
          · exact z
          · exact absurd k8 z⟩)
      · rcases c2 with ⟨y1, y2⟩ | ⟨j, y1, y2, y3, y4⟩
        · refine Or.inl ⟨Or.inl ⟨k8, y1⟩, fun j hj => ?_⟩
          rcases List.mem_cons.mp hj with z | z
          · rw [z]; exact nE
          · exact y2 j z
        · refine Or.inr ⟨j, List.mem_cons_of_mem _ y1, y2, Or.inl ⟨k8, y3⟩, fun j' hj' he => ?_⟩
          rcases List.mem_cons.mp hj' with z | z
          · rw [z] at he; exact absurd he nE
          · exact y4 j' z he
    · rw [if_neg k8] at q10 htd
      have hw' : wfT a E := by
        have hw : (if (lT x).1 = 8 then wfT a (((lT x).2.2.2.1, (lT x).2.2.2.2.1) :: E) else wfT a E) := hw
        rw [if_neg k8] at hw
        exact hw
      have hn' : ((tpT a).map Prod.snd ++ E.map Prod.snd).Nodup := by
        have hn : ((if (lT x).1 = 8 then ((lT x).2.2.2.1, (lT x).2.2.2.2.1) :: tpT a else tpT a).map Prod.snd ++ E.map Prod.snd).Nodup := hn
        rw [if_neg k8] at hn
        exact hn
      obtain ⟨c1, c2⟩ := cd_T hE hF0 a _ E i1 I1 (p + 1) _ hO.2 hw' h3 hI1 (TA_sub hT (fun j hj => List.mem_cons_of_mem _ hj)) hn' (by omega) q8 (by rw [q10]; omega) q11 (by omega) (by omega) (by omega) (by omega)
      have e12' : F i 12 = F i1 12 ||| 0 := by
        rw [e12]
        rcases hO.1.1 with ⟨y, -⟩ | ⟨y | y | y, -⟩
        · rw [y, cd_0.2.2.2.2.1]
        · rw [y, cd_0.2.2.2.2.2.1]
        · exact absurd y k8
        · rw [y, cd_0.2.2.2.2.2.2]
      have cbi : cB (F i 12) (cod (.unary x a) (E.map Prod.snd)) := by
        rw [e12']
        exact cB_congr (cB_z _ c1) (fun k => ⟨fun z => Or.inr ⟨k8, z⟩, fun z => by
          rcases z with ⟨z, -⟩ | ⟨-, z⟩
          · exact absurd z k8
          · exact z⟩)
      refine ⟨cbi, ?_⟩
      by_cases k6 : (lT x).1 = 6
      · have c0 : ((F i 12 &&& 1) = 0) ↔ ¬ cod a (E.map Prod.snd) 0 := by
          rw [bit0, e12', Int32.or_zero]
          constructor
          · intro z y
            have := (c1.1 0).mpr y
            have : gb (F i1 12) 0 = true := this
            rw [z] at this; cases this
          · intro z
            cases y : gb (F i1 12) 0
            · rfl
            · exact absurd ((c1.1 0).mp y) z
        by_cases cc : cod a (E.map Prod.snd) 0
        · have he : elN F i := ⟨by rw [k0]; exact k6, fun z => c0.mp z cc⟩
          refine Or.inr ⟨i, List.mem_cons_self, he, Or.inr (Or.inl ⟨k6, cc, by rw [l1]⟩), fun j' hj' _ => ?_⟩
          rcases List.mem_cons.mp hj' with z | z
          · rw [z]; exact Int.le_refl _
          · have := P.1 j' z
            omega
        · have nE : ¬ elN F i := fun z => z.2 (c0.mpr cc)
          rcases c2 with ⟨y1, y2⟩ | ⟨j, y1, y2, y3, y4⟩
          · refine Or.inl ⟨Or.inr (Or.inr (Or.inl ⟨k6, cc, y1⟩)), fun j hj => ?_⟩
            rcases List.mem_cons.mp hj with z | z
            · rw [z]; exact nE
            · exact y2 j z
          · refine Or.inr ⟨j, List.mem_cons_of_mem _ y1, y2, Or.inr (Or.inr (Or.inl ⟨k6, cc, y3⟩)), fun j' hj' he => ?_⟩
            rcases List.mem_cons.mp hj' with z | z
            · rw [z] at he; exact absurd he nE
            · exact y4 j' z he
      · have nE : ¬ elN F i := by
          rintro ⟨z, -⟩
          rw [k0] at z
          exact k6 z
        rcases c2 with ⟨y1, y2⟩ | ⟨j, y1, y2, y3, y4⟩
        · refine Or.inl ⟨Or.inr (Or.inr (Or.inr ⟨k8, k6, y1⟩)), fun j hj => ?_⟩
          rcases List.mem_cons.mp hj with z | z
          · rw [z]; exact nE
          · exact y2 j z
        · refine Or.inr ⟨j, List.mem_cons_of_mem _ y1, y2, Or.inr (Or.inr (Or.inr ⟨k8, k6, y3⟩)), fun j' hj' he => ?_⟩
          rcases List.mem_cons.mp hj' with z | z
          · rw [z] at he; exact absurd he nE
          · exact y4 j' z he
  | .binary x a b, V, E, i, I, p, w, hO, hw, hR, hI, hT, hn, hl, ep, ed, ew, p0, p1, w0, w1 => by
    obtain ⟨i1, I1, i2, I2, h1, h2, h3, h4⟩ := hR
    subst h1
    have hi := hI i List.mem_cons_self
    have hI1 : ∀ j, j ∈ I1 → j < m := fun j hj => hI j (List.mem_cons_of_mem _ (List.mem_append_left _ hj))
    have hI2 : ∀ j, j ∈ I2 → j < m := fun j hj => hI j (List.mem_cons_of_mem _ (List.mem_append_right _ hj))
    have hs : (tsz (.binary x a b) : Int) = 1 + (tsz a : Int) + (tsz b : Int) := by
      show ((1 + tsz a + tsz b : Nat) : Int) = _
      omega
    have ht : (twd (.binary x a b) : Int) = max (twd a : Int) ((if (lT x).1 = 5 then 1 else 0) + (twd b : Int)) := by
      show ((max (twd a) ((if (lT x).1 = 5 then 1 else 0) + twd b) : Nat) : Int) = _
      by_cases z : (lT x).1 = 5
      · rw [if_pos z, if_pos z]; omega
      · rw [if_neg z, if_neg z]; omega
    have htd : tdp (.binary x a b) = max (tdp a) (tdp b) := rfl
    have hF0 := hF
    obtain ⟨f0, f1, fc, fH, f4, fx, f12⟩ := hF
    have H := (fH i hi).1 i1 (by show (ND i).2.2.1 = some i1; rw [h2])
    have H2 := (fH i hi).2 i2 (by show (ND i).2.2.2.1 = some i2; rw [h2])
    have k0 : F i 0 = (lT x).1 := by rw [f0, h2]
    have kx : exN F 7 (ND i).2.2.1 = F i1 7 := by rw [h2]; rfl
    have x7 := ext_T hE a i1 I1 h3 hI1 (by omega)
    rw [k0] at H H2
    obtain ⟨e8, e9, e10, e11⟩ := H
    obtain ⟨g8, g9, g10, g11⟩ := H2
    have g8 : F i2 8 = F i 8 + 1 + exN F 7 (ND i).2.2.1 := g8
    rw [kx] at g8
    have e12 := f12 i hi
    rw [h2] at e12
    have e12 : F i 12 = cdN (F i 0) (F i 4) (F i1 12) (F i2 12) := e12
    rw [k0] at e12
    have n6 : ¬ (lT x).1 = 6 := by
      rcases hO.1.1 with ⟨z, -⟩ | ⟨z | z, -⟩ <;> (rw [z]; decide)
    have n8 : ¬ (lT x).1 = 8 := by
      rcases hO.1.1 with ⟨z, -⟩ | ⟨z | z, -⟩ <;> (rw [z]; decide)
    rw [if_neg n6] at e11
    rw [if_neg n8] at e10 g10
    have b5 : (0 : Int) ≤ (if (lT x).1 = 5 then 1 else 0) ∧ (if (lT x).1 = 5 then (1 : Int) else 0) ≤ 1 := by
      by_cases z : (lT x).1 = 5
      · rw [if_pos z]; omega
      · rw [if_neg z]; omega
    have q8 : (F i1 8).toInt = p + 1 := by rw [e8, i_addS (by rw [ep, il_1]; omega), ep, il_1]
    have q10 : (F i1 10).toInt = (E.length : Int) := by rw [e10, Int32.add_zero, ed]
    have q11 : (F i1 11).toInt = w := by rw [e11, Int32.add_zero, ew]
    have s8 : (F i 8 + 1).toInt = p + 1 := by rw [i_addS (by rw [ep, il_1]; omega), ep, il_1]
    have r8 : (F i2 8).toInt = p + 1 + (tsz a : Int) := by rw [g8, i_addS (by rw [s8, x7]; omega), s8, x7]
    have r10 : (F i2 10).toInt = (E.length : Int) := by rw [g10, Int32.add_zero, ed]
    have r11 : (F i2 11).toInt = w + (if (lT x).1 = 5 then 1 else 0) := by rw [g11, i_ad1 (by omega), ew]
    have hn : ((tpT a ++ tpT b).map Prod.snd ++ E.map Prod.snd).Nodup := hn
    rw [List.map_append, List.append_assoc] at hn
    have hn1 : ((tpT a).map Prod.snd ++ E.map Prod.snd).Nodup := hn.sublist (List.Sublist.append_left (List.sublist_append_right _ _) _)
    have hn2 : ((tpT b).map Prod.snd ++ E.map Prod.snd).Nodup := hn.sublist (List.sublist_append_right _ _)
    have T1 : TA ND F m E I1 := TA_sub hT (fun j hj => List.mem_cons_of_mem _ (List.mem_append_left _ hj))
    have T2 : TA ND F m E I2 := TA_sub hT (fun j hj => List.mem_cons_of_mem _ (List.mem_append_right _ hj))
    obtain ⟨c1, c2⟩ := cd_T hE hF0 a _ E i1 I1 (p + 1) _ hO.2.1 hw.1 h3 hI1 T1 hn1 (by omega) q8 q10 q11 (by omega) (by omega) (by omega) (by omega)
    obtain ⟨d1, d2⟩ := cd_T hE hF0 b _ E i2 I2 (p + 1 + (tsz a : Int)) _ hO.2.2 hw.2 h4 hI2 T2 hn2 (by omega) r8 r10 r11 (by omega) (by omega) (by omega) (by omega)
    have P1 := pl_T hE fH f0 a _ i1 I1 (p + 1) _ _ hO.2.1 h3 hI1 q8 q10 q11 (by omega) (by omega) (by omega) (by omega) (by omega) (by omega)
    have P2 := pl_T hE fH f0 b _ i2 I2 (p + 1 + (tsz a : Int)) _ _ hO.2.2 h4 hI2 r8 r10 r11 (by omega) (by omega) (by omega) (by omega) (by omega) (by omega)
    have nE : ¬ elN F i := by
      rintro ⟨z, -⟩
      rw [k0] at z
      exact n6 z
    refine ⟨?_, ?_⟩
    · rw [e12]
      rcases hO.1.1 with ⟨y, -⟩ | ⟨y | y, -⟩
      · rw [y, cd_0.2.2.2.1]
        exact cB_congr (cB_or c1 d1) (fun k => ⟨fun z => Or.inr (Or.inr ⟨by rw [y]; decide, by rw [y]; decide, z⟩), fun z => by
          rcases z with ⟨z, -⟩ | ⟨z, -⟩ | ⟨-, -, z⟩
          · rw [y] at z; exact absurd z (by decide)
          · rw [y] at z; exact absurd z (by decide)
          · exact z⟩)
      · rw [y, cd_5.1]
        exact cB_congr (thN_b c1 d1) (fun k => ⟨fun z => Or.inl ⟨y, z⟩, fun z => by
          rcases z with ⟨-, z⟩ | ⟨z, -⟩ | ⟨z, -, -⟩
          · exact z
          · rw [y] at z; exact absurd z (by decide)
          · exact absurd y z⟩)
      · rw [y, cd_5.2.1]
        exact cB_congr (gP_b c1 d1) (fun k => ⟨fun z => Or.inr (Or.inl ⟨y, z⟩), fun z => by
          rcases z with ⟨z, -⟩ | ⟨-, z⟩ | ⟨-, z, -⟩
          · rw [y] at z; exact absurd z (by decide)
          · exact z
          · exact absurd y z⟩)
    · rcases c2 with ⟨y1, y2⟩ | ⟨j, y1, y2, y3, y4⟩
      · rcases d2 with ⟨z1, z2⟩ | ⟨j, z1, z2, z3, z4⟩
        · refine Or.inl ⟨Or.inr ⟨y1, z1⟩, fun j hj => ?_⟩
          rcases List.mem_cons.mp hj with z | z
          · rw [z]; exact nE
          · rcases List.mem_append.mp z with z | z
            · exact y2 j z
            · exact z2 j z
        · refine Or.inr ⟨j, List.mem_cons_of_mem _ (List.mem_append_right _ z1), z2, Or.inr ⟨y1, z3⟩, fun j' hj' he => ?_⟩
          rcases List.mem_cons.mp hj' with z | z
          · rw [z] at he; exact absurd he nE
          · rcases List.mem_append.mp z with z | z
            · exact absurd he (y2 j' z)
            · exact z4 j' z he
      · refine Or.inr ⟨j, List.mem_cons_of_mem _ (List.mem_append_left _ y1), y2, Or.inl ⟨_, y3, rfl⟩, fun j' hj' he => ?_⟩
        rcases List.mem_cons.mp hj' with z | z
        · rw [z] at he; exact absurd he nE
        · rcases List.mem_append.mp z with z | z
          · exact y4 j' z he
          · have u1 := P1.1 j y1
            have u2 := P2.1 j' z
            omega
end CDT
