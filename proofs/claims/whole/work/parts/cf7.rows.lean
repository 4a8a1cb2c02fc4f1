/-! the class's program: its rows told of the tree, whole -/
def rrow (R : Nat → Nat → Int32) (T : tT) (x : lbT) (k : Nat) (f s up : Int32) (w : Int) (Es : List Int32) : Prop :=
  R 0 k = x.1 ∧ R 1 k = f ∧ R 2 k = s ∧ R 3 k = up ∧ (R 4 k = if x.1 = 9 then Int32.ofNat (2 + ixE x.2.2.2.2.1 Es) else x.2.2.1) ∧ cB (R 5 k) (cod T Es) ∧ R 6 k = x.2.1 ∧ (R 7 k).toInt = w ∧ R 10 k = x.2.2.2.2.2
def RPr (R : Nat → Nat → Int32) : tT → Nat → Int32 → Int → List Int32 → Prop
  | .const x, k, up, w, Es => rrow R (.const x) (lT x) k (-1) (-1) up w Es
  | .unary x A, k, up, w, Es => rrow R (.unary x A) (lT x) k (Int32.ofNat (k + 1)) (-1) up w Es ∧ RPr R A (k + 1) (Int32.ofNat k) (w + if (lT x).1 = 6 then 1 else 0) (if (lT x).1 = 8 then (lT x).2.2.2.2.1 :: Es else Es)
  | .binary x A B, k, up, w, Es => rrow R (.binary x A B) (lT x) k (Int32.ofNat (k + 1)) (Int32.ofNat (k + 1 + tsz A)) up w Es ∧ RPr R A (k + 1) (Int32.ofNat k) w Es ∧ RPr R B (k + 1 + tsz A) (Int32.ofNat k) (w + if (lT x).1 = 5 then 1 else 0) Es
  | _, _, _, _, _ => False
theorem ofN_m {x : Int32} {k : Nat} (h : x.toInt = (k : Int)) (hk : k ≤ 1000000) : x = Int32.ofNat k := by
  refine i_eq.mpr ?_
  rw [h, Int32.toInt_ofNat_of_lt (by omega)]
section RWT
variable {ND : Nat → ndT} {F : Nat → Nat → Int32} {m : Nat} {θ : (Int32 → Prop) → Int32 → Prop} {R : Nat → Nat → Int32}
theorem rw_T (hE : ∀ j, j < m → F j 7 = 1 + exN F 7 (ND j).2.2.1 + exN F 7 (ND j).2.2.2.1) (hF : CF ND F m) (h6 : ∀ j, F j 6 = (ND j).2.2.2.2.2.2) (hr : ∀ j, j < m → rowC (fun i => (ND i).2.2.1) (fun i => (ND i).2.2.2.1) F R j) : ∀ (T : tT) (V : Int32 → Prop) (E : List (Int32 × Int32)) (i : Nat) (I : List Nat) (k : Nat) (up : Int32) (w : Int), okT θ V T → wfT T E → repC ND T i I → (∀ j, j ∈ I → j < m) → TA ND F m E I → ((tpT T).map Prod.snd ++ E.map Prod.snd).Nodup → E.length + tdp T ≤ 26 → (F i 8).toInt = (k : Int) → F i 9 = up → (F i 10).toInt = (E.length : Int) → (F i 11).toInt = w → (k : Int) + (tsz T : Int) ≤ 200000 → 0 ≤ w → w + (twd T : Int) ≤ 400000 → RPr R T k up w (E.map Prod.snd)
  | .const x => by
    intro V  E  i  I  k  up  w  hO  hw  hR  hI  hT  hn  hl  ep  e9  ed  ew  p1  w0  w1
    have root := (cd_T hE hF (.const x) V E i I k w hO hw hR hI hT hn hl ep ed ew (by omega) p1 w0 w1).1
    obtain ⟨h1, h2⟩ := hR
    subst h1
    have hi := hI i (List.mem_singleton.mpr rfl)
    have hF0 := hF
    obtain ⟨f0, f1, fc, fH, f4, fx, f12⟩ := hF
    obtain ⟨g0, g1, g2, g3, g4, g5, g6, g7, g10⟩ := hr i hi
    rw [show (F i 8).toInt.toNat = k by omega] at g0 g1 g2 g3 g4 g5 g6 g7 g10
    refine ⟨by rw [g0, f0, h2], ?_, ?_, by rw [g3]; exact e9, ?_, by rw [g5]; exact root, by rw [g6, f1, h2], by rw [g7]; exact ew, by rw [g10, h6, h2]⟩
    · rw [g1]
      show plN F (ND i).2.2.1 = _
      rw [h2]; rfl
    · rw [g2]
      show plN F (ND i).2.2.2.1 = _
      rw [h2]; rfl
    · rw [g4]
      by_cases y : (lT x).1 = 9
      · rw [if_pos y]
        have hn' : (E.map Prod.snd).Nodup := hn
        exact (ex_nu hF0 y hw h2 hi hT ed hn' (by omega)).1
      · rw [if_neg y, f4 i ?_, h2]
        refine Or.inl ?_
        rw [h2]
        by_cases z : (lT x).2.2.2.1 = -1
        · exact z
        · exact absurd (hO.2.2 z) y
  | .unary x a => by
    intro V  E  i  I  k  up  w  hO  hw  hR  hI  hT  hn  hl  ep  e9'  ed  ew  p1  w0  w1
    have root := (cd_T hE hF (.unary x a) V E i I k w hO hw hR hI hT hn hl ep ed ew (by omega) p1 w0 w1).1
    obtain ⟨i1, I1, h1, h2, h3⟩ := hR
    subst h1
    have hi := hI i List.mem_cons_self
    have hI1 : ∀ j, j ∈ I1 → j < m := fun j hj => hI j (List.mem_cons_of_mem _ hj)
    have hs : (tsz (.unary x a) : Int) = 1 + (tsz a : Int) := by
      show ((1 + tsz a : Nat) : Int) = _
      omega
    have ht : (twd (.unary x a) : Int) = (if (lT x).1 = 6 then 1 else 0) + (twd a : Int) := by
      show (((if (lT x).1 = 6 then 1 else 0) + twd a : Nat) : Int) = _
      by_cases z : (lT x).1 = 6
      · rw [if_pos z, if_pos z]; omega
      · rw [if_neg z, if_neg z]; omega
    have htd : tdp (.unary x a) = (if (lT x).1 = 8 then 1 else 0) + tdp a := rfl
    have hF0 := hF
    obtain ⟨f0, f1, fc, fH, f4, fx, f12⟩ := hF
    have H := (fH i hi).1 i1 (by show (ND i).2.2.1 = some i1; rw [h2])
    have k0 : F i 0 = (lT x).1 := by rw [f0, h2]
    rw [k0] at H
    obtain ⟨e8, e9, e10, e11⟩ := H
    have b6 : (0 : Int) ≤ (if (lT x).1 = 6 then 1 else 0) ∧ (if (lT x).1 = 6 then (1 : Int) else 0) ≤ 1 := by
      by_cases z : (lT x).1 = 6
      · rw [if_pos z]; omega
      · rw [if_neg z]; omega
    have q8 : (F i1 8).toInt = ((k + 1 : Nat) : Int) := by rw [e8, i_addS (by rw [ep, il_1]; omega), ep, il_1]; omega
    have q10 : (F i1 10).toInt = (E.length : Int) + (if (lT x).1 = 8 then 1 else 0) := by rw [e10, i_ad1 (by omega), ed]
    have q11 : (F i1 11).toInt = w + (if (lT x).1 = 6 then 1 else 0) := by rw [e11, i_ad1 (by omega), ew]
    have eF : F i 8 = Int32.ofNat k := ofN_m ep (by omega)
    have eF1 : F i1 8 = Int32.ofNat (k + 1) := ofN_m q8 (by omega)
    obtain ⟨g0, g1, g2, g3, g4, g5, g6, g7, g10⟩ := hr i hi
    rw [show (F i 8).toInt.toNat = k by omega] at g0 g1 g2 g3 g4 g5 g6 g7 g10
    have n9 : ¬ (lT x).1 = 9 := by rcases hO.1.1 with ⟨y, -⟩ | ⟨y | y | y, -⟩ <;> (rw [y]; decide)
    refine ⟨⟨by rw [g0, f0, h2], ?_, ?_, by rw [g3]; exact e9', ?_, by rw [g5]; exact root, by rw [g6, f1, h2], by rw [g7]; exact ew, by rw [g10, h6, h2]⟩, ?_⟩
    · rw [g1]
      show plN F (ND i).2.2.1 = _
      rw [h2]
      exact eF1
    · rw [g2]
      show plN F (ND i).2.2.2.1 = _
      rw [h2]; rfl
    · rw [g4, if_neg n9, f4 i ?_, h2]
      rw [h2]
      by_cases z : (lT x).2.2.2.1 = -1
      · exact Or.inl z
      · exact Or.inr (hO.1.2.1 z)
    by_cases k8 : (lT x).1 = 8
    · rw [if_pos k8] at q10 htd ⊢
      have hw' : wfT a (((lT x).2.2.2.1, (lT x).2.2.2.2.1) :: E) := by
        have hw : (if (lT x).1 = 8 then wfT a (((lT x).2.2.2.1, (lT x).2.2.2.2.1) :: E) else wfT a E) := hw
        rw [if_pos k8] at hw
        exact hw
      have hn' : ((tpT a).map Prod.snd ++ (((lT x).2.2.2.1, (lT x).2.2.2.2.1) :: E).map Prod.snd).Nodup := by
        have hn : ((if (lT x).1 = 8 then ((lT x).2.2.2.1, (lT x).2.2.2.2.1) :: tpT a else tpT a).map Prod.snd ++ E.map Prod.snd).Nodup := hn
        rw [if_pos k8] at hn
        have hn : ((lT x).2.2.2.2.1 :: ((tpT a).map Prod.snd ++ E.map Prod.snd)).Nodup := hn
        show ((tpT a).map Prod.snd ++ (lT x).2.2.2.2.1 :: E.map Prod.snd).Nodup
        exact (List.perm_middle.nodup_iff).mpr hn
      have hT' : TA ND F m (((lT x).2.2.2.1, (lT x).2.2.2.2.1) :: E) I1 := by
        intro k nm sv e
        cases k with
        | zero =>
          have e : ((lT x).2.2.2.1, (lT x).2.2.2.2.1) = (nm, sv) := Option.some.inj e
          have e1 : (lT x).2.2.2.1 = nm := congrArg Prod.fst e
          refine ⟨i, hi, by rw [h2]; exact k8, by rw [h2]; exact e1, ?_, fun j hj => ?_⟩
          · rw [ed, List.length_cons]
            omega
          · have c1 := fc i hi i1 (Or.inl (by rw [h2]))
            have := rp_le fc a i1 I1 h3 hI1 j hj
            omega
        | succ k =>
          have e : E[k]? = some (nm, sv) := e
          obtain ⟨j', g1, g2, g3, g4, g5⟩ := hT k nm sv e
          refine ⟨j', g1, g2, g3, ?_, fun j hj => g5 j (List.mem_cons_of_mem _ hj)⟩
          rw [g4, List.length_cons]
          omega
      exact rw_T hE hF0 h6 hr a _ _ i1 I1 (k + 1) _ _ hO.2 hw' h3 hI1 hT' hn' (by rw [List.length_cons]; omega) q8 (by rw [e9]; exact eF) (by rw [q10, List.length_cons]; omega) q11 (by omega) (by omega) (by omega)
    · rw [if_neg k8] at q10 htd ⊢
      have hw' : wfT a E := by
        have hw : (if (lT x).1 = 8 then wfT a (((lT x).2.2.2.1, (lT x).2.2.2.2.1) :: E) else wfT a E) := hw
        rw [if_neg k8] at hw
        exact hw
      have hn' : ((tpT a).map Prod.snd ++ E.map Prod.snd).Nodup := by
        have hn : ((if (lT x).1 = 8 then ((lT x).2.2.2.1, (lT x).2.2.2.2.1) :: tpT a else tpT a).map Prod.snd ++ E.map Prod.snd).Nodup := hn
        rw [if_neg k8] at hn
        exact hn
      exact rw_T hE hF0 h6 hr a _ E i1 I1 (k + 1) _ _ hO.2 hw' h3 hI1 (TA_sub hT (fun j hj => List.mem_cons_of_mem _ hj)) hn' (by omega) q8 (by rw [e9]; exact eF) (by rw [q10]; omega) q11 (by omega) (by omega) (by omega)
  | .binary x a b => by
    intro V  E  i  I  k  up  w  hO  hw  hR  hI  hT  hn  hl  ep  e9'  ed  ew  p1  w0  w1
    have root := (cd_T hE hF (.binary x a b) V E i I k w hO hw hR hI hT hn hl ep ed ew (by omega) p1 w0 w1).1
    obtain ⟨i1, I1, i2, I2, h1, h2, h3, h4⟩ := hR
    subst h1
    have hi := hI i List.mem_cons_self
    have hI1 : ∀ j, j ∈ I1 → j < m := fun j hj => hI j (List.mem_cons_of_mem _ (List.mem_append_left _ hj))
    have hI2 : ∀ j, j ∈ I2 → j < m := fun j hj => hI j (List.mem_cons_of_mem _ (List.mem_append_right _ hj))
    have hs : (tsz (.binary x a b) : Int) = 1 + (tsz a : Int) + (tsz b : Int) := by
      show ((1 + tsz a + tsz b : Nat) : Int) = _
      omega
    have ht : (twd (.binary x a b) : Int) = max (twd a : Int) ((if (lT x).1 = 5 then 1 else 0) + (twd b : Int)) := by
      show ((max (twd a) ((if (lT x).1 = 5 then 1 else 0) + twd b) : Nat) : Int) = _
      by_cases z : (lT x).1 = 5
      · rw [if_pos z, if_pos z]; omega
      · rw [if_neg z, if_neg z]; omega
    have htd : tdp (.binary x a b) = max (tdp a) (tdp b) := rfl
    have hF0 := hF
    obtain ⟨f0, f1, fc, fH, f4, fx, f12⟩ := hF
    have H := (fH i hi).1 i1 (by show (ND i).2.2.1 = some i1; rw [h2])
    have H2 := (fH i hi).2 i2 (by show (ND i).2.2.2.1 = some i2; rw [h2])
    have k0 : F i 0 = (lT x).1 := by rw [f0, h2]
    have kx : exN F 7 (ND i).2.2.1 = F i1 7 := by rw [h2]; rfl
    have x7 := ext_T hE a i1 I1 h3 hI1 (by omega)
    rw [k0] at H H2
    obtain ⟨e8, e9, e10, e11⟩ := H
    obtain ⟨g8, g9, g10, g11⟩ := H2
    have g8 : F i2 8 = F i 8 + 1 + exN F 7 (ND i).2.2.1 := g8
    rw [kx] at g8
    have n6 : ¬ (lT x).1 = 6 := by
      rcases hO.1.1 with ⟨z, -⟩ | ⟨z | z, -⟩ <;> (rw [z]; decide)
    have n8 : ¬ (lT x).1 = 8 := by
      rcases hO.1.1 with ⟨z, -⟩ | ⟨z | z, -⟩ <;> (rw [z]; decide)
    have n9 : ¬ (lT x).1 = 9 := by
      rcases hO.1.1 with ⟨z, -⟩ | ⟨z | z, -⟩ <;> (rw [z]; decide)
    rw [if_neg n6] at e11
    rw [if_neg n8] at e10 g10
    have b5 : (0 : Int) ≤ (if (lT x).1 = 5 then 1 else 0) ∧ (if (lT x).1 = 5 then (1 : Int) else 0) ≤ 1 := by
      by_cases z : (lT x).1 = 5
      · rw [if_pos z]; omega
      · rw [if_neg z]; omega
    have q8 : (F i1 8).toInt = ((k + 1 : Nat) : Int) := by rw [e8, i_addS (by rw [ep, il_1]; omega), ep, il_1]; omega
    have q10 : (F i1 10).toInt = (E.length : Int) := by rw [e10, Int32.add_zero, ed]
    have q11 : (F i1 11).toInt = w := by rw [e11, Int32.add_zero, ew]
    have s8 : (F i 8 + 1).toInt = (k : Int) + 1 := by rw [i_addS (by rw [ep, il_1]; omega), ep, il_1]
    have r8 : (F i2 8).toInt = ((k + 1 + tsz a : Nat) : Int) := by rw [g8, i_addS (by rw [s8, x7]; omega), s8, x7]; omega
    have r10 : (F i2 10).toInt = (E.length : Int) := by rw [g10, Int32.add_zero, ed]
    have r11 : (F i2 11).toInt = w + (if (lT x).1 = 5 then 1 else 0) := by rw [g11, i_ad1 (by omega), ew]
    clear s8
    have hn : ((tpT a ++ tpT b).map Prod.snd ++ E.map Prod.snd).Nodup := hn
    rw [List.map_append, List.append_assoc] at hn
    have hn1 : ((tpT a).map Prod.snd ++ E.map Prod.snd).Nodup := hn.sublist (List.Sublist.append_left (List.sublist_append_right _ _) _)
    have hn2 : ((tpT b).map Prod.snd ++ E.map Prod.snd).Nodup := hn.sublist (List.sublist_append_right _ _)
    have T1 : TA ND F m E I1 := TA_sub hT (fun j hj => List.mem_cons_of_mem _ (List.mem_append_left _ hj))
    have T2 : TA ND F m E I2 := TA_sub hT (fun j hj => List.mem_cons_of_mem _ (List.mem_append_right _ hj))
    have eF : F i 8 = Int32.ofNat k := ofN_m ep (by omega)
    have eF1 : F i1 8 = Int32.ofNat (k + 1) := ofN_m q8 (by omega)
    have eF2 : F i2 8 = Int32.ofNat (k + 1 + tsz a) := ofN_m r8 (by omega)
    obtain ⟨y0, y1, y2, y3, y4, y5, y6, y7, y10⟩ := hr i hi
    rw [show (F i 8).toInt.toNat = k by omega] at y0 y1 y2 y3 y4 y5 y6 y7 y10
    refine ⟨⟨by rw [y0, f0, h2], ?_, ?_, by rw [y3]; exact e9', ?_, by rw [y5]; exact root, by rw [y6, f1, h2], by rw [y7]; exact ew, by rw [y10, h6, h2]⟩, ?_, ?_⟩
    · rw [y1]
      show plN F (ND i).2.2.1 = _
      rw [h2]
      exact eF1
    · rw [y2]
      show plN F (ND i).2.2.2.1 = _
      rw [h2]
      exact eF2
    · rw [y4, if_neg n9, f4 i ?_, h2]
      rw [h2]
      exact Or.inl hO.1.2
    · exact rw_T hE hF0 h6 hr a _ E i1 I1 (k + 1) _ _ hO.2.1 hw.1 h3 hI1 T1 hn1 (by omega) q8 (by rw [e9]; exact eF) q10 q11 (by omega) (by omega) (by omega)
    · exact rw_T hE hF0 h6 hr b _ E i2 I2 (k + 1 + tsz a) _ _ hO.2.2 hw.2 h4 hI2 T2 hn2 (by omega) r8 (by rw [g9]; exact eF) r10 r11 (by omega) (by omega) (by omega)
  | .nodeWithAntiquot .. => fun V E i I k up w hO => hO.elim
  | .node .. => fun V E i I k up w hO => hO.elim
  | .trailingNode .. => fun V E i I k up w hO => hO.elim
  | .symbol .. => fun V E i I k up w hO => hO.elim
  | .nonReservedSymbol .. => fun V E i I k up w hO => hO.elim
  | .cat .. => fun V E i I k up w hO => hO.elim
  | .parser .. => fun V E i I k up w hO => hO.elim
  | .sepBy .. => fun V E i I k up w hO => hO.elim
  | .sepBy1 .. => fun V E i I k up w hO => hO.elim
  | .unicodeSymbol .. => fun V E i I k up w hO => hO.elim
end RWT
