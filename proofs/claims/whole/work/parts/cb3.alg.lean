/-! how statements are put together: one and two below -/
section ALG
variable {E : List (Int32 × Int32)} {s tm a l c s1 tm1 a1 l1 c1 s2 tm2 a2 l2 c2 : Int32} {p p0 p1 p2 : Int} {T T1 T2 : tT} {x : lbT} {S : List Int32} {k : Nat} {o : Option Int32}
theorem cod_t0 : cod (t0 x) S k ↔ (x.1 = 9 ∧ k = 2 + ixE x.2.2.2.2.1 S) ∨ (x.1 = 1 ∧ k = 1) ∨ (¬ x.1 = 9 ∧ ¬ x.1 = 1 ∧ k = 0) := by
  show ((lT (tL x)).1 = 9 ∧ k = 2 + ixE (lT (tL x)).2.2.2.2.1 S) ∨ ((lT (tL x)).1 = 1 ∧ k = 1) ∨ (¬ (lT (tL x)).1 = 9 ∧ ¬ (lT (tL x)).1 = 1 ∧ k = 0) ↔ _
  rw [lT_tL]
theorem cod_t1 : cod (t1 x T) S k ↔ (x.1 = 8 ∧ xCa (cod T (x.2.2.2.2.1 :: S)) k) ∨ (¬ x.1 = 8 ∧ cod T S k) := by
  show ((lT (tL x)).1 = 8 ∧ xCa (cod T ((lT (tL x)).2.2.2.2.1 :: S)) k) ∨ (¬ (lT (tL x)).1 = 8 ∧ cod T S k) ↔ _
  rw [lT_tL]
theorem cod_t2 : cod (t2 x T1 T2) S k ↔ (x.1 = 5 ∧ xTh (cod T1 S) (cod T2 S) k) ∨ (x.1 = 7 ∧ xPa (cod T1 S) (cod T2 S) k) ∨ (¬ x.1 = 5 ∧ ¬ x.1 = 7 ∧ (cod T1 S k ∨ cod T2 S k)) := by
  show ((lT (tL x)).1 = 5 ∧ xTh (cod T1 S) (cod T2 S) k) ∨ ((lT (tL x)).1 = 7 ∧ xPa (cod T1 S) (cod T2 S) k) ∨ (¬ (lT (tL x)).1 = 5 ∧ ¬ (lT (tL x)).1 = 7 ∧ (cod T1 S k ∨ cod T2 S k)) ↔ _
  rw [lT_tL]
theorem feP_t1 : feP (t1 x T) S o ↔ (x.1 = 8 ∧ feP T (x.2.2.2.2.1 :: S) o) ∨ (x.1 = 6 ∧ cod T S 0 ∧ o = some x.2.1) ∨ (x.1 = 6 ∧ ¬ cod T S 0 ∧ feP T S o) ∨ (¬ x.1 = 8 ∧ ¬ x.1 = 6 ∧ feP T S o) := by
  show ((lT (tL x)).1 = 8 ∧ feP T ((lT (tL x)).2.2.2.2.1 :: S) o) ∨ ((lT (tL x)).1 = 6 ∧ cod T S 0 ∧ o = some (lT (tL x)).2.1) ∨ ((lT (tL x)).1 = 6 ∧ ¬ cod T S 0 ∧ feP T S o) ∨ (¬ (lT (tL x)).1 = 8 ∧ ¬ (lT (tL x)).1 = 6 ∧ feP T S o) ↔ _
  rw [lT_tL]
theorem tpT_t1 : tpT (t1 x T) = if x.1 = 8 then (x.2.2.2.1, x.2.2.2.2.1) :: tpT T else tpT T := by
  show (if (lT (tL x)).1 = 8 then ((lT (tL x)).2.2.2.1, (lT (tL x)).2.2.2.2.1) :: tpT T else tpT T) = _
  rw [lT_tL]
theorem wfT_t0 : wfT (t0 x) E ↔ (x.1 = 9 → (x.2.2.2.1 = -1 ∧ x.2.2.1 = 2 ∧ E.head? = some (-1, x.2.2.2.2.1)) ∨ (¬ x.2.2.2.1 = -1 ∧ (x.2.2.2.1, x.2.2.2.2.1) ∈ E)) := by
  show ((lT (tL x)).1 = 9 → ((lT (tL x)).2.2.2.1 = -1 ∧ (lT (tL x)).2.2.1 = 2 ∧ E.head? = some (-1, (lT (tL x)).2.2.2.2.1)) ∨ (¬ (lT (tL x)).2.2.2.1 = -1 ∧ ((lT (tL x)).2.2.2.1, (lT (tL x)).2.2.2.2.1) ∈ E)) ↔ _
  rw [lT_tL]
theorem wfT_t1 : wfT (t1 x T) E ↔ if x.1 = 8 then wfT T ((x.2.2.2.1, x.2.2.2.2.1) :: E) else wfT T E := by
  show (if (lT (tL x)).1 = 8 then wfT T (((lT (tL x)).2.2.2.1, (lT (tL x)).2.2.2.2.1) :: E) else wfT T E) ↔ _
  rw [lT_tL]
/-- from an earlier place on -/
theorem BU_from (h : BU E s tm a l p T c s1 tm1 a1 l1 p1) (hp : p0 ≤ p) (h13 : a.toInt < p0 ∨ a = 32768) : BU E s tm a l p0 T c s1 tm1 a1 l1 p1 := by
  obtain ⟨h1, ⟨h2, h3, h4⟩, ⟨h5, h6⟩, h7⟩ := h
  refine ⟨h1, ⟨h2, h3, by omega⟩, ⟨fun z => h5 (by omega), fun z => ?_⟩, h7⟩
  rcases h6 z with y | ⟨y, y1, y2, y3, y4⟩
  · exact Or.inl y
  · exact Or.inr ⟨y, y1, y2, by omega, y4⟩
/-- one below, no trap and no loop -/
theorem BU_un (h : BU E s tm a l p T c s1 tm1 a1 l1 p1) (h8 : ¬ x.1 = 8) (h6 : ¬ x.1 = 6) : BU E s tm a l p (t1 x T) c s1 tm1 a1 l1 p1 := by
  obtain ⟨g1, g2, ⟨g3, g4⟩, g5, g6, g7, g8⟩ := h
  have et : tpT (t1 x T) = tpT T := by rw [tpT_t1, if_neg h8]
  have ef : ∀ o, feP T (E.map Prod.snd) o → feP (t1 x T) (E.map Prod.snd) o := fun o z => feP_t1.mpr (Or.inr (Or.inr (Or.inr ⟨h8, h6, z⟩)))
  refine ⟨cB_congr g1 (fun k => ?_), g2, ⟨g3, fun z => ?_⟩, by rw [et]; exact g5, by rw [et]; exact g6, by rw [et]; exact g7, wfT_t1.mpr (by rw [if_neg h8]; exact g8)⟩
  · rw [cod_t1]
    exact ⟨fun z => Or.inr ⟨h8, z⟩, fun z => z.elim (fun y => absurd y.1 h8) (fun y => y.2)⟩
  · rcases g4 z with ⟨y1, y2⟩ | ⟨y, y1, y2⟩
    · exact Or.inl ⟨ef _ y1, y2⟩
    · exact Or.inr ⟨y, ef _ y1, y2⟩
/-- a loop -/
theorem BU_lp (h : BU E s tm a l p T c s1 tm1 a1 l1 p1) (hp : p0 < p) (hp2 : p ≤ 32768) (h13 : a.toInt < p0 ∨ a = 32768) {g : Int32} (hg : g.toInt = p0) (h6 : x.1 = 6) : BU E s tm a l p0 (t1 x T) c s1 tm1 (if (c &&& 1) = 1 ∧ g < a1 then g else a1) (if (c &&& 1) = 1 ∧ g < a1 then x.2.1 else l1) p1 := by
  obtain ⟨g1, ⟨g2, g2', g2''⟩, ⟨g3, g4⟩, g5, g6, g7, g8⟩ := h
  have h8 : ¬ x.1 = 8 := by rw [h6]; decide
  have et : tpT (t1 x T) = tpT T := by rw [tpT_t1, if_neg h8]
  have c0 : (c &&& 1) = 1 ↔ cod T (E.map Prod.snd) 0 := bit1.trans (g1.1 0)
  refine ⟨cB_congr g1 (fun k => ?_), ⟨g2, g2', by omega⟩, ⟨fun z => ?_, fun z => ?_⟩, by rw [et]; exact g5, by rw [et]; exact g6, by rw [et]; exact g7, wfT_t1.mpr (by rw [if_neg h8]; exact g8)⟩
  · rw [cod_t1]
    exact ⟨fun z => Or.inr ⟨h8, z⟩, fun z => z.elim (fun y => absurd y.1 h8) (fun y => y.2)⟩
  · obtain ⟨e1, e2⟩ := g3 (by omega)
    rw [e1, if_neg (fun y => by have := i_lt.mp y.2; omega), if_neg (fun y => by have := i_lt.mp y.2; omega)]
    exact ⟨rfl, e2⟩
  · by_cases cc : (c &&& 1) = 1
    · have lt : g < a1 := by
        refine i_lt.mpr ?_
        rcases g4 z with ⟨-, y2⟩ | ⟨y, -, -, y3, -⟩
        · rw [y2, hg]
          have : (32768 : Int32).toInt = 32768 := by decide
          omega
        · omega
      rw [if_pos ⟨cc, lt⟩, if_pos ⟨cc, lt⟩]
      exact Or.inr ⟨x.2.1, feP_t1.mpr (Or.inr (Or.inl ⟨h6, c0.mp cc, rfl⟩)), rfl, by omega, by omega⟩
    · rw [if_neg (fun y => cc y.1), if_neg (fun y => cc y.1)]
      have ef : ∀ o, feP T (E.map Prod.snd) o → feP (t1 x T) (E.map Prod.snd) o := fun o z => feP_t1.mpr (Or.inr (Or.inr (Or.inl ⟨h6, fun y => cc (c0.mpr y), z⟩)))
      rcases g4 z with ⟨y1, y2⟩ | ⟨y, y1, y2, y3, y4⟩
      · exact Or.inl ⟨ef _ y1, y2⟩
      · exact Or.inr ⟨y, ef _ y1, y2, by omega, y4⟩
/-- two below -/
theorem BU_bin (h1 : BU E s tm a l p T1 c1 s1 tm1 a1 l1 p1) (h2 : BU E s1 tm1 a1 l1 p1 T2 c2 s2 tm2 a2 l2 p2) (hc : cB c (cod (t2 x T1 T2) (E.map Prod.snd))) : BU E s tm a l p (t2 x T1 T2) c s2 tm2 a2 l2 p2 := by
  obtain ⟨-, ⟨g2, g3, g4⟩, ⟨g5, g6⟩, g7, g8, g9, g10⟩ := h1
  obtain ⟨-, ⟨f2, f3, f4⟩, ⟨f5, f6⟩, f7, f8, f9, f10⟩ := h2
  have et : tpT (t2 x T1 T2) = tpT T1 ++ tpT T2 := rfl
  refine ⟨hc, ⟨by omega, by omega, by omega⟩, ⟨fun z => ?_, fun z => ?_⟩, fun y hy => ?_, ?_, ?_, ⟨g10, f10⟩⟩
  · obtain ⟨e1, e2⟩ := g5 z
    obtain ⟨e3, e4⟩ := f5 (by rw [e1]; omega)
    exact ⟨e3.trans e1, e4.trans e2⟩
  · rcases g6 z with ⟨y1, y2⟩ | ⟨y, y1, y2, y3, y4⟩
    · rcases f6 y2 with ⟨z1, z2⟩ | ⟨y', z1, z2, z3, z4⟩
      · exact Or.inl ⟨Or.inr ⟨y1, z1⟩, z2⟩
      · exact Or.inr ⟨y', Or.inr ⟨y1, z1⟩, z2, by omega, z4⟩
    · obtain ⟨e3, e4⟩ := f5 y4
      exact Or.inr ⟨y, Or.inl ⟨y, y1, rfl⟩, e4.trans y2, by rw [e3]; exact y3, by rw [e3]; omega⟩
  · rw [et] at hy
    rcases List.mem_append.mp hy with hy | hy
    · obtain ⟨⟨z1, z2⟩, z3⟩ := g7 y hy
      exact ⟨⟨z1, by omega⟩, z3.imp id (fun z => by omega)⟩
    · obtain ⟨⟨z1, z2⟩, z3⟩ := f7 y hy
      exact ⟨⟨by omega, z2⟩, z3.imp id (fun z => by omega)⟩
  · rw [et, List.map_append]
    refine List.nodup_append.mpr ⟨g8, f8, fun u hu v hv => ?_⟩
    obtain ⟨y, hy, rfl⟩ := List.mem_map.mp hu
    obtain ⟨y', hy', rfl⟩ := List.mem_map.mp hv
    have z1 := (g7 y hy).1
    have z2 := (f7 y' hy').1
    intro e
    rw [e] at z1
    omega
  · rw [et, List.map_append]
    refine List.pairwise_append.mpr ⟨g9, f9, fun u hu v hv => ?_⟩
    obtain ⟨y, hy, rfl⟩ := List.mem_map.mp hu
    obtain ⟨y', hy', rfl⟩ := List.mem_map.mp hv
    have z1 := (g7 y hy).2
    have z2 := (f7 y' hy').2
    intro e
    rcases z1 with z1 | z1
    · exact z1
    · rcases z2 with z2 | z2
      · exact e.trans z2
      · rw [e] at z1
        omega
/-- a leaf that is no exit -/
theorem BU_t0 (h9 : ¬ x.1 = 9) (hp : p ≤ p1) (hc : cB c (fun k => (x.1 = 1 ∧ k = 1) ∨ (¬ x.1 = 1 ∧ k = 0))) : BU E s tm a l p (t0 x) c s tm a l p1 := by
  refine ⟨cB_congr hc (fun k => ?_), ⟨Int.le_refl _, Int.le_refl _, hp⟩, ⟨fun _ => ⟨rfl, rfl⟩, fun z => Or.inl ⟨rfl, z⟩⟩, (fun y hy => by cases hy), List.nodup_nil, List.Pairwise.nil, wfT_t0.mpr (fun z => absurd z h9)⟩
  rw [cod_t0]
  constructor
  · rintro (z | ⟨z, z'⟩)
    · exact Or.inr (Or.inl z)
    · exact Or.inr (Or.inr ⟨h9, z, z'⟩)
  · rintro (⟨z, -⟩ | z | ⟨-, z⟩)
    · exact absurd z h9
    · exact Or.inl z
    · exact Or.inr z
end ALG
