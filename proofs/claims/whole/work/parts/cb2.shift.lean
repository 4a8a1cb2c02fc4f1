/-! codes below one trap more: shifted by one -/
def xSh (i : Nat) (X : Nat → Prop) (k : Nat) : Prop := (k < 2 + i ∧ X k) ∨ (2 + i < k ∧ X (k - 1))
section XSH
variable {i k : Nat} {X Y : Nat → Prop}
theorem xSh_0 : xSh i X 0 ↔ X 0 := ⟨fun z => z.elim (fun y => y.2) (fun y => absurd y.1 (by omega)), fun z => Or.inl ⟨by omega, z⟩⟩
theorem xSh_Th : xTh (xSh i X) (xSh i Y) k ↔ xSh i (xTh X Y) k := by
  have e0 : xSh i X 0 ↔ X 0 := xSh_0
  constructor
  · rintro (⟨z0, ⟨z1, ⟨z2, z3⟩ | ⟨z2, z3⟩⟩ | (⟨z2, z3⟩ | ⟨z2, z3⟩)⟩ | ⟨z0, ⟨z2, z3⟩ | ⟨z2, z3⟩⟩)
    · exact Or.inl ⟨z2, Or.inl ⟨e0.mp z0, Or.inl ⟨z1, z3⟩⟩⟩
    · exact Or.inr ⟨z2, Or.inl ⟨e0.mp z0, Or.inl ⟨by omega, z3⟩⟩⟩
    · exact Or.inl ⟨z2, Or.inl ⟨e0.mp z0, Or.inr z3⟩⟩
    · exact Or.inr ⟨z2, Or.inl ⟨e0.mp z0, Or.inr z3⟩⟩
    · exact Or.inl ⟨z2, Or.inr ⟨fun y => z0 (e0.mpr y), z3⟩⟩
    · exact Or.inr ⟨z2, Or.inr ⟨fun y => z0 (e0.mpr y), z3⟩⟩
  · rintro (⟨z2, ⟨z0, ⟨z1, z3⟩ | z3⟩ | ⟨z0, z3⟩⟩ | ⟨z2, ⟨z0, ⟨z1, z3⟩ | z3⟩ | ⟨z0, z3⟩⟩)
    · exact Or.inl ⟨e0.mpr z0, Or.inl ⟨z1, Or.inl ⟨z2, z3⟩⟩⟩
    · exact Or.inl ⟨e0.mpr z0, Or.inr (Or.inl ⟨z2, z3⟩)⟩
    · exact Or.inr ⟨fun y => z0 (e0.mp y), Or.inl ⟨z2, z3⟩⟩
    · exact Or.inl ⟨e0.mpr z0, Or.inl ⟨by omega, Or.inr ⟨z2, z3⟩⟩⟩
    · exact Or.inl ⟨e0.mpr z0, Or.inr (Or.inr ⟨z2, z3⟩)⟩
    · exact Or.inr ⟨fun y => z0 (e0.mp y), Or.inr ⟨z2, z3⟩⟩
theorem xSh_e1 (h : k < 2 + i) : (∃ m, m ≤ k ∧ xSh i Y m) ↔ ∃ m, m ≤ k ∧ Y m := by
  constructor
  · rintro ⟨m, m1, ⟨m2, m3⟩ | ⟨m2, m3⟩⟩
    · exact ⟨m, m1, m3⟩
    · omega
  · rintro ⟨m, m1, m2⟩
    exact ⟨m, m1, Or.inl ⟨by omega, m2⟩⟩
theorem xSh_e2 (h : 2 + i < k) : (∃ m, m ≤ k ∧ xSh i Y m) ↔ ∃ m, m ≤ k - 1 ∧ Y m := by
  constructor
  · rintro ⟨m, m1, ⟨m2, m3⟩ | ⟨m2, m3⟩⟩
    · exact ⟨m, by omega, m3⟩
    · exact ⟨m - 1, by omega, m3⟩
  · rintro ⟨m, m1, m2⟩
    by_cases c : m < 2 + i
    · exact ⟨m, by omega, Or.inl ⟨c, m2⟩⟩
    · exact ⟨m + 1, by omega, Or.inr ⟨by omega, m2⟩⟩
theorem xSh_Pa : xPa (xSh i X) (xSh i Y) k ↔ xSh i (xPa X Y) k := by
  constructor
  · rintro (⟨⟨z1, z2⟩ | ⟨z1, z2⟩, z3⟩ | ⟨⟨z1, z2⟩ | ⟨z1, z2⟩, z3⟩)
    · exact Or.inl ⟨z1, Or.inl ⟨z2, (xSh_e1 z1).mp z3⟩⟩
    · exact Or.inr ⟨z1, Or.inl ⟨z2, (xSh_e2 z1).mp z3⟩⟩
    · exact Or.inl ⟨z1, Or.inr ⟨z2, (xSh_e1 z1).mp z3⟩⟩
    · exact Or.inr ⟨z1, Or.inr ⟨z2, (xSh_e2 z1).mp z3⟩⟩
  · rintro (⟨z1, ⟨z2, z3⟩ | ⟨z2, z3⟩⟩ | ⟨z1, ⟨z2, z3⟩ | ⟨z2, z3⟩⟩)
    · exact Or.inl ⟨Or.inl ⟨z1, z2⟩, (xSh_e1 z1).mpr z3⟩
    · exact Or.inr ⟨Or.inl ⟨z1, z2⟩, (xSh_e1 z1).mpr z3⟩
    · exact Or.inl ⟨Or.inr ⟨z1, z2⟩, (xSh_e2 z1).mpr z3⟩
    · exact Or.inr ⟨Or.inr ⟨z1, z2⟩, (xSh_e2 z1).mpr z3⟩
theorem xSh_Ca : xCa (xSh (i + 1) X) k ↔ xSh i (xCa X) k := by
  constructor
  · rintro (⟨rfl, (⟨z1, z2⟩ | ⟨z1, z2⟩) | (⟨z1, z2⟩ | ⟨z1, z2⟩)⟩ | ⟨rfl, ⟨z1, z2⟩ | ⟨z1, z2⟩⟩ | ⟨h, ⟨z1, z2⟩ | ⟨z1, z2⟩⟩)
    · exact Or.inl ⟨by omega, Or.inl ⟨rfl, Or.inl z2⟩⟩
    · omega
    · exact Or.inl ⟨by omega, Or.inl ⟨rfl, Or.inr z2⟩⟩
    · omega
    · exact Or.inl ⟨by omega, Or.inr (Or.inl ⟨rfl, z2⟩)⟩
    · omega
    · exact Or.inl ⟨by omega, Or.inr (Or.inr ⟨h, z2⟩)⟩
    · refine Or.inr ⟨by omega, Or.inr (Or.inr ⟨by omega, ?_⟩)⟩
      rw [show k - 1 + 1 = k + 1 - 1 by omega]
      exact z2
  · rintro (⟨z1, ⟨rfl, z2 | z2⟩ | ⟨rfl, z2⟩ | ⟨h, z2⟩⟩ | ⟨z1, ⟨h, z2⟩ | ⟨h, z2⟩ | ⟨h, z2⟩⟩)
    · exact Or.inl ⟨rfl, Or.inl (Or.inl ⟨by omega, z2⟩)⟩
    · exact Or.inl ⟨rfl, Or.inr (Or.inl ⟨by omega, z2⟩)⟩
    · exact Or.inr (Or.inl ⟨rfl, Or.inl ⟨by omega, z2⟩⟩)
    · exact Or.inr (Or.inr ⟨h, Or.inl ⟨by omega, z2⟩⟩)
    · omega
    · omega
    · refine Or.inr (Or.inr ⟨by omega, Or.inr ⟨by omega, ?_⟩⟩)
      rw [show k + 1 - 1 = k - 1 + 1 by omega]
      exact z2
theorem xTh_congr {X' Y' : Nat → Prop} (h1 : ∀ k, X k ↔ X' k) (h2 : ∀ k, Y k ↔ Y' k) : xTh X Y k ↔ xTh X' Y' k := by
  have e1 : X = X' := funext (fun k => propext (h1 k))
  have e2 : Y = Y' := funext (fun k => propext (h2 k))
  rw [e1, e2]
theorem xPa_congr {X' Y' : Nat → Prop} (h1 : ∀ k, X k ↔ X' k) (h2 : ∀ k, Y k ↔ Y' k) : xPa X Y k ↔ xPa X' Y' k := by
  have e1 : X = X' := funext (fun k => propext (h1 k))
  have e2 : Y = Y' := funext (fun k => propext (h2 k))
  rw [e1, e2]
theorem xCa_congr {X' : Nat → Prop} (h1 : ∀ k, X k ↔ X' k) : xCa X k ↔ xCa X' k := by
  have e1 : X = X' := funext (fun k => propext (h1 k))
  rw [e1]
end XSH
theorem ixE_ins {s sv : Int32} (hn : ¬ s = sv) (E : List Int32) : ∀ L : List Int32, (ixE s (L ++ E) < L.length ∧ ixE s (L ++ sv :: E) = ixE s (L ++ E)) ∨ (L.length ≤ ixE s (L ++ E) ∧ ixE s (L ++ sv :: E) = ixE s (L ++ E) + 1)
  | [] => Or.inr ⟨Nat.zero_le _, by
    show (if s = sv then 0 else ixE s E + 1) = _
    rw [if_neg hn]
    rfl⟩
  | t :: L => by
    show ((if s = t then 0 else ixE s (L ++ E) + 1) < L.length + 1 ∧ (if s = t then 0 else ixE s (L ++ sv :: E) + 1) = (if s = t then 0 else ixE s (L ++ E) + 1)) ∨ (L.length + 1 ≤ (if s = t then 0 else ixE s (L ++ E) + 1) ∧ (if s = t then 0 else ixE s (L ++ sv :: E) + 1) = (if s = t then 0 else ixE s (L ++ E) + 1) + 1)
    by_cases c : s = t
    · rw [if_pos c, if_pos c]
      exact Or.inl ⟨by omega, rfl⟩
    · rw [if_neg c, if_neg c]
      rcases ixE_ins hn E L with ⟨h1, h2⟩ | ⟨h1, h2⟩
      · exact Or.inl ⟨by omega, by omega⟩
      · exact Or.inr ⟨by omega, by omega⟩
theorem ixE_lt {s : Int32} : ∀ L : List Int32, s ∈ L → ixE s L < L.length
  | [], h => by cases h
  | t :: L, h => by
    show (if s = t then 0 else ixE s L + 1) < L.length + 1
    by_cases c : s = t
    · rw [if_pos c]; omega
    · rw [if_neg c]
      rcases List.mem_cons.mp h with h | h
      · exact absurd h c
      · have := ixE_lt L h
        omega
/-- an exit's trap stands around it -/
theorem wf_mem {x : Lean.Name} {E : List (Int32 × Int32)} (h : wfT (.const x) E) (h9 : (lT x).1 = 9) : (lT x).2.2.2.2.1 ∈ E.map Prod.snd := by
  rcases h h9 with ⟨-, -, h⟩ | ⟨-, h⟩
  · cases E with
    | nil => cases h
    | cons p r =>
      have e : p = (-1, (lT x).2.2.2.2.1) := Option.some.inj h
      rw [e]
      exact List.mem_cons.mpr (Or.inl rfl)
  · exact List.mem_map.mpr ⟨_, h, rfl⟩
theorem cod_lt : ∀ (T : tT) (E : List (Int32 × Int32)) (k : Nat), wfT T E → cod T (E.map Prod.snd) k → k < 2 + E.length := by
  intro T
  induction T with
  | const x =>
    rintro E k h (⟨h9, rfl⟩ | ⟨-, rfl⟩ | ⟨-, -, rfl⟩)
    · have := ixE_lt _ (wf_mem h h9)
      rw [List.length_map] at this
      omega
    · omega
    · omega
  | unary x a iha =>
    intro E k h hc
    have h : (if (lT x).1 = 8 then wfT a (((lT x).2.2.2.1, (lT x).2.2.2.2.1) :: E) else wfT a E) := h
    rcases hc with ⟨h8, ⟨rfl, -⟩ | ⟨rfl, -⟩ | ⟨-, hc⟩⟩ | ⟨h8, hc⟩
    · omega
    · omega
    · rw [if_pos h8] at h
      have := iha _ _ h hc
      rw [List.length_cons] at this
      omega
    · rw [if_neg h8] at h
      exact iha _ _ h hc
  | binary x a b iha ihb =>
    intro E k h hc
    have ha := iha E k h.1
    have hb := ihb E k h.2
    rcases hc with ⟨-, ⟨-, ⟨-, z⟩ | z⟩ | ⟨-, z⟩⟩ | ⟨-, ⟨z, -⟩ | ⟨z, -⟩⟩ | ⟨-, -, z | z⟩
    · exact ha z
    · exact hb z
    · exact ha z
    · exact ha z
    · exact hb z
    · exact ha z
    · exact hb z
  | _ =>
    intro E k h hc
    exact False.elim h
theorem cod_sh {sv : Int32} {E : List (Int32 × Int32)} : ∀ (T : tT) (L : List (Int32 × Int32)) (k : Nat), ¬ sv ∈ (L ++ E).map Prod.snd → wfT T (L ++ E) → (∀ p, p ∈ tpT T → ¬ p.2 = sv) → (cod T (L.map Prod.snd ++ sv :: E.map Prod.snd) k ↔ xSh L.length (cod T (L.map Prod.snd ++ E.map Prod.snd)) k) := by
  intro T
  induction T with
  | const x =>
    intro L k hn h _
    by_cases h9 : (lT x).1 = 9
    · have hm := wf_mem h h9
      have ne : ¬ (lT x).2.2.2.2.1 = sv := fun z => hn (by rw [← z]; exact hm)
      have n1 : ¬ (lT x).1 = 1 := by rw [h9]; decide
      have hix := ixE_ins ne (E.map Prod.snd) (L.map Prod.snd)
      rw [List.length_map] at hix
      constructor
      · rintro (⟨-, rfl⟩ | ⟨z, -⟩ | ⟨z, -⟩)
        · rcases hix with ⟨y1, y2⟩ | ⟨y1, y2⟩
          · exact Or.inl ⟨by omega, Or.inl ⟨h9, by rw [y2]⟩⟩
          · exact Or.inr ⟨by omega, Or.inl ⟨h9, by omega⟩⟩
        · exact absurd z n1
        · exact absurd h9 z
      · rintro (⟨z1, ⟨-, z2⟩ | ⟨z, -⟩ | ⟨z, -⟩⟩ | ⟨z1, ⟨-, z2⟩ | ⟨z, -⟩ | ⟨z, -⟩⟩)
        · refine Or.inl ⟨h9, ?_⟩
          rcases hix with ⟨y1, y2⟩ | ⟨y1, y2⟩ <;> omega
        · exact absurd z n1
        · exact absurd h9 z
        · refine Or.inl ⟨h9, ?_⟩
          rcases hix with ⟨y1, y2⟩ | ⟨y1, y2⟩ <;> omega
        · exact absurd z n1
        · exact absurd h9 z
    · constructor
      · rintro (⟨z, -⟩ | ⟨z, rfl⟩ | ⟨z, z', rfl⟩)
        · exact absurd z h9
        · exact Or.inl ⟨by omega, Or.inr (Or.inl ⟨z, rfl⟩)⟩
        · exact Or.inl ⟨by omega, Or.inr (Or.inr ⟨z, z', rfl⟩)⟩
      · rintro (⟨z1, ⟨z, -⟩ | ⟨z, z2⟩ | ⟨z, z', z2⟩⟩ | ⟨z1, ⟨z, -⟩ | ⟨z, z2⟩ | ⟨z, z', z2⟩⟩)
        · exact absurd z h9
        · exact Or.inr (Or.inl ⟨z, z2⟩)
        · exact Or.inr (Or.inr ⟨z, z', z2⟩)
        · exact absurd z h9
        · omega
        · omega
  | unary x a iha =>
    intro L k hn h ht
    have h : (if (lT x).1 = 8 then wfT a (((lT x).2.2.2.1, (lT x).2.2.2.2.1) :: (L ++ E)) else wfT a (L ++ E)) := h
    have ht : ∀ p, p ∈ (if (lT x).1 = 8 then ((lT x).2.2.2.1, (lT x).2.2.2.2.1) :: tpT a else tpT a) → ¬ p.2 = sv := ht
    show (((lT x).1 = 8 ∧ xCa (cod a ((lT x).2.2.2.2.1 :: (L.map Prod.snd ++ sv :: E.map Prod.snd))) k) ∨ (¬ (lT x).1 = 8 ∧ cod a (L.map Prod.snd ++ sv :: E.map Prod.snd) k)) ↔ _
    by_cases h8 : (lT x).1 = 8
    · rw [if_pos h8] at h ht
      have ne : ¬ (lT x).2.2.2.2.1 = sv := ht _ (List.mem_cons.mpr (Or.inl rfl))
      have e := fun k => iha (((lT x).2.2.2.1, (lT x).2.2.2.2.1) :: L) k (fun z => by
        rcases List.mem_cons.mp z with z | z
        · exact ne z.symm
        · exact hn z) h (fun p hp => ht p (List.mem_cons.mpr (Or.inr hp)))
      have e2 : xCa (cod a ((lT x).2.2.2.2.1 :: (L.map Prod.snd ++ sv :: E.map Prod.snd))) k ↔ xSh L.length (xCa (cod a ((lT x).2.2.2.2.1 :: (L.map Prod.snd ++ E.map Prod.snd)))) k := (xCa_congr e).trans xSh_Ca
      constructor
      · rintro (⟨-, z⟩ | ⟨z, -⟩)
        · rcases e2.mp z with ⟨y1, y2⟩ | ⟨y1, y2⟩
          · exact Or.inl ⟨y1, Or.inl ⟨h8, y2⟩⟩
          · exact Or.inr ⟨y1, Or.inl ⟨h8, y2⟩⟩
        · exact absurd h8 z
      · rintro (⟨z1, ⟨-, z⟩ | ⟨z, -⟩⟩ | ⟨z1, ⟨-, z⟩ | ⟨z, -⟩⟩)
        · exact Or.inl ⟨h8, e2.mpr (Or.inl ⟨z1, z⟩)⟩
        · exact absurd h8 z
        · exact Or.inl ⟨h8, e2.mpr (Or.inr ⟨z1, z⟩)⟩
        · exact absurd h8 z
    · rw [if_neg h8] at h ht
      have e := iha L k hn h ht
      constructor
      · rintro (⟨z, -⟩ | ⟨-, z⟩)
        · exact absurd z h8
        · rcases e.mp z with ⟨y1, y2⟩ | ⟨y1, y2⟩
          · exact Or.inl ⟨y1, Or.inr ⟨h8, y2⟩⟩
          · exact Or.inr ⟨y1, Or.inr ⟨h8, y2⟩⟩
      · rintro (⟨z1, ⟨z, -⟩ | ⟨-, z⟩⟩ | ⟨z1, ⟨z, -⟩ | ⟨-, z⟩⟩)
        · exact absurd z h8
        · exact Or.inr ⟨h8, e.mpr (Or.inl ⟨z1, z⟩)⟩
        · exact absurd z h8
        · exact Or.inr ⟨h8, e.mpr (Or.inr ⟨z1, z⟩)⟩
  | binary x a b iha ihb =>
    intro L k hn h ht
    have ea := fun k => iha L k hn h.1 (fun p hp => ht p (List.mem_append.mpr (Or.inl hp)))
    have eb := fun k => ihb L k hn h.2 (fun p hp => ht p (List.mem_append.mpr (Or.inr hp)))
    have e5 := (xTh_congr (k := k) ea eb).trans xSh_Th
    have e7 := (xPa_congr (k := k) ea eb).trans xSh_Pa
    have ea := ea k
    have eb := eb k
    constructor
    · rintro (⟨q, z⟩ | ⟨q, z⟩ | ⟨q, q', z | z⟩)
      · rcases e5.mp z with ⟨y1, y2⟩ | ⟨y1, y2⟩
        · exact Or.inl ⟨y1, Or.inl ⟨q, y2⟩⟩
        · exact Or.inr ⟨y1, Or.inl ⟨q, y2⟩⟩
      · rcases e7.mp z with ⟨y1, y2⟩ | ⟨y1, y2⟩
        · exact Or.inl ⟨y1, Or.inr (Or.inl ⟨q, y2⟩)⟩
        · exact Or.inr ⟨y1, Or.inr (Or.inl ⟨q, y2⟩)⟩
      · rcases ea.mp z with ⟨y1, y2⟩ | ⟨y1, y2⟩
        · exact Or.inl ⟨y1, Or.inr (Or.inr ⟨q, q', Or.inl y2⟩)⟩
        · exact Or.inr ⟨y1, Or.inr (Or.inr ⟨q, q', Or.inl y2⟩)⟩
      · rcases eb.mp z with ⟨y1, y2⟩ | ⟨y1, y2⟩
        · exact Or.inl ⟨y1, Or.inr (Or.inr ⟨q, q', Or.inr y2⟩)⟩
        · exact Or.inr ⟨y1, Or.inr (Or.inr ⟨q, q', Or.inr y2⟩)⟩
    · rintro (⟨y, ⟨q, z⟩ | ⟨q, z⟩ | ⟨q, q', z | z⟩⟩ | ⟨y, ⟨q, z⟩ | ⟨q, z⟩ | ⟨q, q', z | z⟩⟩)
      · exact Or.inl ⟨q, e5.mpr (Or.inl ⟨y, z⟩)⟩
      · exact Or.inr (Or.inl ⟨q, e7.mpr (Or.inl ⟨y, z⟩)⟩)
      · exact Or.inr (Or.inr ⟨q, q', Or.inl (ea.mpr (Or.inl ⟨y, z⟩))⟩)
      · exact Or.inr (Or.inr ⟨q, q', Or.inr (eb.mpr (Or.inl ⟨y, z⟩))⟩)
      · exact Or.inl ⟨q, e5.mpr (Or.inr ⟨y, z⟩)⟩
      · exact Or.inr (Or.inl ⟨q, e7.mpr (Or.inr ⟨y, z⟩)⟩)
      · exact Or.inr (Or.inr ⟨q, q', Or.inl (ea.mpr (Or.inr ⟨y, z⟩))⟩)
      · exact Or.inr (Or.inr ⟨q, q', Or.inr (eb.mpr (Or.inr ⟨y, z⟩))⟩)
  | _ =>
    intro L k _ h _
    exact False.elim h
