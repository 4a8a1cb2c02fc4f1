/-! what a program does in an instant, as a meaning of its tree: statuses given -/
/-- codes it can end with, the code it must end with, signals that may be emitted, that must be, locals met, doubt, pauses chosen, statuses exact, statuses closed -/
abbrev zvT : Type := (Nat → Prop) × (Nat → Prop) × (Nat → Prop) × (Nat → Prop) × (Nat → Prop) × Prop × (Nat → Prop) × Prop × Prop
abbrev zC (e : zvT) : Nat → Prop := e.1
abbrev zM (e : zvT) : Nat → Prop := e.2.1
abbrev zE (e : zvT) : Nat → Prop := e.2.2.1
abbrev zS (e : zvT) : Nat → Prop := e.2.2.2.1
abbrev zV (e : zvT) : Nat → Prop := e.2.2.2.2.1
abbrev zD (e : zvT) : Prop := e.2.2.2.2.2.1
abbrev zN (e : zvT) : Nat → Prop := e.2.2.2.2.2.2.1
abbrev zX (e : zvT) : Prop := e.2.2.2.2.2.2.2.1
abbrev zL (e : zvT) : Prop := e.2.2.2.2.2.2.2.2
/-- ends with code c at once -/
def zK (c : Nat) (s : Prop) : zvT := (fun d => d = c, fun d => s ∧ d = c, fun _ => False, fun _ => False, fun _ => False, False, fun _ => False, True, True)
/-- a pause that is chosen; pauses that stay -/
def zP (N : Nat → Prop) (s : Prop) : zvT := (fun d => d = 1, fun d => s ∧ d = 1, fun _ => False, fun _ => False, fun _ => False, False, fun p => s ∧ N p, True, True)
def zEm (i : Nat) (s : Prop) : zvT := (fun d => d = 0, fun d => s ∧ d = 0, fun j => j = i, fun j => s ∧ j = i, fun _ => False, False, fun _ => False, True, True)
/-- a, and behind it b where a can end with 0 -/
def zTh (a b : zvT) : zvT := (fun c => (¬ c = 0 ∧ zC a c) ∨ (zC a 0 ∧ zC b c), fun c => (zM a 0 ∧ zM b c) ∨ (¬ c = 0 ∧ zM a c), fun i => zE a i ∨ (zC a 0 ∧ zE b i), fun i => zS a i ∨ (zC a 0 ∧ zS b i), fun i => zV a i ∨ (zC a 0 ∧ zV b i), zD a ∨ (zC a 0 ∧ zD b), fun p => zN a p ∨ (zC a 0 ∧ zN b p), zX a ∧ (zC a 0 → zX b), zL a ∧ (zC a 0 → zL b))
/-- a where p, b where q -/
def zSl (p q : Prop) (a b : zvT) : zvT := (fun c => (p ∧ zC a c) ∨ (q ∧ zC b c), fun c => (p ∧ zM a c) ∨ (q ∧ zM b c), fun i => (p ∧ zE a i) ∨ (q ∧ zE b i), fun i => (p ∧ zS a i) ∨ (q ∧ zS b i), fun i => (p ∧ zV a i) ∨ (q ∧ zV b i), (p ∧ zD a) ∨ (q ∧ zD b), fun i => (p ∧ zN a i) ∨ (q ∧ zN b i), (p → zX a) ∧ (q → zX b), (p → zL a) ∧ (q → zL b))
/-- both -/
def zPa (a b : zvT) : zvT := (xPa (zC a) (zC b), fun c => ∃ x y, zM a x ∧ zM b y ∧ c = max x y, fun i => zE a i ∨ zE b i, fun i => zS a i ∨ zS b i, fun i => zV a i ∨ zV b i, zD a ∨ zD b, fun i => zN a i ∨ zN b i, zX a ∧ zX b, zL a ∧ zL b)
def zTr (a : zvT) : zvT := (xCa (zC a), xCa (zM a), zE a, zS a, zV a, zD a, fun p => zN a p ∧ ¬ zM a 2, zX a, zL a)
/-- a local signal whose place is i -/
def zLc (σ : Nat → Int32) (i : Nat) (s : Prop) (a : zvT) : zvT := (zC a, zM a, zE a, zS a, fun j => j = i ∨ zV a j, (s ∧ σ i = 2) ∨ zD a, zN a, zX a ∧ (zS a i → σ i = 1) ∧ (¬ zE a i → σ i = 0), zL a ∧ (σ i = 2 → zE a i ∧ ¬ zS a i))
section ZV
variable (Q : Nat → Nat → Int32) (tv : (Nat → Nat) → Int32 → Int32) (σ : Nat → Int32) (hs : Nat → Prop) (sel : Nat → Prop)
def nuQ (Q : Nat → Nat → Int32) (k : Nat) : Nat := (Q 54 k).toInt.toNat
def wtQ (Q : Nat → Nat → Int32) (k : Nat) : Nat := (Q 57 k).toInt.toNat
def baQ (Q : Nat → Nat → Int32) (k : Nat) : Nat := (Q 61 k).toInt.toNat
def rhU (ρ : Nat → Nat) (s i : Nat) : Nat → Nat := fun j => if j = s then i else ρ j
/-- the pauses of a row: from, to -/
def pfQ (Q : Nat → Nat → Int32) (k : Nat) : Nat := (Q 62 k).toInt.toNat
def ptQ (Q : Nat → Nat → Int32) (k : Nat) : Nat := (Q 62 (Q 59 k).toInt.toNat).toInt.toNat
/-- mode: none, it resumes; some d, it starts behind a row of weight d (0: at the program's start) -/
def zv : tT → Nat → (Nat → Nat) → Option Nat → Prop → zvT
  | .const x, k, ρ, m, s => if (lT x).1 = 1 then (match m with | none => zK 0 s | some _ => zP (fun p => p = nuQ Q k) s) else if (lT x).1 = 2 then zEm (ρ (nuQ Q k)) s else if (lT x).1 = 9 then zK (nuQ Q k) s else zK 0 s
  | .unary x A, k, ρ, m, s =>
    if (lT x).1 = 4 then (match m with
      | none => zSl (¬ tv ρ (Q 54 k) = 1) (¬ tv ρ (Q 54 k) = 0) (zv A (k + 1) ρ none (s ∧ tv ρ (Q 54 k) = 0)) (zP (fun p => pfQ Q k ≤ p ∧ p < ptQ Q k ∧ sel p) (s ∧ tv ρ (Q 54 k) = 1))
      | some d => zv A (k + 1) ρ (some d) s)
    else if (lT x).1 = 6 then (match m with
      | none => zTh (zv A (k + 1) ρ none s) (zv A (k + 1) ρ (some (wtQ Q k)) (zM (zv A (k + 1) ρ none s) 0))
      | some d => zv A (k + 1) ρ (some d) s)
    else if (lT x).1 = 8 then zTr (zv A (k + 1) ρ m s)
    else (match m with
      | none => zLc σ (baQ Q k + wtQ Q k) s (zv A (k + 1) (rhU ρ (nuQ Q k) (baQ Q k + wtQ Q k)) none s)
      | some d => zLc σ (baQ Q k + d) s (zv A (k + 1) (rhU ρ (nuQ Q k) (baQ Q k + d)) (some d) s))
  | .binary x A B, k, ρ, m, s =>
    if (lT x).1 = 3 then (match m with
      | none => zSl (hs (k + 1)) (¬ hs (k + 1)) (zv A (k + 1) ρ none s) (zv B (k + 1 + tsz A) ρ none s)
      | some d => zSl (¬ tv ρ (Q 54 k) = 0) (¬ tv ρ (Q 54 k) = 1) (zv A (k + 1) ρ (some d) (s ∧ tv ρ (Q 54 k) = 1)) (zv B (k + 1 + tsz A) ρ (some d) (s ∧ tv ρ (Q 54 k) = 0)))
    else if (lT x).1 = 5 then (match m with
      | none => zSl (hs (k + 1)) (¬ hs (k + 1)) (zTh (zv A (k + 1) ρ none s) (zv B (k + 1 + tsz A) ρ (some (wtQ Q k)) (zM (zv A (k + 1) ρ none s) 0))) (zv B (k + 1 + tsz A) ρ none s)
      | some d => zTh (zv A (k + 1) ρ (some d) s) (zv B (k + 1 + tsz A) ρ (some d) (zM (zv A (k + 1) ρ (some d) s) 0)))
    else (match m with
      | none => zPa (zSl (hs (k + 1)) (¬ hs (k + 1)) (zv A (k + 1) ρ none s) (zK 0 s)) (zSl (hs (k + 1 + tsz A)) (¬ hs (k + 1 + tsz A)) (zv B (k + 1 + tsz A) ρ none s) (zK 0 s))
      | some d => zPa (zv A (k + 1) ρ (some d) s) (zv B (k + 1 + tsz A) ρ (some d) s))
  | _, _, _, _, s => zK 0 s
end ZV
/-! what holds of every meaning -/
/-- it is sure of what it must do; a code that it must end with is the only one; what must be emitted may be; with code 0 no pause is chosen -/
def zOk (s : Prop) (e : zvT) : Prop := (∀ c, zM e c → s) ∧ (∀ i, zS e i → s) ∧ (zD e → s) ∧ (∀ p, zN e p → s) ∧ (∀ c, zM e c → ∀ d, zC e d ↔ d = c) ∧ (∀ i, zS e i → zE e i) ∧ (zM e 0 → ∀ p, ¬ zN e p)
theorem zOk_s {s s' : Prop} {e : zvT} (h : zOk s e) (f : s → s') : zOk s' e := ⟨fun c z => f (h.1 c z), fun i z => f (h.2.1 i z), fun z => f (h.2.2.1 z), fun p z => f (h.2.2.2.1 p z), h.2.2.2.2⟩
theorem zK_ok {c : Nat} {s : Prop} : zOk s (zK c s) := ⟨fun _ z => z.1, fun _ z => z.elim, fun z => z.elim, fun _ z => z.elim, fun d z e => by rw [z.2]; exact Iff.rfl, fun _ z => z.elim, fun _ _ z => z.elim⟩
theorem zP_ok {N : Nat → Prop} {s : Prop} : zOk s (zP N s) := ⟨fun _ z => z.1, fun _ z => z.elim, fun z => z.elim, fun _ z => z.1, fun d z e => by rw [z.2]; exact Iff.rfl, fun _ z => z.elim, fun z => by have := z.2; omega⟩
theorem zEm_ok {i : Nat} {s : Prop} : zOk s (zEm i s) := ⟨fun _ z => z.1, fun _ z => z.1, fun z => z.elim, fun _ z => z.elim, fun d z e => by rw [z.2]; exact Iff.rfl, fun _ z => z.2, fun _ _ z => z.elim⟩
theorem zTh_ok {s : Prop} {a b : zvT} (ha : zOk s a) (hb : zOk (zM a 0) b) : zOk s (zTh a b) := by
  obtain ⟨a1, a2, a3, a4, a5, a6, a7⟩ := ha
  obtain ⟨b1, b2, b3, b4, b5, b6, b7⟩ := hb
  refine ⟨fun c z => z.elim (fun z => a1 0 z.1) (fun z => a1 c z.2), fun i z => z.elim (a2 i) (fun z => a1 0 (b2 i z.2)), fun z => z.elim a3 (fun z => a1 0 (b3 z.2)), fun p z => z.elim (a4 p) (fun z => a1 0 (b4 p z.2)), fun c z d => ?_, fun i z => z.elim (fun z => Or.inl (a6 i z)) (fun z => Or.inr ⟨z.1, b6 i z.2⟩), fun z p y => ?_⟩
  · rcases z with ⟨z1, z2⟩ | ⟨z1, z2⟩
    · have h1 := a5 0 z1
      have h2 := b5 c z2 d
      refine ⟨fun y => ?_, fun y => Or.inr ⟨(h1 0).mpr rfl, h2.mpr y⟩⟩
      rcases y with ⟨y1, y2⟩ | ⟨-, y2⟩
      · exact absurd ((h1 d).mp y2) y1
      · exact h2.mp y2
    · have h1 := a5 c z2
      refine ⟨fun y => ?_, fun y => Or.inl ⟨by rw [y]; exact z1, (h1 d).mpr y⟩⟩
      rcases y with ⟨-, y2⟩ | ⟨y1, -⟩
      · exact (h1 d).mp y2
      · exact absurd ((h1 0).mp y1).symm z1
  · rcases z with ⟨z1, z2⟩ | ⟨z1, -⟩
    · rcases y with y | y
      · exact a7 z1 p y
      · exact b7 z2 p y.2
    · exact z1 rfl
theorem zSl_ok {s : Prop} {p q : Prop} {a b : zvT} (ha : zOk s a) (hb : zOk s b) (hx : ∀ c, (p ∧ zM a c → ¬ q) ∧ (q ∧ zM b c → ¬ p)) : zOk s (zSl p q a b) := by
  obtain ⟨a1, a2, a3, a4, a5, a6, a7⟩ := ha
  obtain ⟨b1, b2, b3, b4, b5, b6, b7⟩ := hb
  refine ⟨fun c z => z.elim (fun z => a1 c z.2) (fun z => b1 c z.2), fun i z => z.elim (fun z => a2 i z.2) (fun z => b2 i z.2), fun z => z.elim (fun z => a3 z.2) (fun z => b3 z.2), fun i z => z.elim (fun z => a4 i z.2) (fun z => b4 i z.2), fun c z d => ?_, fun i z => z.elim (fun z => Or.inl ⟨z.1, a6 i z.2⟩) (fun z => Or.inr ⟨z.1, b6 i z.2⟩), fun z j y => ?_⟩
  · rcases z with z | z
    · have nq := (hx c).1 z
      refine ⟨fun y => y.elim (fun y => (a5 c z.2 d).mp y.2) (fun y => absurd y.1 nq), fun y => Or.inl ⟨z.1, (a5 c z.2 d).mpr y⟩⟩
    · have np := (hx c).2 z
      refine ⟨fun y => y.elim (fun y => absurd y.1 np) (fun y => (b5 c z.2 d).mp y.2), fun y => Or.inr ⟨z.1, (b5 c z.2 d).mpr y⟩⟩
  · rcases z with z | z
    · have nq := (hx 0).1 z
      exact y.elim (fun y => a7 z.2 j y.2) (fun y => nq y.1)
    · have np := (hx 0).2 z
      exact y.elim (fun y => np y.1) (fun y => b7 z.2 j y.2)
theorem zPa_ok {s : Prop} {a b : zvT} (ha : zOk s a) (hb : zOk s b) : zOk s (zPa a b) := by
  obtain ⟨a1, a2, a3, a4, a5, a6, a7⟩ := ha
  obtain ⟨b1, b2, b3, b4, b5, b6, b7⟩ := hb
  refine ⟨fun c ⟨x, y, z, _⟩ => a1 x z, fun i z => z.elim (a2 i) (b2 i), fun z => z.elim a3 b3, fun i z => z.elim (a4 i) (b4 i), fun c ⟨x, y, zx, zy, e⟩ d => ?_, fun i z => z.imp (a6 i) (b6 i), fun ⟨x, y, zx, zy, e⟩ p z => ?_⟩
  · have h1 := a5 x zx
    have h2 := b5 y zy
    show ((zC a d ∧ ∃ i, i ≤ d ∧ zC b i) ∨ (zC b d ∧ ∃ i, i ≤ d ∧ zC a i)) ↔ d = c
    constructor
    · rintro (⟨u, i, u1, u2⟩ | ⟨u, i, u1, u2⟩)
      · have := (h1 d).mp u
        have := (h2 i).mp u2
        omega
      · have := (h2 d).mp u
        have := (h1 i).mp u2
        omega
    · intro ed
      by_cases c1 : y ≤ x
      · exact Or.inl ⟨(h1 d).mpr (by omega), y, by omega, (h2 y).mpr rfl⟩
      · exact Or.inr ⟨(h2 d).mpr (by omega), x, by omega, (h1 x).mpr rfl⟩
  · have ex : x = 0 := by omega
    have ey : y = 0 := by omega
    subst ex
    subst ey
    exact z.elim (a7 zx p) (b7 zy p)
theorem zTr_ok {s : Prop} {a : zvT} (ha : zOk s a) : zOk s (zTr a) := by
  obtain ⟨a1, a2, a3, a4, a5, a6, a7⟩ := ha
  refine ⟨fun c z => ?_, a2, a3, fun p z => a4 p z.1, fun c z d => ?_, a6, fun z p y => ?_⟩
  · rcases z with ⟨-, z | z⟩ | ⟨-, z⟩ | ⟨-, z⟩ <;> exact a1 _ z
  · show ((d = 0 ∧ (zC a 0 ∨ zC a 2)) ∨ (d = 1 ∧ zC a 1) ∨ (2 ≤ d ∧ zC a (d + 1))) ↔ d = c
    rcases z with ⟨e, z | z⟩ | ⟨e, z⟩ | ⟨e, z⟩
    · have h := a5 _ z
      rw [h, h, h, h]; omega
    · have h := a5 _ z
      rw [h, h, h, h]; omega
    · have h := a5 _ z
      rw [h, h, h, h]; omega
    · have h := a5 _ z
      rw [h, h, h, h]; omega
  · rcases z with ⟨-, z | z⟩ | ⟨e, -⟩ | ⟨e, -⟩
    · exact a7 z p y.1
    · exact y.2 z
    · omega
    · omega
theorem zLc_ok {σ : Nat → Int32} {i : Nat} {s : Prop} {a : zvT} (ha : zOk s a) : zOk s (zLc σ i s a) := by
  obtain ⟨a1, a2, a3, a4, a5, a6, a7⟩ := ha
  exact ⟨a1, a2, fun z => z.elim (fun z => z.1) a3, a4, a5, a6, a7⟩
section ZVO
variable {Q : Nat → Nat → Int32} {tv : (Nat → Nat) → Int32 → Int32} {σ : Nat → Int32} {hs : Nat → Prop} {sel : Nat → Prop}
theorem zv_ok : ∀ (T : tT) (k : Nat) (ρ : Nat → Nat) (m : Option Nat) (s : Prop), zOk s (zv Q tv σ hs sel T k ρ m s)
  | .const x, k, ρ, m, s => by
    unfold zv
    by_cases c1 : (lT x).1 = 1
    · rw [if_pos c1]
      cases m with
      | none => exact zK_ok
      | some d => exact zP_ok
    · rw [if_neg c1]
      by_cases c2 : (lT x).1 = 2
      · rw [if_pos c2]; exact zEm_ok
      · rw [if_neg c2]
        by_cases c3 : (lT x).1 = 9
        · rw [if_pos c3]; exact zK_ok
        · rw [if_neg c3]; exact zK_ok
  | .unary x A, k, ρ, m, s => by
    unfold zv
    by_cases c4 : (lT x).1 = 4
    · rw [if_pos c4]
      cases m with
      | none => exact zSl_ok (zOk_s (zv_ok A _ _ _ _) And.left) (zOk_s zP_ok And.left) (fun c => ⟨fun z y => y ((zv_ok A _ _ _ _).1 c z.2).2, fun z y => y z.2.1.2⟩)
      | some d => exact zv_ok A _ _ _ _
    · rw [if_neg c4]
      by_cases c6 : (lT x).1 = 6
      · rw [if_pos c6]
        cases m with
        | none => exact zTh_ok (zv_ok A _ _ _ _) (zv_ok A _ _ _ _)
        | some d => exact zv_ok A _ _ _ _
      · rw [if_neg c6]
        by_cases c8 : (lT x).1 = 8
        · rw [if_pos c8]; exact zTr_ok (zv_ok A _ _ _ _)
        · rw [if_neg c8]
          cases m with
          | none => exact zLc_ok (zv_ok A _ _ _ _)
          | some d => exact zLc_ok (zv_ok A _ _ _ _)
  | .binary x A B, k, ρ, m, s => by
    unfold zv
    by_cases c3 : (lT x).1 = 3
    · rw [if_pos c3]
      cases m with
      | none => exact zSl_ok (zv_ok A _ _ _ _) (zv_ok B _ _ _ _) (fun c => ⟨fun z y => y z.1, fun z y => z.1 y⟩)
      | some d => exact zSl_ok (zOk_s (zv_ok A _ _ _ _) And.left) (zOk_s (zv_ok B _ _ _ _) And.left) (fun c => ⟨fun z y => y ((zv_ok A _ _ _ _).1 c z.2).2, fun z y => y ((zv_ok B _ _ _ _).1 c z.2).2⟩)
    · rw [if_neg c3]
      by_cases c5 : (lT x).1 = 5
      · rw [if_pos c5]
        cases m with
        | none => exact zSl_ok (zTh_ok (zv_ok A _ _ _ _) (zv_ok B _ _ _ _)) (zv_ok B _ _ _ _) (fun c => ⟨fun z y => y z.1, fun z y => z.1 y⟩)
        | some d => exact zTh_ok (zv_ok A _ _ _ _) (zv_ok B _ _ _ _)
      · rw [if_neg c5]
        cases m with
        | none => exact zPa_ok (zSl_ok (zv_ok A _ _ _ _) zK_ok (fun c => ⟨fun z y => y z.1, fun z y => z.1 y⟩)) (zSl_ok (zv_ok B _ _ _ _) zK_ok (fun c => ⟨fun z y => y z.1, fun z y => z.1 y⟩))
        | some d => exact zPa_ok (zv_ok A _ _ _ _) (zv_ok B _ _ _ _)
  | .nodeWithAntiquot .., _, _, _, _ => zK_ok
  | .node .., _, _, _, _ => zK_ok
  | .trailingNode .., _, _, _, _ => zK_ok
  | .symbol .., _, _, _, _ => zK_ok
  | .nonReservedSymbol .., _, _, _, _ => zK_ok
  | .cat .., _, _, _, _ => zK_ok
  | .parser .., _, _, _, _ => zK_ok
  | .sepBy .., _, _, _, _ => zK_ok
  | .sepBy1 .., _, _, _, _ => zK_ok
  | .unicodeSymbol .., _, _, _, _ => zK_ok
end ZVO
