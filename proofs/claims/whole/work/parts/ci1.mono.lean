/-! the more is known, the more must and the less can happen -/
/-- b knows more than a -/
def zle (a b : zvT) : Prop := (∀ c, zC b c → zC a c) ∧ (∀ c, zM a c → zM b c) ∧ (∀ i, zE b i → zE a i) ∧ (∀ i, zS a i → zS b i) ∧ (∀ i, zV b i → zV a i)
theorem zle_rf {a : zvT} : zle a a := ⟨fun _ z => z, fun _ z => z, fun _ z => z, fun _ z => z, fun _ z => z⟩
theorem zK_le {c : Nat} {s s' : Prop} (h : s → s') : zle (zK c s) (zK c s') := ⟨fun _ z => z, fun _ z => ⟨h z.1, z.2⟩, fun _ z => z, fun _ z => z, fun _ z => z⟩
theorem zP_le {N : Nat → Prop} {s s' : Prop} (h : s → s') : zle (zP N s) (zP N s') := ⟨fun _ z => z, fun _ z => ⟨h z.1, z.2⟩, fun _ z => z, fun _ z => z, fun _ z => z⟩
theorem zEm_le {i : Nat} {s s' : Prop} (h : s → s') : zle (zEm i s) (zEm i s') := ⟨fun _ z => z, fun _ z => ⟨h z.1, z.2⟩, fun _ z => z, fun _ z => ⟨h z.1, z.2⟩, fun _ z => z⟩
theorem zTh_le {a1 a2 b1 b2 : zvT} (h1 : zle a1 b1) (h2 : zle a2 b2) (ha : ∀ i, zS a2 i → zM a1 0) (hb : zM b1 0 → zC b1 0) : zle (zTh a1 a2) (zTh b1 b2) := by
  obtain ⟨p1, p2, p3, p4, p5⟩ := h1
  obtain ⟨q1, q2, q3, q4, q5⟩ := h2
  exact ⟨fun c z => z.imp (fun z => ⟨z.1, p1 c z.2⟩) (fun z => ⟨p1 0 z.1, q1 c z.2⟩), fun c z => z.imp (fun z => ⟨p2 0 z.1, q2 c z.2⟩) (fun z => ⟨z.1, p2 c z.2⟩), fun i z => z.imp (p3 i) (fun z => ⟨p1 0 z.1, q3 i z.2⟩), fun i z => z.imp (p4 i) (fun z => ⟨hb (p2 0 (ha i z.2)), q4 i z.2⟩), fun i z => z.imp (p5 i) (fun z => ⟨p1 0 z.1, q5 i z.2⟩)⟩
theorem zSl_le {p q p' q' : Prop} {a1 a2 b1 b2 : zvT} (h1 : zle a1 b1) (h2 : zle a2 b2) (hp : p' → p) (hq : q' → q) (hM : ∀ c, (zM a1 c → p → p') ∧ (zM a2 c → q → q')) (hS : ∀ i, (zS a1 i → p → p') ∧ (zS a2 i → q → q')) : zle (zSl p q a1 a2) (zSl p' q' b1 b2) := by
  obtain ⟨p1, p2, p3, p4, p5⟩ := h1
  obtain ⟨q1, q2, q3, q4, q5⟩ := h2
  exact ⟨fun c z => z.imp (fun z => ⟨hp z.1, p1 c z.2⟩) (fun z => ⟨hq z.1, q1 c z.2⟩), fun c z => z.imp (fun z => ⟨(hM c).1 z.2 z.1, p2 c z.2⟩) (fun z => ⟨(hM c).2 z.2 z.1, q2 c z.2⟩), fun c z => z.imp (fun z => ⟨hp z.1, p3 c z.2⟩) (fun z => ⟨hq z.1, q3 c z.2⟩), fun c z => z.imp (fun z => ⟨(hS c).1 z.2 z.1, p4 c z.2⟩) (fun z => ⟨(hS c).2 z.2 z.1, q4 c z.2⟩), fun c z => z.imp (fun z => ⟨hp z.1, p5 c z.2⟩) (fun z => ⟨hq z.1, q5 c z.2⟩)⟩
theorem xPa_le {X Y X' Y' : Nat → Prop} (h1 : ∀ c, X' c → X c) (h2 : ∀ c, Y' c → Y c) {c : Nat} (h : xPa X' Y' c) : xPa X Y c := by
  rcases h with ⟨u, i, u1, u2⟩ | ⟨u, i, u1, u2⟩
  · exact Or.inl ⟨h1 c u, i, u1, h2 i u2⟩
  · exact Or.inr ⟨h2 c u, i, u1, h1 i u2⟩
theorem xCa_le {X X' : Nat → Prop} (h1 : ∀ c, X' c → X c) {c : Nat} (h : xCa X' c) : xCa X c := by
  rcases h with ⟨e, z | z⟩ | ⟨e, z⟩ | ⟨e, z⟩
  · exact Or.inl ⟨e, Or.inl (h1 _ z)⟩
  · exact Or.inl ⟨e, Or.inr (h1 _ z)⟩
  · exact Or.inr (Or.inl ⟨e, h1 _ z⟩)
  · exact Or.inr (Or.inr ⟨e, h1 _ z⟩)
theorem zPa_le {a1 a2 b1 b2 : zvT} (h1 : zle a1 b1) (h2 : zle a2 b2) : zle (zPa a1 a2) (zPa b1 b2) := by
  obtain ⟨p1, p2, p3, p4, p5⟩ := h1
  obtain ⟨q1, q2, q3, q4, q5⟩ := h2
  exact ⟨fun c z => xPa_le p1 q1 z, fun c ⟨x, y, zx, zy, e⟩ => ⟨x, y, p2 x zx, q2 y zy, e⟩, fun i z => z.imp (p3 i) (q3 i), fun i z => z.imp (p4 i) (q4 i), fun i z => z.imp (p5 i) (q5 i)⟩
theorem zTr_le {a b : zvT} (h : zle a b) : zle (zTr a) (zTr b) := ⟨fun _ z => xCa_le h.1 z, fun _ z => xCa_le h.2.1 z, h.2.2.1, h.2.2.2.1, h.2.2.2.2⟩
theorem zLc_le {σ μ : Nat → Int32} {i : Nat} {s s' : Prop} {a b : zvT} (h : zle a b) : zle (zLc σ i s a) (zLc μ i s' b) := ⟨h.1, h.2.1, h.2.2.1, h.2.2.2.1, fun j z => z.imp id (h.2.2.2.2 j)⟩
/-- values: the same, or unknown -/
def vle (x y : Int32) : Prop := x = 2 ∨ x = y
section MONO
variable {Q : Nat → Nat → Int32} {tv tv' : (Nat → Nat) → Int32 → Int32} {σ μ : Nat → Int32} {hs : Nat → Prop} {sel : Nat → Prop}
theorem zv_le (ht : ∀ ρ n, vle (tv ρ n) (tv' ρ n)) : ∀ (T : tT) (k : Nat) (ρ : Nat → Nat) (m : Option Nat) (s s' : Prop), (s → s') → zle (zv Q tv σ hs sel T k ρ m s) (zv Q tv' μ hs sel T k ρ m s')
  | .const x, k, ρ, m, s, s', hs' => by
    unfold zv
    by_cases c1 : (lT x).1 = 1
    · rw [if_pos c1, if_pos c1]
      cases m with
      | none => exact zK_le hs'
      | some d => exact zP_le hs'
    · rw [if_neg c1, if_neg c1]
      by_cases c2 : (lT x).1 = 2
      · rw [if_pos c2, if_pos c2]; exact zEm_le hs'
      · rw [if_neg c2, if_neg c2]
        by_cases c3 : (lT x).1 = 9
        · rw [if_pos c3, if_pos c3]; exact zK_le hs'
        · rw [if_neg c3, if_neg c3]; exact zK_le hs'
  | .unary x A, k, ρ, m, s, s', hs' => by
    have H := ht ρ (Q 54 k)
    unfold zv
    by_cases c4 : (lT x).1 = 4
    · rw [if_pos c4, if_pos c4]
      cases m with
      | none =>
        have okA := zv_ok (Q := Q) (tv := tv) (σ := σ) (hs := hs) (sel := sel) A (k + 1) ρ none (s ∧ tv ρ (Q 54 k) = 0)
        have f0 : s ∧ tv ρ (Q 54 k) = 0 → s' ∧ tv' ρ (Q 54 k) = 0 := fun z => by
          rcases H with H | H
          · rw [H] at z; exact absurd z.2 (by decide)
          · rw [← H]; exact ⟨hs' z.1, z.2⟩
        have f1 : s ∧ tv ρ (Q 54 k) = 1 → s' ∧ tv' ρ (Q 54 k) = 1 := fun z => by
          rcases H with H | H
          · rw [H] at z; exact absurd z.2 (by decide)
          · rw [← H]; exact ⟨hs' z.1, z.2⟩
        have g0 : ¬ tv' ρ (Q 54 k) = 1 → ¬ tv ρ (Q 54 k) = 1 := fun z y => by
          rcases H with H | H
          · rw [H] at y; exact absurd y (by decide)
          · exact z (H.symm.trans y)
        have g1 : ¬ tv' ρ (Q 54 k) = 0 → ¬ tv ρ (Q 54 k) = 0 := fun z y => by
          rcases H with H | H
          · rw [H] at y; exact absurd y (by decide)
          · exact z (H.symm.trans y)
        refine zSl_le (zv_le ht A _ _ _ _ _ f0) (zP_le f1) g0 g1 (fun c => ⟨fun z _ => ?_, fun z _ => ?_⟩) (fun c => ⟨fun z _ => ?_, fun z _ => ?_⟩)
        · rw [(f0 (okA.1 c z)).2]; decide
        · rw [(f1 z.1).2]; decide
        · rw [(f0 (okA.2.1 c z)).2]; decide
        · exact z.elim
      | some d => exact zv_le ht A _ _ _ _ _ hs'
    · rw [if_neg c4, if_neg c4]
      by_cases c6 : (lT x).1 = 6
      · rw [if_pos c6, if_pos c6]
        cases m with
        | none =>
          have ih := zv_le ht A (k + 1) ρ none s s' hs'
          refine zTh_le ih (zv_le ht A _ _ _ _ _ (ih.2.1 0)) (fun i z => (zv_ok A _ _ _ _).2.1 i z) (fun z => ((zv_ok A _ _ _ _).2.2.2.2.1 0 z 0).mpr rfl)
        | some d => exact zv_le ht A _ _ _ _ _ hs'
      · rw [if_neg c6, if_neg c6]
        by_cases c8 : (lT x).1 = 8
        · rw [if_pos c8, if_pos c8]; exact zTr_le (zv_le ht A _ _ _ _ _ hs')
        · rw [if_neg c8, if_neg c8]
          cases m with
          | none => exact zLc_le (zv_le ht A _ _ _ _ _ hs')
          | some d => exact zLc_le (zv_le ht A _ _ _ _ _ hs')
  | .binary x A B, k, ρ, m, s, s', hs' => by
    have H := ht ρ (Q 54 k)
    unfold zv
    by_cases c3 : (lT x).1 = 3
    · rw [if_pos c3, if_pos c3]
      cases m with
      | none => exact zSl_le (zv_le ht A _ _ _ _ _ hs') (zv_le ht B _ _ _ _ _ hs') id id (fun c => ⟨fun _ z => z, fun _ z => z⟩) (fun c => ⟨fun _ z => z, fun _ z => z⟩)
      | some d =>
        have okA := zv_ok (Q := Q) (tv := tv) (σ := σ) (hs := hs) (sel := sel) A (k + 1) ρ (some d) (s ∧ tv ρ (Q 54 k) = 1)
        have okB := zv_ok (Q := Q) (tv := tv) (σ := σ) (hs := hs) (sel := sel) B (k + 1 + tsz A) ρ (some d) (s ∧ tv ρ (Q 54 k) = 0)
        have f0 : s ∧ tv ρ (Q 54 k) = 0 → s' ∧ tv' ρ (Q 54 k) = 0 := fun z => by
          rcases H with H | H
          · rw [H] at z; exact absurd z.2 (by decide)
          · rw [← H]; exact ⟨hs' z.1, z.2⟩
        have f1 : s ∧ tv ρ (Q 54 k) = 1 → s' ∧ tv' ρ (Q 54 k) = 1 := fun z => by
          rcases H with H | H
          · rw [H] at z; exact absurd z.2 (by decide)
          · rw [← H]; exact ⟨hs' z.1, z.2⟩
        have g0 : ¬ tv' ρ (Q 54 k) = 1 → ¬ tv ρ (Q 54 k) = 1 := fun z y => by
          rcases H with H | H
          · rw [H] at y; exact absurd y (by decide)
          · exact z (H.symm.trans y)
        have g1 : ¬ tv' ρ (Q 54 k) = 0 → ¬ tv ρ (Q 54 k) = 0 := fun z y => by
          rcases H with H | H
          · rw [H] at y; exact absurd y (by decide)
          · exact z (H.symm.trans y)
        refine zSl_le (zv_le ht A _ _ _ _ _ f1) (zv_le ht B _ _ _ _ _ f0) g1 g0 (fun c => ⟨fun z _ => ?_, fun z _ => ?_⟩) (fun c => ⟨fun z _ => ?_, fun z _ => ?_⟩)
        · rw [(f1 (okA.1 c z)).2]; decide
        · rw [(f0 (okB.1 c z)).2]; decide
        · rw [(f1 (okA.2.1 c z)).2]; decide
        · rw [(f0 (okB.2.1 c z)).2]; decide
    · rw [if_neg c3, if_neg c3]
      by_cases c5 : (lT x).1 = 5
      · rw [if_pos c5, if_pos c5]
        cases m with
        | none =>
          have ih := zv_le ht A (k + 1) ρ none s s' hs'
          exact zSl_le (zTh_le ih (zv_le ht B _ _ _ _ _ (ih.2.1 0)) (fun i z => (zv_ok B _ _ _ _).2.1 i z) (fun z => ((zv_ok A _ _ _ _).2.2.2.2.1 0 z 0).mpr rfl)) (zv_le ht B _ _ _ _ _ hs') id id (fun c => ⟨fun _ z => z, fun _ z => z⟩) (fun c => ⟨fun _ z => z, fun _ z => z⟩)
        | some d =>
          have ih := zv_le ht A (k + 1) ρ (some d) s s' hs'
          exact zTh_le ih (zv_le ht B _ _ _ _ _ (ih.2.1 0)) (fun i z => (zv_ok B _ _ _ _).2.1 i z) (fun z => ((zv_ok A _ _ _ _).2.2.2.2.1 0 z 0).mpr rfl)
      · rw [if_neg c5, if_neg c5]
        cases m with
        | none => exact zPa_le (zSl_le (zv_le ht A _ _ _ _ _ hs') (zK_le hs') id id (fun c => ⟨fun _ z => z, fun _ z => z⟩) (fun c => ⟨fun _ z => z, fun _ z => z⟩)) (zSl_le (zv_le ht B _ _ _ _ _ hs') (zK_le hs') id id (fun c => ⟨fun _ z => z, fun _ z => z⟩) (fun c => ⟨fun _ z => z, fun _ z => z⟩))
        | some d => exact zPa_le (zv_le ht A _ _ _ _ _ hs') (zv_le ht B _ _ _ _ _ hs')
  | .nodeWithAntiquot .., _, _, _, _, _, h => zK_le h
  | .node .., _, _, _, _, _, h => zK_le h
  | .trailingNode .., _, _, _, _, _, h => zK_le h
  | .symbol .., _, _, _, _, _, h => zK_le h
  | .nonReservedSymbol .., _, _, _, _, _, h => zK_le h
  | .cat .., _, _, _, _, _, h => zK_le h
  | .parser .., _, _, _, _, _, h => zK_le h
  | .sepBy .., _, _, _, _, _, h => zK_le h
  | .sepBy1 .., _, _, _, _, _, h => zK_le h
  | .unicodeSymbol .., _, _, _, _, _, h => zK_le h
end MONO
/-! tests: three values -/
def n3 (a : Int32) : Int32 := if a = 2 then 2 else 1 - a
def an3 (a b : Int32) : Int32 := if a = 0 ∨ b = 0 then 0 else if a = 2 ∨ b = 2 then 2 else 1
def or3 (a b : Int32) : Int32 := if a = 1 ∨ b = 1 then 1 else if a = 2 ∨ b = 2 then 2 else 0
/-- the value of the test whose piece is k, with g pieces at most on the way -/
def tvF (Q : Nat → Nat → Int32) (val : Nat → Int32) : Nat → Nat → Int32
  | 0, _ => 2
  | g + 1, k => if Q 63 k = 0 then val (Q 64 k).toInt.toNat else if Q 63 k = 1 then n3 (tvF Q val g (Q 64 k).toInt.toNat) else if Q 63 k = 2 then an3 (tvF Q val g (Q 64 k).toInt.toNat) (tvF Q val g (Q 65 k).toInt.toNat) else or3 (tvF Q val g (Q 64 k).toInt.toNat) (tvF Q val g (Q 65 k).toInt.toNat)
def tvQ (Q : Nat → Nat → Int32) (σ : Nat → Int32) (ρ : Nat → Nat) (n : Int32) : Int32 := tvF Q (fun s => σ (ρ s)) 1001 n.toInt.toNat
theorem n3_le {a b : Int32} (h : vle a b) : vle (n3 a) (n3 b) := by
  rcases h with h | h
  · left; unfold n3; rw [if_pos h]
  · right; rw [h]
theorem an3_le {a b a' b' : Int32} (h : vle a a') (g : vle b b') : vle (an3 a b) (an3 a' b') := by
  unfold an3
  by_cases c : a = 0 ∨ b = 0
  · right
    rw [if_pos c, if_pos (c.imp (fun c => ?_) (fun c => ?_))]
    · rcases h with h | h
      · rw [h] at c; exact absurd c (by decide)
      · exact h.symm.trans c
    · rcases g with h | h
      · rw [h] at c; exact absurd c (by decide)
      · exact h.symm.trans c
  · rw [if_neg c]
    by_cases d : a = 2 ∨ b = 2
    · left; rw [if_pos d]
    · right
      have h := h.resolve_left (fun z => d (Or.inl z))
      have g := g.resolve_left (fun z => d (Or.inr z))
      rw [← h, ← g, if_neg c]
theorem or3_le {a b a' b' : Int32} (h : vle a a') (g : vle b b') : vle (or3 a b) (or3 a' b') := by
  unfold or3
  by_cases c : a = 1 ∨ b = 1
  · right
    rw [if_pos c, if_pos (c.imp (fun c => ?_) (fun c => ?_))]
    · rcases h with h | h
      · rw [h] at c; exact absurd c (by decide)
      · exact h.symm.trans c
    · rcases g with h | h
      · rw [h] at c; exact absurd c (by decide)
      · exact h.symm.trans c
  · rw [if_neg c]
    by_cases d : a = 2 ∨ b = 2
    · left; rw [if_pos d]
    · right
      have h := h.resolve_left (fun z => d (Or.inl z))
      have g := g.resolve_left (fun z => d (Or.inr z))
      rw [← h, ← g, if_neg c]
theorem tvF_le {Q : Nat → Nat → Int32} {v v' : Nat → Int32} (h : ∀ s, vle (v s) (v' s)) : ∀ (g k : Nat), vle (tvF Q v g k) (tvF Q v' g k)
  | 0, k => Or.inl rfl
  | g + 1, k => by
    unfold tvF
    by_cases c0 : Q 63 k = 0
    · rw [if_pos c0, if_pos c0]; exact h _
    · rw [if_neg c0, if_neg c0]
      by_cases c1 : Q 63 k = 1
      · rw [if_pos c1, if_pos c1]; exact n3_le (tvF_le h g _)
      · rw [if_neg c1, if_neg c1]
        by_cases c2 : Q 63 k = 2
        · rw [if_pos c2, if_pos c2]; exact an3_le (tvF_le h g _) (tvF_le h g _)
        · rw [if_neg c2, if_neg c2]; exact or3_le (tvF_le h g _) (tvF_le h g _)
/-- values of a test are 0, 1, 2 -/
def v3 (x : Int32) : Prop := x = 0 ∨ x = 1 ∨ x = 2
theorem tvF_3 {Q : Nat → Nat → Int32} {v : Nat → Int32} (h : ∀ s, v3 (v s)) : ∀ (g k : Nat), v3 (tvF Q v g k)
  | 0, k => Or.inr (Or.inr rfl)
  | g + 1, k => by
    unfold tvF
    by_cases c0 : Q 63 k = 0
    · rw [if_pos c0]; exact h _
    · rw [if_neg c0]
      have e1 := tvF_3 (Q := Q) h g (Q 64 k).toInt.toNat
      by_cases c1 : Q 63 k = 1
      · rw [if_pos c1]
        rcases e1 with e | e | e <;> (rw [e]; unfold v3; decide)
      · rw [if_neg c1]
        have e2 := tvF_3 (Q := Q) h g (Q 65 k).toInt.toNat
        by_cases c2 : Q 63 k = 2
        · rw [if_pos c2]
          rcases e1 with e | e | e <;> rcases e2 with f | f | f <;> (rw [e, f]; unfold v3; decide)
        · rw [if_neg c2]
          rcases e1 with e | e | e <;> rcases e2 with f | f | f <;> (rw [e, f]; unfold v3; decide)
