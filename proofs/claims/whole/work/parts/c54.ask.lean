/-! what the reference's reader asks of a token -/
theorem cmp0 {x y : Int64} : dc_cmp x y = 0 ↔ x = y := by
  unfold dc_cmp
  constructor
  · intro h
    by_cases c1 : x < y
    · rw [if_pos c1] at h; exact absurd h (by decide)
    · rw [if_neg c1] at h
      by_cases c2 : x = y
      · exact c2
      · rw [if_neg c2] at h; exact absurd h (by decide)
  · intro h
    subst h
    rw [if_neg (Int64.lt_irrefl), if_pos rfl]
theorem isWord_e (M : md_S) (w : Int64) : mm_isWord M w = some (if M.1 6 = 1 ∧ M.2.2.1 = w then 1 else 0) := by
  have k1 : mm_isWord_L22 M 1 = some 1 := by
    show (dc_zb 1).bind (fun _ => some (1 : Int32)) = some 1
    rw [zb1]; rfl
  have k0 : mm_isWord_L21 M = some 0 := by
    show (dc_zb 0).bind (fun _ => some (0 : Int32)) = some 0
    rw [zb0]; rfl
  delta mm_isWord
  by_cases c1 : M.1 6 = 1
  · rw [if_pos c1]
    by_cases c2 : M.2.2.1 = w
    · rw [if_pos (cmp0.mpr c2), if_pos ⟨c1, c2⟩, k1]
    · rw [if_neg (fun z => c2 (cmp0.mp z)), if_neg (fun z => c2 z.2), k0]
  · rw [if_neg c1, if_neg (fun z => c1 z.1), k0]
theorem isSign_e (M : md_S) (c : Int32) : mm_isSign M c = some (if M.1 6 = 2 ∧ M.2.2.1 = Int32.toInt64 c then 1 else 0) := by
  have k1 : mm_isSign_L23 M 1 = some 1 := by
    show (dc_zb 1).bind (fun _ => some (1 : Int32)) = some 1
    rw [zb1]; rfl
  have k0 : mm_isSign_L22 M = some 0 := by
    show (dc_zb 0).bind (fun _ => some (0 : Int32)) = some 0
    rw [zb0]; rfl
  delta mm_isSign
  by_cases c1 : M.1 6 = 2
  · rw [if_pos c1]
    by_cases c2 : M.2.2.1 = Int32.toInt64 c
    · rw [if_pos (cmp0.mpr c2), if_pos ⟨c1, c2⟩, k1]
    · rw [if_neg (fun z => c2 (cmp0.mp z)), if_neg (fun z => c2 z.2), k0]
  · rw [if_neg c1, if_neg (fun z => c1 z.1), k0]
theorem kstep {P : Prop} [Decidable P] {τ : Type} {A B : Option τ} : ((some (if P then (1 : Int32) else 0)).bind fun q => if q = 0 then A else B) = if P then B else A := by
  by_cases h : P
  · rw [if_pos h, if_pos h, Option.bind_some, if_neg (by decide)]
  · rw [if_neg h, if_neg h, Option.bind_some, if_pos rfl]
def ck (M : md_S) : List Int64 → Option Int32
  | [] => some 0
  | w :: r => if M.1 6 = 1 ∧ M.2.2.1 = w then some 1 else ck M r
theorem ck_e (M : md_S) : ∀ L : List Int64, ck M L = some (if M.1 6 = 1 ∧ M.2.2.1 ∈ L then 1 else 0)
  | [] => by
    rw [if_neg (fun z => by cases z.2)]
    rfl
  | w :: r => by
    show (if M.1 6 = 1 ∧ M.2.2.1 = w then some 1 else ck M r) = _
    by_cases h : M.1 6 = 1 ∧ M.2.2.1 = w
    · rw [if_pos h, if_pos ⟨h.1, List.mem_cons.mpr (Or.inl h.2)⟩]
    · rw [if_neg h, ck_e M r]
      by_cases g : M.1 6 = 1 ∧ M.2.2.1 ∈ r
      · rw [if_pos g, if_pos ⟨g.1, List.mem_cons_of_mem _ g.2⟩]
      · rw [if_neg g, if_neg]
        rintro ⟨z1, z2⟩
        rcases List.mem_cons.mp z2 with z | z
        · exact h ⟨z1, z⟩
        · exact g ⟨z1, z⟩
set_option maxRecDepth 100000 in
theorem isKept_e (M : md_S) : mm_isKept M = some (if M.1 6 = 1 ∧ M.2.2.1 ∈ kw then 1 else 0) := by
  have k1 : mm_isKept_L260 M = some 1 := by
    show (dc_zb 1).bind (fun _ => some (1 : Int32)) = some 1
    rw [zb1]; rfl
  have k0 : mm_isKept_L265 M 0 = some 0 := by
    show (dc_zb 0).bind (fun _ => some (0 : Int32)) = some 0
    rw [zb0]; rfl
  rw [← ck_e]
  delta mm_isKept
  simp only [isWord_e, kstep, k1, k0]
  rfl
theorem isName_e (M : md_S) : mm_isName M = some (if M.1 6 = 1 ∧ ¬ M.2.2.1 ∈ kw then 1 else 0) := by
  have k1 : mm_isName_L20 M 1 = some 1 := by
    show (dc_zb 1).bind (fun _ => some (1 : Int32)) = some 1
    rw [zb1]; rfl
  have k0 : mm_isName_L19 M = some 0 := by
    show (dc_zb 0).bind (fun _ => some (0 : Int32)) = some 0
    rw [zb0]; rfl
  delta mm_isName
  rw [isKept_e, kstep, k1, k0]
  by_cases c1 : M.1 6 = 1
  · rw [if_pos c1]
    by_cases c2 : M.2.2.1 ∈ kw
    · rw [if_pos ⟨c1, c2⟩, if_neg (fun z => z.2 c2)]
    · rw [if_neg (fun z => c2 z.2), if_pos ⟨c1, c2⟩]
  · rw [if_neg c1, if_neg (fun z => c1 z.1)]
theorem kw_nd : ∀ i, i < 26 → ∀ j, j < 26 → kw.getD i 0 = kw.getD j 0 → i = j := by decide +kernel
theorem sg_nd : ∀ i, i < 5 → ∀ j, j < 5 → sg.getD i 0 = sg.getD j 0 → i = j := by decide +kernel
theorem kw_mem {w : Int64} : w ∈ kw ↔ ∃ i, i < 26 ∧ w = kw.getD i 0 := by
  constructor
  · intro h
    obtain ⟨i, hi⟩ := List.mem_iff_getElem?.mp h
    have hl : i < 26 := (List.getElem?_eq_some_iff.mp hi).1
    refine ⟨i, hl, ?_⟩
    show w = (kw[i]?).getD 0
    rw [hi]
    rfl
  · rintro ⟨i, hi, rfl⟩
    have hl : i < kw.length := hi
    show (kw[i]?).getD 0 ∈ kw
    rw [List.getElem?_eq_getElem hl]
    exact List.getElem_mem hl
section TKS
variable {j : Nat} {s : Int32} {w : Int64}
theorem tk_word (h : tokS (some j) s w) {i : Nat} (hi : i < 26) : (s = 1 ∧ w = kw.getD i 0) ↔ j = i := by
  rcases h with ⟨h1, h2⟩ | ⟨h1, h2, h3⟩ | ⟨h1, h2, h3⟩ | ⟨h1, h2, h3, h4⟩
  · constructor
    · rintro ⟨a, -⟩; rw [h2] at a; exact absurd a (by decide)
    · intro a; omega
  · constructor
    · rintro ⟨-, a⟩; exact absurd a (h3 i hi)
    · intro a; omega
  · constructor
    · rintro ⟨-, a⟩; exact kw_nd j h1 i hi (h3.symm.trans a)
    · intro a; subst a; exact ⟨h2, h3⟩
  · constructor
    · rintro ⟨a, -⟩; rw [h3] at a; exact absurd a (by decide)
    · intro a; omega
theorem tk_sign (h : tokS (some j) s w) {i : Nat} (hi : i < 5) : (s = 2 ∧ w = sg.getD i 0) ↔ j = 26 + i := by
  rcases h with ⟨h1, h2⟩ | ⟨h1, h2, h3⟩ | ⟨h1, h2, h3⟩ | ⟨h1, h2, h3, h4⟩
  · constructor
    · rintro ⟨a, -⟩; rw [h2] at a; exact absurd a (by decide)
    · intro a; omega
  · constructor
    · rintro ⟨a, -⟩; rw [h2] at a; exact absurd a (by decide)
    · intro a; omega
  · constructor
    · rintro ⟨a, -⟩; rw [h2] at a; exact absurd a (by decide)
    · intro a; omega
  · constructor
    · rintro ⟨-, a⟩
      have := sg_nd (j - 26) (by omega) i hi (h4.symm.trans a)
      omega
    · intro a
      refine ⟨h3, ?_⟩
      rw [h4, show j - 26 = i by omega]
theorem tk_kept (h : tokS (some j) s w) : (s = 1 ∧ w ∈ kw) ↔ j < 26 := by
  constructor
  · rintro ⟨a, b⟩
    obtain ⟨i, hi, e⟩ := kw_mem.mp b
    have := (tk_word h hi).mp ⟨a, e⟩
    omega
  · intro a
    have := (tk_word h a).mpr rfl
    exact ⟨this.1, kw_mem.mpr ⟨j, a, this.2⟩⟩
theorem tk_name (h : tokS (some j) s w) : (s = 1 ∧ ¬ w ∈ kw) ↔ j = 31 := by
  constructor
  · rintro ⟨a, b⟩
    rcases h with ⟨h1, h2⟩ | ⟨h1, h2, h3⟩ | ⟨h1, h2, h3⟩ | ⟨h1, h2, h3, h4⟩
    · rw [h2] at a; exact absurd a (by decide)
    · exact h1
    · exact absurd (kw_mem.mpr ⟨j, h1, h3⟩) b
    · rw [h3] at a; exact absurd a (by decide)
  · intro a
    rcases h with ⟨h1, h2⟩ | ⟨h1, h2, h3⟩ | ⟨h1, h2, h3⟩ | ⟨h1, h2, h3, h4⟩
    · omega
    · refine ⟨h2, fun z => ?_⟩
      obtain ⟨i, hi, e⟩ := kw_mem.mp z
      exact h3 i hi e
    · omega
    · omega
theorem tk_end (h : tokS (some j) s w) : s = 0 ↔ j = 32 := by
  rcases h with ⟨h1, h2⟩ | ⟨h1, h2, h3⟩ | ⟨h1, h2, h3⟩ | ⟨h1, h2, h3, h4⟩
  · exact ⟨fun _ => h1, fun _ => h2⟩
  · exact ⟨fun z => by rw [h2] at z; exact absurd z (by decide), fun z => by omega⟩
  · exact ⟨fun z => by rw [h2] at z; exact absurd z (by decide), fun z => by omega⟩
  · exact ⟨fun z => by rw [h3] at z; exact absurd z (by decide), fun z => by omega⟩
theorem tk_bad (h : tokS none s w) : ¬ s = 0 ∧ ¬ s = 1 ∧ ∀ i, i < 5 → ¬ (s = 2 ∧ w = sg.getD i 0) := by
  rcases h with h | ⟨h1, h2⟩
  · rw [h]
    exact ⟨by decide, by decide, fun i _ z => absurd z.1 (by decide)⟩
  · rw [h1]
    exact ⟨by decide, by decide, fun i hi z => h2 i hi z.2⟩
end TKS
