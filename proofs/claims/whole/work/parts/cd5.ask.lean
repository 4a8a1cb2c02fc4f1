/-! the reference's ask: pieces of a test, each ahead of those within it -/
theorem it_un {α β : Type} {step : α → Option (α ⊕ β)} {x : α} {z : β} {q : α ⊕ β} (h : dc_it step x = some z) (e : step x = some q) : itF step q z := by
  rw [dc_it_eq, e, Option.bind_some] at h
  cases q with
  | inl y => exact h
  | inr b => exact Option.some.inj h
theorem it_st {α β : Type} {step : α → Option (α ⊕ β)} {x : α} {z : β} (h : dc_it step x = some z) : ∃ q, step x = some q := by
  cases e : step x with
  | none => rw [dc_it_eq, e] at h; cases h
  | some q => exact ⟨q, rfl⟩
theorem up_e : ∀ v : Nat, v < 1200 → ((2 * Int32.ofNat v) >>> (1 &&& (31 : Int32)) = Int32.ofNat v) ∧ ((2 * Int32.ofNat v + 1) >>> (1 &&& (31 : Int32)) = Int32.ofNat v) ∧ ((2 * Int32.ofNat v) &&& 1 = 0) ∧ ((2 * Int32.ofNat v + 1) &&& 1 = 1) ∧ ¬ 2 * Int32.ofNat v = -1 ∧ ¬ 2 * Int32.ofNat v + 1 = -1 := by decide +kernel
/-- piece rows of a test e from k on -/
def PPr (R : Nat → Nat → Int32) (pk pf xx : Nat → Int32) : Nat → Nat → Nat → Prop
  | 0, _, _ => False
  | g + 1, e, k => R 63 k = pk e ∧ (pk e = 0 → R 64 k = pf e ∧ R 65 k = -1) ∧ (pk e = 1 → R 64 k = Int32.ofNat (k + 1) ∧ R 65 k = -1 ∧ PPr R pk pf xx g (e - 1) (k + 1)) ∧ ((pk e = 2 ∨ pk e = 3) → R 64 k = Int32.ofNat (k + 1) ∧ R 65 k = Int32.ofNat (k + 1 + (xx (pf e).toInt.toNat).toInt.toNat) ∧ PPr R pk pf xx g (pf e).toInt.toNat (k + 1) ∧ PPr R pk pf xx g (e - 1) (k + 1 + (xx (pf e).toInt.toNat).toInt.toNat))
def askF (S S' : md_S) (n : Nat) : Prop := (∀ k, ¬ k = 43 → S'.1 k = S.1 k) ∧ (∀ k, ¬ (k = 63 ∨ k = 64 ∨ k = 65 ∨ k = 99) → S'.2.1 k = S.2.1 k) ∧ S'.2.2 = S.2.2 ∧ ∀ j, j < 2 * n → S'.2.1 99 j = S.2.1 99 j
/-- rows made before: unchanged but for the one that is told where this piece lies -/
def LKp (S S' : md_S) (uc : Int32) (p : Nat) : Prop := ∀ j, j < p → S'.2.1 63 j = S.2.1 63 j ∧ (¬ uc = 2 * Int32.ofNat j → S'.2.1 64 j = S.2.1 64 j) ∧ (¬ uc = 2 * Int32.ofNat j + 1 → S'.2.1 65 j = S.2.1 65 j) ∧ (uc = 2 * Int32.ofNat j → S'.2.1 64 j = Int32.ofNat p) ∧ (uc = 2 * Int32.ofNat j + 1 → S'.2.1 65 j = Int32.ofNat p)
theorem askF.tr {S S' S2 : md_S} {n n' : Nat} (h : askF S S' n') (g : askF S' S2 n) (hn : n ≤ n') : askF S S2 n := ⟨fun k hk => (g.1 k hk).trans (h.1 k hk), fun k hk => (g.2.1 k hk).trans (h.2.1 k hk), g.2.2.1.trans h.2.2.1, fun j hj => (g.2.2.2 j hj).trans (h.2.2.2 j (by omega))⟩
theorem uc_inj {v v' : Nat} (h : v < 1200) (h' : v' < 1200) : (2 * Int32.ofNat v = 2 * Int32.ofNat v' → v = v') ∧ (2 * Int32.ofNat v + 1 = 2 * Int32.ofNat v' + 1 → v = v') ∧ ¬ 2 * Int32.ofNat v = 2 * Int32.ofNat v' + 1 := by
  have a : ∀ w : Nat, w < 1200 → (2 * Int32.ofNat w).toInt = 2 * (w : Int) ∧ (2 * Int32.ofNat w + 1).toInt = 2 * (w : Int) + 1 := by
    intro w hw
    have t : (Int32.ofNat w).toInt = (w : Int) := Int32.toInt_ofNat_of_lt (by omega)
    have e2 : (2 * Int32.ofNat w).toInt = 2 * (w : Int) := by
      rw [i_mulS (by rw [t, show (2 : Int32).toInt = 2 by decide]; omega), t, show (2 : Int32).toInt = 2 by decide]
    exact ⟨e2, by rw [i_addS (by rw [e2, il_1]; omega), e2, il_1]⟩
  obtain ⟨a1, a2⟩ := a v h
  obtain ⟨b1, b2⟩ := a v' h'
  refine ⟨fun e => ?_, fun e => ?_, fun e => ?_⟩
  · have := congrArg Int32.toInt e
    omega
  · have := congrArg Int32.toInt e
    omega
  · have := congrArg Int32.toInt e
    omega
theorem PPr_ext {R R' : Nat → Nat → Int32} {pk pf ps xx : Nat → Int32} {names : Int32} {m : Nat} (W : pcW names pk pf ps xx m) : ∀ (g e k : Nat), e < m → (xx e).toInt ≤ (g : Int) → (∀ j, k ≤ j → (j : Int) < (k : Int) + (xx e).toInt → R' 63 j = R 63 j ∧ R' 64 j = R 64 j ∧ R' 65 j = R 65 j) → PPr R pk pf xx g e k → PPr R' pk pf xx g e k
  | 0, e, k, he, hx, h, p => p.elim
  | g + 1, e, k, he, hx, h, ⟨p1, p2, p3, p4⟩ => by
    obtain ⟨w1, w2⟩ := W e he
    obtain ⟨h1, h2, h3⟩ := h k (Nat.le_refl _) (by omega)
    refine ⟨h1.trans p1, fun z => ⟨h2.trans (p2 z).1, h3.trans (p2 z).2⟩, fun z => ?_, fun z => ?_⟩
    · obtain ⟨a1, a2, a3⟩ := p3 z
      rcases w2 with ⟨y, -⟩ | ⟨y, y1, y2, y3, y4⟩ | ⟨y, -⟩
      · rw [z] at y; exact absurd y (by decide)
      · exact ⟨h2.trans a1, h3.trans a2, PPr_ext W g (e - 1) (k + 1) (by omega) (by omega) (fun j j1 j2 => h j (by omega) (by omega)) a3⟩
      · rcases y with y | y <;> (rw [z] at y; exact absurd y (by decide))
    · obtain ⟨a1, a2, a3, a4⟩ := p4 z
      rcases w2 with ⟨y, -⟩ | ⟨y, -⟩ | ⟨y, y1, y2, y3, y4, y5⟩
      · rcases z with z | z <;> (rw [y] at z; exact absurd z (by decide))
      · rcases z with z | z <;> (rw [y] at z; exact absurd z (by decide))
      · have wl := (W (e - 1) (by omega)).1
        have wf := (W (pf e).toInt.toNat (by omega)).1
        exact ⟨h2.trans a1, h3.trans a2, PPr_ext W g _ (k + 1) (by omega) (by omega) (fun j j1 j2 => h j (by omega) (by omega)) a3, PPr_ext W g (e - 1) _ (by omega) (by omega) (fun j j1 j2 => h j (by omega) (by omega)) a4⟩
section ASK
variable {names : Int32} {pk pf ps xx : Nat → Int32} {m : Nat}
/-- what stands behind a piece -/
def askO (pk pf xx : Nat → Int32) (g e n : Nat) (S S' : md_S) : Prop :=
  askF S S' n ∧ (S.1 43).toInt ≤ (S'.1 43).toInt ∧ ((S.1 43).toInt + (xx e).toInt ≤ 1000 → (S'.1 43).toInt = (S.1 43).toInt + (xx e).toInt ∧ PPr S'.2.1 pk pf xx g e (S.1 43).toInt.toNat ∧ LKp S S' (S.2.1 99 (2 * n + 1)) (S.1 43).toInt.toNat) ∧ (1000 < (S.1 43).toInt + (xx e).toInt → 1000 < (S'.1 43).toInt) ∧ (S'.1 43).toInt ≤ (S.1 43).toInt + (xx e).toInt
/-- the piece above is told -/
def lkS (S : md_S) (uc : Int32) : md_S := if uc = -1 then S else if (uc &&& 1) = 1 then md_a S 65 (uc >>> (1 &&& (31 : Int32))).toInt.toNat (S.1 43) else md_a S 64 (uc >>> (1 &&& (31 : Int32))).toInt.toNat (S.1 43)
theorem ask_lk {S : md_S} {x2 : Int32} {n : Nat} (hn : n ≤ 3000) {q : (md_S × Int32) ⊕ md_S} (hq : mm_ask_s23 x2 (S, Int32.ofNat (n + 1)) = some q) : ∃ S1, (S1 = S ∨ ((S.1 43).toInt < 1000 ∧ S1 = lkS S (S.2.1 99 (2 * n + 1)))) ∧ ((S.1 43).toInt < 1000 → S1 = lkS S (S.2.1 99 (2 * n + 1))) ∧ mm_ask_L117 S1 x2 (Int32.ofNat n) (S.2.1 99 (2 * n)) = some q := by
  have tn : (Int32.ofNat n).toInt = (n : Int) := Int32.toInt_ofNat_of_lt (by omega)
  have tn1 : (Int32.ofNat (n + 1)).toInt = (n : Int) + 1 := by rw [Int32.toInt_ofNat_of_lt (by omega)]; omega
  have ed : Int32.ofNat (n + 1) + (-1) = Int32.ofNat n := by
    refine i_eq.mpr ?_
    rw [i_dec (by omega), tn1, tn]
    omega
  have z2 : (2 : Int32).toInt = 2 := by decide
  have t2 : (2 * Int32.ofNat n).toInt = 2 * (n : Int) := by rw [i_mulS (by rw [tn, z2]; omega), tn, z2]
  have t21 : (2 * Int32.ofNat n + 1).toInt = 2 * (n : Int) + 1 := by rw [i_addS (by rw [t2, il_1]; omega), t2, il_1]
  have z1000 : (1000 : Int32).toInt = 1000 := by decide
  have hq : mm_ask_b23 S x2 (Int32.ofNat (n + 1)) = some q := hq
  delta mm_ask_b23 at hq
  rcases iv_if hq with ⟨-, hq⟩ | ⟨c, -⟩
  · rw [ed] at hq
    obtain ⟨-, -, hq⟩ := iv_ix hq
    rw [t2, show (2 * (n : Int)).toNat = 2 * n by omega] at hq
    have hq : (dc_ix ((2 * Int32.ofNat n) + 1) 8192).bind (fun j29 => dc_let ((S.2.1 99 j29) : Int32) fun v30 => if v30 = (-1) then (mm_ask_L88 S x2 (Int32.ofNat n) (S.2.1 99 (2 * n)) v30) else (if (v30 &&& 1) = 1 then (if (S.1 43) < 1000 then ((dc_ix (v30 >>> (1 &&& (31 : Int32))) 1000).bind fun j31 => dc_let (md_a S 65 j31 (S.1 43)) fun S32 => mm_ask_L117 S32 x2 (Int32.ofNat n) (S.2.1 99 (2 * n))) else (mm_ask_L88 S x2 (Int32.ofNat n) (S.2.1 99 (2 * n)) v30)) else (mm_ask_L88 S x2 (Int32.ofNat n) (S.2.1 99 (2 * n)) v30))) = some q := hq
    obtain ⟨-, -, hq⟩ := iv_ix hq
    rw [t21, show (2 * (n : Int) + 1).toNat = 2 * n + 1 by omega] at hq
    generalize S.2.1 99 (2 * n + 1) = uc at hq ⊢
    have hq : (if uc = (-1) then (mm_ask_L88 S x2 (Int32.ofNat n) (S.2.1 99 (2 * n)) uc) else (if (uc &&& 1) = 1 then (if (S.1 43) < 1000 then ((dc_ix (uc >>> (1 &&& (31 : Int32))) 1000).bind fun j31 => mm_ask_L117 (md_a S 65 j31 (S.1 43)) x2 (Int32.ofNat n) (S.2.1 99 (2 * n))) else (mm_ask_L88 S x2 (Int32.ofNat n) (S.2.1 99 (2 * n)) uc)) else (mm_ask_L88 S x2 (Int32.ofNat n) (S.2.1 99 (2 * n)) uc))) = some q := hq
    have l88 : mm_ask_L88 S x2 (Int32.ofNat n) (S.2.1 99 (2 * n)) uc = some q → (uc = -1 ∨ ¬ (uc &&& 1) = 1 ∨ ¬ S.1 43 < 1000) → ∃ S1, (S1 = S ∨ ((S.1 43).toInt < 1000 ∧ S1 = lkS S uc)) ∧ ((S.1 43).toInt < 1000 → S1 = lkS S uc) ∧ mm_ask_L117 S1 x2 (Int32.ofNat n) (S.2.1 99 (2 * n)) = some q := by
      intro h hu
      delta mm_ask_L88 at h
      rcases iv_if h with ⟨c1, h⟩ | ⟨c1, h⟩
      · exact ⟨S, Or.inl rfl, fun _ => by unfold lkS; rw [if_pos c1], h⟩
      · rcases iv_if h with ⟨c2, h⟩ | ⟨c2, h⟩
        · obtain ⟨-, -, h⟩ := iv_ix h
          have h : mm_ask_L117 (md_a S 64 (uc >>> (1 &&& (31 : Int32))).toInt.toNat (S.1 43)) x2 (Int32.ofNat n) (S.2.1 99 (2 * n)) = some q := h
          have no : ¬ (uc &&& 1) = 1 := by
            rcases hu with z | z | z
            · exact absurd z c1
            · exact z
            · exact absurd c2 z
          have e : lkS S uc = md_a S 64 (uc >>> (1 &&& (31 : Int32))).toInt.toNat (S.1 43) := by
            unfold lkS
            rw [if_neg c1, if_neg no]
          have lt := i_lt.mp c2
          rw [z1000] at lt
          exact ⟨_, Or.inr ⟨lt, e.symm⟩, fun _ => e.symm, h⟩
        · have ge : ¬ (S.1 43).toInt < 1000 := fun t => c2 (i_lt.mpr (by rw [z1000]; exact t))
          exact ⟨S, Or.inl rfl, fun t => absurd t ge, h⟩
    rcases iv_if hq with ⟨c1, hq⟩ | ⟨c1, hq⟩
    · exact l88 hq (Or.inl c1)
    · rcases iv_if hq with ⟨c2, hq⟩ | ⟨c2, hq⟩
      · rcases iv_if hq with ⟨c3, hq⟩ | ⟨c3, hq⟩
        · obtain ⟨-, -, hq⟩ := iv_ix hq
          have e : lkS S uc = md_a S 65 (uc >>> (1 &&& (31 : Int32))).toInt.toNat (S.1 43) := by
            unfold lkS
            rw [if_neg c1, if_pos c2]
          have lt := i_lt.mp c3
          rw [z1000] at lt
          exact ⟨_, Or.inr ⟨lt, e.symm⟩, fun _ => e.symm, hq⟩
        · exact l88 hq (Or.inr (Or.inr c3))
      · exact l88 hq (Or.inr (Or.inl c2))
  · exact absurd (i_lt.mpr (by rw [il_0, tn1]; omega)) c
end ASK
