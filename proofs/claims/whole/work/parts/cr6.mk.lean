/-! the reference's pairs that are told apart: how they are marked -/
def ap (M : md_S) (x y : Nat) : Prop := ¬ M.2.1 94 (257 * x + y) = 0
/-- a relation whose states are never told apart -/
def bsM (M : md_S) (cnt W : Nat) (R : Nat → Nat → Prop) : Prop := ∀ x y, x < cnt → y < cnt → R x y → ¬ dfP M W x y ∧ ∀ i, i < W → ∀ p q, p < cnt → q < cnt → prE M p i x → prE M q i y → R p q
/-- pairs not marked yet, one way round -/
def uP (f : Nat → Int32) (cnt k : Nat) : Prop := k % 257 < k / 257 ∧ k / 257 < cnt ∧ f k = 0
noncomputable def uN (f : Nat → Int32) (cnt : Nat) : Nat := ctP (uP f cnt) 66049
def tri : Nat → Nat
  | 0 => 0
  | n + 1 => tri n + n
theorem tri_c {P : Nat → Prop} (hP : ∀ k, P k → k % 257 < k / 257) : ∀ a, ctP P (257 * a) ≤ tri a
  | 0 => Nat.le_refl _
  | a + 1 => by
    have ih := tri_c hP a
    have inner : ∀ j, j ≤ 257 → ctP P (257 * a + j) ≤ tri a + (if j < a then j else a) := by
      intro j
      induction j with
      | zero => intro _; rw [Nat.add_zero]; omega
      | succ j ihj =>
        intro hj
        have ihj := ihj (by omega)
        have e : 257 * a + (j + 1) = 257 * a + j + 1 := by omega
        rw [e]
        by_cases c : P (257 * a + j)
        · have d := hP _ c
          have d1 : (257 * a + j) / 257 = a := by omega
          have d2 : (257 * a + j) % 257 = j := by omega
          rw [ctP_y c]
          rw [d1, d2] at d
          rw [if_pos d] at ihj
          split <;> omega
        · rw [ctP_n c]
          split at ihj <;> split <;> omega
    have k := inner 257 (Nat.le_refl _)
    have e : 257 * (a + 1) = 257 * a + 257 := by omega
    rw [e]
    show _ ≤ tri a + a
    split at k <;> omega
theorem uN_b {f : Nat → Int32} {cnt : Nat} : uN f cnt ≤ 32896 := by
  have h := tri_c (P := uP f cnt) (fun k hk => hk.1) 257
  have e : tri 257 = 32896 := by decide +kernel
  rw [e] at h
  exact h
theorem cel_p {x y : Nat} : (257 : Int32) * Int32.ofNat x + Int32.ofNat y = Int32.ofNat (257 * x + y) := by
  rw [show (257 : Int32) = Int32.ofNat 257 from rfl, ← Int32.ofNat_mul, ← Int32.ofNat_add]
theorem dv_p {m : Nat} (h : m < 66049) : Int32.ofNat m / 257 = Int32.ofNat (m / 257) ∧ Int32.ofNat m - Int32.ofNat m / 257 * 257 = Int32.ofNat (m % 257) := by
  have tm : (Int32.ofNat m).toInt = (m : Int) := Int32.toInt_ofNat_of_lt (by omega)
  have td : (Int32.ofNat (m / 257)).toInt = ((m / 257 : Nat) : Int) := Int32.toInt_ofNat_of_lt (by omega)
  have tr : (Int32.ofNat (m % 257)).toInt = ((m % 257 : Nat) : Int) := Int32.toInt_ofNat_of_lt (by omega)
  have e1 : Int32.ofNat m / 257 = Int32.ofNat (m / 257) := by
    rw [i_eq, td, Int32.toInt_div, tm, il_257, bm32]
    have : (m : Int).tdiv 257 = ((m / 257 : Nat) : Int) := by
      rw [Int.tdiv_eq_ediv_of_nonneg (by omega)]
      omega
    rw [this]
    omega
  refine ⟨e1, ?_⟩
  rw [e1]
  have e2 : Int32.ofNat (m / 257) * 257 = Int32.ofNat (m / 257 * 257) := by
    rw [Int32.ofNat_mul]
    rfl
  rw [e2]
  have e3 : m = m / 257 * 257 + m % 257 := by omega
  have e4 : Int32.ofNat m = Int32.ofNat (m / 257 * 257) + Int32.ofNat (m % 257) := by rw [← Int32.ofNat_add, ← e3]
  rw [e4, Int32.add_comm, Int32.add_sub_cancel]
/-- marks, and pairs still to be looked at -/
def mkB (M0 M : md_S) (cnt ins n : Nat) : Prop := (M.1 = M0.1 ∧ ∀ i, ¬ (i = 94 ∨ i = 95) → M.2.1 i = M0.2.1 i) ∧ (∀ x y, x < cnt → y < cnt → ap M x y → ap M y x) ∧ (∀ R, bsM M0 cnt (2 ^ ins) R → ∀ x y, x < cnt → y < cnt → R x y → ¬ ap M x y) ∧ n + uN (M.2.1 94) cnt ≤ 32896 ∧ ∀ k, k < n → ∃ x y, x < cnt ∧ y < cnt ∧ M.2.1 95 k = Int32.ofNat (257 * x + y) ∧ ap M x y
def onS (M : md_S) (n x y : Nat) : Prop := ∃ k, k < n ∧ M.2.1 95 k = Int32.ofNat (257 * x + y)
/-- a pair marked, and put down -/
def mkW (M M' : md_S) (n p q : Nat) : Prop := M'.1 = M.1 ∧ (∀ i, ¬ (i = 94 ∨ i = 95) → M'.2.1 i = M.2.1 i) ∧ M'.2.1 94 = upd (upd (M.2.1 94) (257 * q + p) 1) (257 * p + q) 1 ∧ M'.2.1 95 = upd (M.2.1 95) n (Int32.ofNat (257 * p + q))
section MKB
variable {M0 M M' : md_S} {cnt ins n p q : Nat}
theorem mkW_a (h : mkW M M' n p q) (hp : p < 257) (hq : q < 257) {x y : Nat} (hx : x < 257) (hy : y < 257) : ap M' x y ↔ (ap M x y ∨ (x = p ∧ y = q) ∨ (x = q ∧ y = p)) := by
  have h4 := h.2.2.1
  unfold ap
  rw [h4]
  by_cases c1 : x = p ∧ y = q
  · rw [c1.1, c1.2, upd_s]
    exact ⟨fun _ => Or.inr (Or.inl ⟨rfl, rfl⟩), fun _ => by decide⟩
  · rw [upd_n (by omega)]
    by_cases c2 : x = q ∧ y = p
    · rw [c2.1, c2.2, upd_s]
      exact ⟨fun _ => Or.inr (Or.inr ⟨rfl, rfl⟩), fun _ => by decide⟩
    · rw [upd_n (by omega)]
      exact ⟨Or.inl, fun z => z.elim id (fun w => w.elim (fun v => absurd v c1) (fun v => absurd v c2))⟩
theorem mkW_o (h : mkW M M' n p q) {x y : Nat} (g : onS M n x y) : onS M' (n + 1) x y := by
  obtain ⟨k, k1, k2⟩ := g
  exact ⟨k, by omega, by rw [h.2.2.2, upd_n (by omega)]; exact k2⟩
theorem mkW_n (h : mkW M M' n p q) : onS M' (n + 1) p q := ⟨n, by omega, by rw [h.2.2.2, upd_s]⟩
theorem mkW_u (hs : ap M q p → ap M p q) (h : mkW M M' n p q) (hp : p < cnt) (hq : q < cnt) (hc : cnt ≤ 257) (ne : ¬ p = q) (na : ¬ ap M p q) : uN (M'.2.1 94) cnt + 1 = uN (M.2.1 94) cnt := by
  have na2 : ¬ ap M q p := fun z => na (hs z)
  have z1 : M.2.1 94 (257 * p + q) = 0 := Classical.not_not.mp na
  have z2 : M.2.1 94 (257 * q + p) = 0 := Classical.not_not.mp na2
  have core : ∀ a b, a < cnt → b < a → M.2.1 94 (257 * a + b) = 0 → (∀ k, M'.2.1 94 k = 0 ↔ (M.2.1 94 k = 0 ∧ ¬ k = 257 * a + b ∧ ¬ k = 257 * b + a)) → uN (M'.2.1 94) cnt + 1 = uN (M.2.1 94) cnt := by
    intro a b ha hb z hk
    refine ctP_one (P := uP (M.2.1 94) cnt) (Q := uP (M'.2.1 94) cnt) (m := 257 * a + b) ⟨by omega, by omega, z⟩ (fun k => ?_) 66049 (by omega)
    unfold uP
    rw [hk k]
    constructor
    · rintro ⟨h1, h2, h3, h4, -⟩
      exact ⟨⟨h1, h2, h3⟩, h4⟩
    · rintro ⟨⟨h1, h2, h3⟩, h4⟩
      exact ⟨h1, h2, h3, h4, by omega⟩
  have kk : ∀ k, M'.2.1 94 k = 0 ↔ (M.2.1 94 k = 0 ∧ ¬ k = 257 * p + q ∧ ¬ k = 257 * q + p) := by
    intro k
    rw [h.2.2.1]
    by_cases c1 : k = 257 * p + q
    · rw [c1, upd_s]
      exact ⟨fun z => absurd z (by decide), fun z => absurd rfl z.2.1⟩
    · rw [upd_n c1]
      by_cases c2 : k = 257 * q + p
      · rw [c2, upd_s]
        exact ⟨fun z => absurd z (by decide), fun z => absurd rfl z.2.2⟩
      · rw [upd_n c2]
        exact ⟨fun z => ⟨z, c1, c2⟩, fun z => z.1⟩
  by_cases c : q < p
  · exact core p q hp c z1 kk
  · exact core q p hq (by omega) z2 (fun k => by rw [kk k]; exact ⟨fun z => ⟨z.1, z.2.2, z.2.1⟩, fun z => ⟨z.1, z.2.2, z.2.1⟩⟩)
theorem mk_push (hB : mkB M0 M cnt ins n) (hc : cnt ≤ 257) (hp : p < cnt) (hq : q < cnt) (ne : ¬ p = q) (na : ¬ ap M p q) (hR : ∀ R, bsM M0 cnt (2 ^ ins) R → ¬ R p q ∧ ¬ R q p) (h : mkW M M' n p q) : mkB M0 M' cnt ins (n + 1) ∧ uN (M'.2.1 94) cnt + 1 = uN (M.2.1 94) cnt := by
  obtain ⟨⟨b1, b2⟩, b3, b4, b5, b6⟩ := hB
  have hu := mkW_u (b3 q p hq hp) h hp hq hc ne na
  refine ⟨⟨⟨h.1.trans b1, fun i hi => (h.2.1 i hi).trans (b2 i hi)⟩, fun x y hx hy hxy => ?_, fun R hr x y hx hy hxy hap => ?_, by omega, fun k hk => ?_⟩, hu⟩
  · rw [mkW_a h (by omega) (by omega) (by omega) (by omega)] at hxy ⊢
    rcases hxy with z | z | z
    · exact Or.inl (b3 x y hx hy z)
    · exact Or.inr (Or.inr ⟨z.2, z.1⟩)
    · exact Or.inr (Or.inl ⟨z.2, z.1⟩)
  · rw [mkW_a h (by omega) (by omega) (by omega) (by omega)] at hap
    rcases hap with z | z | z
    · exact b4 R hr x y hx hy hxy z
    · rw [z.1, z.2] at hxy
      exact (hR R hr).1 hxy
    · rw [z.1, z.2] at hxy
      exact (hR R hr).2 hxy
  · by_cases c : k = n
    · refine ⟨p, q, hp, hq, by rw [c, h.2.2.2, upd_s], ?_⟩
      rw [mkW_a h (by omega) (by omega) (by omega) (by omega)]
      exact Or.inr (Or.inl ⟨rfl, rfl⟩)
    · obtain ⟨x, y, x1, x2, x3, x4⟩ := b6 k (by omega)
      refine ⟨x, y, x1, x2, by rw [h.2.2.2, upd_n c]; exact x3, ?_⟩
      rw [mkW_a h (by omega) (by omega) (by omega) (by omega)]
      exact Or.inl x4
end MKB
