/-! drafted trees of the reference: root r, c nodes, names na to nb of its locals, h frames that running it may need -/
/-- kinds: 0 nothing, 1 pause, 2 emit, 3 present, 4 suspend, 5 sequence, 6 loop, 7 both, 8 trap, 9 exit, 10 local -/
def sb_T (kd f g nu as : Nat → Int32) (nm : Int32) (Q : Int32 → Prop) : Nat → Nat → (Int32 → Prop) → Int → Int → Nat → Nat → Prop
  | 0, _, _, _, _, _, _ => False
  | n + 1, h, A, na, nb, r, c =>
    (c = 1 ∧ 1 ≤ h ∧ na ≤ nb ∧ f r = -1 ∧ g r = -1 ∧ as r = -1 ∧ (kd r = 0 ∨ kd r = 1 ∨ (kd r = 2 ∧ 0 ≤ nu r ∧ nu r < nm) ∨ (kd r = 9 ∧ A (nu r)))) ∨
    (∃ x c1 : Nat, x < r ∧ (f r).toInt = (x : Int) ∧ g r = -1 ∧ c = c1 + 1 ∧
      ((kd r = 4 ∧ Q (as r) ∧ ∃ k, k + 2 ≤ h ∧ sb_T kd f g nu as nm Q n k A na nb x c1) ∨
       (kd r = 6 ∧ as r = -1 ∧ ∃ k, k + 2 ≤ h ∧ sb_T kd f g nu as nm Q n k A na nb x c1) ∨
       (kd r = 8 ∧ as r = -1 ∧ ∃ k, k + 2 ≤ h ∧ sb_T kd f g nu as nm Q n k (fun z => A z ∨ z = nu r) na nb x c1) ∨
       (kd r = 10 ∧ as r = -1 ∧ 0 ≤ nu r ∧ nu r < nm ∧ na ≤ (nu r).toInt ∧ sb_T kd f g nu as nm Q n h A ((nu r).toInt + 1) nb x c1))) ∨
    (∃ x y c1 c2 : Nat, ∃ nc : Int, x < r ∧ y < r ∧ (f r).toInt = (x : Int) ∧ (g r).toInt = (y : Int) ∧ c = c1 + c2 + 1 ∧
      ((kd r = 3 ∧ Q (as r) ∧ ∃ k, k + 2 ≤ h ∧ sb_T kd f g nu as nm Q n k A na nc x c1 ∧ sb_T kd f g nu as nm Q n k A nc nb y c2) ∨
       ((kd r = 5 ∨ kd r = 7) ∧ as r = -1 ∧ 3 ≤ h ∧ (∃ k, (k + 3 ≤ h ∨ (k ≤ h ∧ kd x = kd r)) ∧ sb_T kd f g nu as nm Q n k A na nc x c1) ∧ ∃ k, k + 3 ≤ h ∧ sb_T kd f g nu as nm Q n k A nc nb y c2)))
/-- it hangs on what lies up to its root alone -/
theorem sb_T_eq {kd f g nu as kd2 f2 g2 nu2 as2 : Nat → Int32} {nm nm2 : Int32} {Q Q2 : Int32 → Prop} (hn : nm ≤ nm2) (hp : ∀ x, Q x → Q2 x) : ∀ (n : Nat) {h : Nat} {A : Int32 → Prop} {na nb : Int} {r c : Nat}, (∀ i, i ≤ r → kd2 i = kd i ∧ f2 i = f i ∧ g2 i = g i ∧ nu2 i = nu i ∧ as2 i = as i) → sb_T kd f g nu as nm Q n h A na nb r c → sb_T kd2 f2 g2 nu2 as2 nm2 Q2 n h A na nb r c := by
  intro n
  induction n with
  | zero => intro h A na nb r c _ ht; exact ht
  | succ n ih =>
    intro h A na nb r c he ht
    unfold sb_T at ht ⊢
    have up : ∀ {x : Int32}, x < nm → x < nm2 := fun hx => i_lt.mpr (by have := i_lt.mp hx; have := i_le.mp hn; omega)
    obtain ⟨e1, e2, e3, e4, e5⟩ := he r (Nat.le_refl _)
    rcases ht with ⟨a1, a2, a0, a3, a4, a5, a6⟩ | ⟨x, c1, a1, a2, a3, a5, a4⟩ | ⟨x, y, c1, c2, nc, a1, a2, a4, a5, a6, a3⟩
    · left
      rw [e1, e2, e3, e4, e5]
      refine ⟨a1, a2, a0, a3, a4, a5, ?_⟩
      rcases a6 with a | a | ⟨a, b, c⟩ | a
      · exact .inl a
      · exact .inr (.inl a)
      · exact .inr (.inr (.inl ⟨a, b, up c⟩))
      · exact .inr (.inr (.inr a))
    · right; left
      rw [e1, e2, e3, e4, e5]
      have he2 := fun i (hi : i ≤ x) => he i (by omega)
      refine ⟨x, c1, a1, a2, a3, a5, ?_⟩
      rcases a4 with ⟨b, d, k, e, t⟩ | ⟨b, c, k, e, t⟩ | ⟨b, c, k, e, t⟩ | ⟨b, c, d, e, z, t⟩
      · exact .inl ⟨b, hp _ d, k, e, ih he2 t⟩
      · exact .inr (.inl ⟨b, c, k, e, ih he2 t⟩)
      · exact .inr (.inr (.inl ⟨b, c, k, e, ih he2 t⟩))
      · exact .inr (.inr (.inr ⟨b, c, d, up e, z, ih he2 t⟩))
    · right; right
      have e6 := (he x (by omega)).1
      refine ⟨x, y, c1, c2, nc, a1, a2, ?_⟩
      rw [e1, e2, e3, e5, e6]
      have he1 := fun i (hi : i ≤ x) => he i (by omega)
      have he2 := fun i (hi : i ≤ y) => he i (by omega)
      refine ⟨a4, a5, a6, ?_⟩
      rcases a3 with ⟨b, d, k, w, t, u⟩ | ⟨b, c, w, ⟨k, v, t⟩, k2, v2, u⟩
      · exact .inl ⟨b, hp _ d, k, w, ih he1 t, ih he2 u⟩
      · exact .inr ⟨b, c, w, ⟨k, v, ih he1 t⟩, k2, v2, ih he2 u⟩
/-- more height, more fuel, more exits, more names -/
theorem sb_T_mono {kd f g nu as : Nat → Int32} {nm : Int32} {Q : Int32 → Prop} : ∀ (n : Nat) {n2 h h2 : Nat} {A A2 : Int32 → Prop} {na nb na2 nb2 : Int} {r c : Nat}, n ≤ n2 → h ≤ h2 → (∀ x, A x → A2 x) → na2 ≤ na → nb ≤ nb2 → sb_T kd f g nu as nm Q n h A na nb r c → sb_T kd f g nu as nm Q n2 h2 A2 na2 nb2 r c := by
  intro n
  induction n with
  | zero => intro n2 h h2 A A2 na nb na2 nb2 r c _ _ _ _ _ ht; exact ht.elim
  | succ n ih =>
    intro n2 h h2 A A2 na nb na2 nb2 r c hn hh hA ha hb ht
    obtain ⟨n3, rfl⟩ : ∃ n3, n2 = n3 + 1 := ⟨n2 - 1, by omega⟩
    have hn3 : n ≤ n3 := by omega
    unfold sb_T at ht ⊢
    rcases ht with ⟨a1, a2, a0, a3, a4, a5, a6⟩ | ⟨x, c1, a1, a2, a3, a5, a4⟩ | ⟨x, y, c1, c2, nc, a1, a2, a4, a5, a6, a3⟩
    · left
      refine ⟨a1, by omega, by omega, a3, a4, a5, ?_⟩
      rcases a6 with a | a | a | ⟨a, b⟩
      · exact .inl a
      · exact .inr (.inl a)
      · exact .inr (.inr (.inl a))
      · exact .inr (.inr (.inr ⟨a, hA _ b⟩))
    · right; left
      refine ⟨x, c1, a1, a2, a3, a5, ?_⟩
      rcases a4 with ⟨b, d, k, e, t⟩ | ⟨b, c, k, e, t⟩ | ⟨b, c, k, e, t⟩ | ⟨b, c, d, e, z, t⟩
      · exact .inl ⟨b, d, k, by omega, ih hn3 (Nat.le_refl _) hA ha hb t⟩
      · exact .inr (.inl ⟨b, c, k, by omega, ih hn3 (Nat.le_refl _) hA ha hb t⟩)
      · exact .inr (.inr (.inl ⟨b, c, k, by omega, ih hn3 (Nat.le_refl _) (fun x hx => hx.elim (fun h => .inl (hA x h)) .inr) ha hb t⟩))
      · exact .inr (.inr (.inr ⟨b, c, d, e, by omega, ih hn3 hh hA (Int.le_refl _) hb t⟩))
    · right; right
      refine ⟨x, y, c1, c2, nc, a1, a2, a4, a5, a6, ?_⟩
      rcases a3 with ⟨b, d, k, w, t, u⟩ | ⟨b, c, w, ⟨k, v, t⟩, k2, v2, u⟩
      · exact .inl ⟨b, d, k, by omega, ih hn3 (Nat.le_refl _) hA ha (Int.le_refl _) t, ih hn3 (Nat.le_refl _) hA (Int.le_refl _) hb u⟩
      · exact .inr ⟨b, c, by omega, ⟨k, v.elim (fun v => .inl (by omega)) (fun v => .inr ⟨by omega, v.2⟩), ih hn3 (Nat.le_refl _) hA ha (Int.le_refl _) t⟩, k2, by omega, ih hn3 (Nat.le_refl _) hA (Int.le_refl _) hb u⟩
theorem sb_T_nn {kd f g nu as : Nat → Int32} {nm : Int32} {Q : Int32 → Prop} : ∀ (n : Nat) {h : Nat} {A : Int32 → Prop} {na nb : Int} {r c : Nat}, sb_T kd f g nu as nm Q n h A na nb r c → na ≤ nb ∧ 1 ≤ c := by
  intro n
  induction n with
  | zero => intro h A na nb r c ht; exact ht.elim
  | succ n ih =>
    intro h A na nb r c ht
    unfold sb_T at ht
    rcases ht with ⟨a1, a2, a0, a3, a4, a5, a6⟩ | ⟨x, c1, a1, a2, a3, a5, a4⟩ | ⟨x, y, c1, c2, nc, a1, a2, a4, a5, a6, a3⟩
    · exact ⟨a0, by omega⟩
    · rcases a4 with ⟨b, d, k, e, t⟩ | ⟨b, c, k, e, t⟩ | ⟨b, c, k, e, t⟩ | ⟨b, c, d, e, z, t⟩ <;> (have := ih t; omega)
    · rcases a3 with ⟨b, d, k, w, t, u⟩ | ⟨b, c, w, ⟨k, v, t⟩, k2, v2, u⟩ <;> (have := ih t; have := ih u; omega)
section SBT
variable {kd f g nu as : Nat → Int32} {nm : Int32} {Q : Int32 → Prop} {A : Int32 → Prop} {na nb nc : Int} {n h h1 r c c1 c2 x y : Nat}
theorem sb_T_leaf (h1 : 1 ≤ h) (h2 : na ≤ nb) (a3 : f r = -1) (a4 : g r = -1) (a5 : as r = -1) (a6 : kd r = 0 ∨ kd r = 1 ∨ (kd r = 2 ∧ 0 ≤ nu r ∧ nu r < nm) ∨ (kd r = 9 ∧ A (nu r))) : sb_T kd f g nu as nm Q 1 h A na nb r 1 := by
  unfold sb_T; exact .inl ⟨rfl, h1, h2, a3, a4, a5, a6⟩
theorem sb_T_susp (t : sb_T kd f g nu as nm Q n h A na nb x c) (hx : x < r) (e1 : (f r).toInt = (x : Int)) (e2 : g r = -1) (e3 : kd r = 4) (e4 : Q (as r)) : sb_T kd f g nu as nm Q (n + 1) (h + 2) A na nb r (c + 1) := by
  unfold sb_T; exact .inr (.inl ⟨x, c, hx, e1, e2, rfl, .inl ⟨e3, e4, h, Nat.le_refl _, t⟩⟩)
theorem sb_T_loop (t : sb_T kd f g nu as nm Q n h A na nb x c) (hx : x < r) (e1 : (f r).toInt = (x : Int)) (e2 : g r = -1) (e3 : kd r = 6) (e4 : as r = -1) : sb_T kd f g nu as nm Q (n + 1) (h + 2) A na nb r (c + 1) := by
  unfold sb_T; exact .inr (.inl ⟨x, c, hx, e1, e2, rfl, .inr (.inl ⟨e3, e4, h, Nat.le_refl _, t⟩)⟩)
theorem sb_T_trap (t : sb_T kd f g nu as nm Q n h (fun z => A z ∨ z = nu r) na nb x c) (hx : x < r) (e1 : (f r).toInt = (x : Int)) (e2 : g r = -1) (e3 : kd r = 8) (e4 : as r = -1) : sb_T kd f g nu as nm Q (n + 1) (h + 2) A na nb r (c + 1) := by
  unfold sb_T; exact .inr (.inl ⟨x, c, hx, e1, e2, rfl, .inr (.inr (.inl ⟨e3, e4, h, Nat.le_refl _, t⟩))⟩)
theorem sb_T_local (t : sb_T kd f g nu as nm Q n h A ((nu r).toInt + 1) nb x c) (hx : x < r) (e1 : (f r).toInt = (x : Int)) (e2 : g r = -1) (e3 : kd r = 10) (e4 : as r = -1) (e5 : 0 ≤ nu r) (e6 : nu r < nm) (e7 : na ≤ (nu r).toInt) : sb_T kd f g nu as nm Q (n + 1) h A na nb r (c + 1) := by
  unfold sb_T; exact .inr (.inl ⟨x, c, hx, e1, e2, rfl, .inr (.inr (.inr ⟨e3, e4, e5, e6, e7, t⟩))⟩)
theorem sb_T_pres (t : sb_T kd f g nu as nm Q n h A na nc x c1) (u : sb_T kd f g nu as nm Q n h A nc nb y c2) (hx : x < r) (hy : y < r) (e1 : (f r).toInt = (x : Int)) (e2 : (g r).toInt = (y : Int)) (e3 : kd r = 3) (e4 : Q (as r)) : sb_T kd f g nu as nm Q (n + 1) (h + 2) A na nb r (c1 + c2 + 1) := by
  unfold sb_T; exact .inr (.inr ⟨x, y, c1, c2, nc, hx, hy, e1, e2, rfl, .inl ⟨e3, e4, h, Nat.le_refl _, t, u⟩⟩)
/-- a sequence or both: a spine of the same kind costs once -/
theorem sb_T_two (t : sb_T kd f g nu as nm Q n h1 A na nc x c1) (u : sb_T kd f g nu as nm Q n h A nc nb y c2) (e0 : h1 ≤ h ∨ (h1 ≤ h + 3 ∧ kd x = kd r)) (hx : x < r) (hy : y < r) (e1 : (f r).toInt = (x : Int)) (e2 : (g r).toInt = (y : Int)) (e3 : kd r = 5 ∨ kd r = 7) (e4 : as r = -1) : sb_T kd f g nu as nm Q (n + 1) (h + 3) A na nb r (c1 + c2 + 1) := by
  unfold sb_T; exact .inr (.inr ⟨x, y, c1, c2, nc, hx, hy, e1, e2, rfl, .inr ⟨e3, e4, by omega, ⟨h1, e0.elim (fun e => .inl (by omega)) (fun e => .inr e), t⟩, h, Nat.le_refl _, u⟩⟩)
end SBT
