/-- going out from trap to trap one finds number x -/
def sb_ch (S : md_S) : Nat → Int32 → Int32 → Prop
  | 0, _, _ => False
  | m + 1, t, x => (0 ≤ t.toInt ∧ t.toInt < (S.1 42).toInt) ∧ S.2.1 51 t.toInt.toNat = 8 ∧ (S.2.1 54 t.toInt.toNat = x ∨ sb_ch S m (S.2.1 60 t.toInt.toNat) x)
theorem sb_ch_eq {S q : md_S} (h42 : (S.1 42).toInt ≤ (q.1 42).toInt) (h : ∀ j : Nat, (j : Int) < (S.1 42).toInt → q.2.1 51 j = S.2.1 51 j ∧ (S.2.1 51 j = 8 → q.2.1 54 j = S.2.1 54 j) ∧ q.2.1 60 j = S.2.1 60 j) : ∀ {m : Nat} {t x : Int32}, sb_ch S m t x → sb_ch q m t x := by
  intro m
  induction m with
  | zero => intro t x h; exact h
  | succ m ih =>
    intro t x ht
    unfold sb_ch at ht ⊢
    obtain ⟨⟨a, b⟩, c, d⟩ := ht
    obtain ⟨e1, e2, e3⟩ := h t.toInt.toNat (by omega)
    rw [e1, e2 c, e3]
    exact ⟨⟨a, by omega⟩, c, d.imp id ih⟩
/-- a laid tree: at k, c nodes, weight w, the trap around it t -/
def sb_L (S : md_S) : Nat → Nat → Int → Int32 → Nat → Nat → Prop
  | 0, _, _, _, _, _ => False
  | n + 1, h, w, t, k, c =>
    ((S.2.1 57 k).toInt = w ∧ S.2.1 60 k = t) ∧
    ((c = 1 ∧ 1 ≤ h ∧ S.2.1 52 k = -1 ∧ S.2.1 53 k = -1 ∧ (S.2.1 51 k = 0 ∨ (S.2.1 51 k = 1 ∧ 0 ≤ (S.2.1 54 k).toInt ∧ (S.2.1 54 k).toInt < (S.1 47).toInt) ∨ (S.2.1 51 k = 2 ∧ 0 ≤ (S.2.1 54 k).toInt ∧ (S.2.1 54 k).toInt < 400) ∨ S.2.1 51 k = 9)) ∨
     (∃ c1 : Nat, c = c1 + 1 ∧ (S.2.1 52 k).toInt = (k : Int) + 1 ∧ S.2.1 53 k = -1 ∧ (S.2.1 58 (k + 1)).toInt = (k : Int) ∧
       ((S.2.1 51 k = 4 ∧ sb_PR S (S.2.1 54 k) ∧ ∃ g, g + 2 ≤ h ∧ sb_L S n g w t (k + 1) c1) ∨
        (S.2.1 51 k = 6 ∧ ∃ g, g + 2 ≤ h ∧ sb_L S n g (w + 1) t (k + 1) c1) ∨
        (S.2.1 51 k = 8 ∧ ∃ g, g + 2 ≤ h ∧ sb_L S n g w (Int32.ofNat k) (k + 1) c1) ∨
        (S.2.1 51 k = 10 ∧ (0 ≤ (S.2.1 54 k).toInt ∧ (S.2.1 54 k).toInt < 400) ∧ sb_L S n h w t (k + 1) c1))) ∨
     (∃ c1 c2 : Nat, c = c1 + c2 + 1 ∧ (S.2.1 52 k).toInt = (k : Int) + 1 ∧ (S.2.1 53 k).toInt = (k : Int) + 1 + c1 ∧ (S.2.1 58 (k + 1)).toInt = (k : Int) ∧ (S.2.1 58 (k + 1 + c1)).toInt = (k : Int) ∧
       ((S.2.1 51 k = 3 ∧ sb_PR S (S.2.1 54 k) ∧ ∃ g, g + 2 ≤ h ∧ sb_L S n g w t (k + 1) c1 ∧ sb_L S n g w t (k + 1 + c1) c2) ∨
        ((S.2.1 51 k = 5 ∨ S.2.1 51 k = 7) ∧ 3 ≤ h ∧ (∃ g, (g + 3 ≤ h ∨ (g ≤ h ∧ S.2.1 51 (k + 1) = S.2.1 51 k)) ∧ sb_L S n g w t (k + 1) c1) ∧ ∃ g, g + 3 ≤ h ∧ sb_L S n g (w + if S.2.1 51 k = 5 then 1 else 0) t (k + 1 + c1) c2))))
theorem sb_L_pos {S : md_S} : ∀ {n h : Nat} {w : Int} {t : Int32} {k c : Nat}, sb_L S n h w t k c → 1 ≤ c := by
  intro n h w t k c hl
  cases n with
  | zero => exact hl.elim
  | succ n =>
    unfold sb_L at hl
    rcases hl.2 with ⟨a, _⟩ | ⟨c1, a, _⟩ | ⟨c1, c2, a, _⟩ <;> omega
/-- it hangs on what lies in it -/
theorem sb_L_eq {S q : md_S} (h47 : (S.1 47).toInt ≤ (q.1 47).toInt) (hp : ∀ x, sb_PR S x → sb_PR q x) : ∀ (n : Nat) {h : Nat} {w : Int} {t : Int32} {k c : Nat}, (∀ j : Nat, k ≤ j → j < k + c → (q.2.1 51 j = S.2.1 51 j ∧ q.2.1 52 j = S.2.1 52 j ∧ q.2.1 53 j = S.2.1 53 j ∧ q.2.1 57 j = S.2.1 57 j ∧ q.2.1 60 j = S.2.1 60 j) ∧ (k < j → q.2.1 58 j = S.2.1 58 j) ∧ (¬ S.2.1 51 j = 9 → ¬ S.2.1 51 j = 8 → q.2.1 54 j = S.2.1 54 j)) → sb_L S n h w t k c → sb_L q n h w t k c := by
  intro n
  induction n with
  | zero => intro h w t k c _ hl; exact hl
  | succ n ih =>
    intro h w t k c he hl
    have hpos := sb_L_pos hl
    unfold sb_L at hl ⊢
    obtain ⟨⟨e51, e52, e53, e57, e60⟩, _, e54⟩ := he k (Nat.le_refl _) (by omega)
    rw [e51, e52, e53, e57, e60]
    refine ⟨hl.1, ?_⟩
    rcases hl.2 with ⟨a, b, c, d, e⟩ | ⟨c1, a, b, c, d, e⟩ | ⟨c1, c2, a, b, c, d, d2, e⟩
    · left
      refine ⟨a, b, c, d, ?_⟩
      rcases e with e | ⟨e, e2⟩ | ⟨e, e2⟩ | e
      · exact .inl e
      · rw [e54 (by rw [e]; decide) (by rw [e]; decide)]; exact .inr (.inl ⟨e, e2.1, by omega⟩)
      · rw [e54 (by rw [e]; decide) (by rw [e]; decide)]; exact .inr (.inr (.inl ⟨e, e2⟩))
      · exact .inr (.inr (.inr e))
    · right; left
      have he2 : ∀ j : Nat, k + 1 ≤ j → j < k + 1 + c1 → (q.2.1 51 j = S.2.1 51 j ∧ q.2.1 52 j = S.2.1 52 j ∧ q.2.1 53 j = S.2.1 53 j ∧ q.2.1 57 j = S.2.1 57 j ∧ q.2.1 60 j = S.2.1 60 j) ∧ (k + 1 < j → q.2.1 58 j = S.2.1 58 j) ∧ (¬ S.2.1 51 j = 9 → ¬ S.2.1 51 j = 8 → q.2.1 54 j = S.2.1 54 j) := fun j h1 h2 => by
        obtain ⟨y1, y2, y3⟩ := he j (by omega) (by omega)
        exact ⟨y1, fun _ => y2 (by omega), y3⟩
      have p1 : 1 ≤ c1 := by
        rcases e with ⟨_, _, g, _, l⟩ | ⟨_, g, _, l⟩ | ⟨_, g, _, l⟩ | ⟨_, _, l⟩ <;> exact sb_L_pos l
      have e58 := (he (k + 1) (by omega) (by omega)).2.1 (by omega)
      refine ⟨c1, a, b, c, by rw [e58]; exact d, ?_⟩
      rcases e with ⟨e, f, g, g1, l⟩ | ⟨e, g, g1, l⟩ | ⟨e, g, g1, l⟩ | ⟨e, f, l⟩
      · rw [e54 (by rw [e]; decide) (by rw [e]; decide)]; exact .inl ⟨e, hp _ f, g, g1, ih he2 l⟩
      · exact .inr (.inl ⟨e, g, g1, ih he2 l⟩)
      · exact .inr (.inr (.inl ⟨e, g, g1, ih he2 l⟩))
      · rw [e54 (by rw [e]; decide) (by rw [e]; decide)]; exact .inr (.inr (.inr ⟨e, f, ih he2 l⟩))
    · right; right
      have he1 : ∀ j : Nat, k + 1 ≤ j → j < k + 1 + c1 → (q.2.1 51 j = S.2.1 51 j ∧ q.2.1 52 j = S.2.1 52 j ∧ q.2.1 53 j = S.2.1 53 j ∧ q.2.1 57 j = S.2.1 57 j ∧ q.2.1 60 j = S.2.1 60 j) ∧ (k + 1 < j → q.2.1 58 j = S.2.1 58 j) ∧ (¬ S.2.1 51 j = 9 → ¬ S.2.1 51 j = 8 → q.2.1 54 j = S.2.1 54 j) := fun j h1 h2 => by
        obtain ⟨y1, y2, y3⟩ := he j (by omega) (by omega)
        exact ⟨y1, fun _ => y2 (by omega), y3⟩
      have he2 : ∀ j : Nat, k + 1 + c1 ≤ j → j < k + 1 + c1 + c2 → (q.2.1 51 j = S.2.1 51 j ∧ q.2.1 52 j = S.2.1 52 j ∧ q.2.1 53 j = S.2.1 53 j ∧ q.2.1 57 j = S.2.1 57 j ∧ q.2.1 60 j = S.2.1 60 j) ∧ (k + 1 + c1 < j → q.2.1 58 j = S.2.1 58 j) ∧ (¬ S.2.1 51 j = 9 → ¬ S.2.1 51 j = 8 → q.2.1 54 j = S.2.1 54 j) := fun j h1 h2 => by
        obtain ⟨y1, y2, y3⟩ := he j (by omega) (by omega)
        exact ⟨y1, fun _ => y2 (by omega), y3⟩
      have p1 : 1 ≤ c1 ∧ 1 ≤ c2 := by
        rcases e with ⟨_, _, g, _, l, l2⟩ | ⟨_, _, ⟨g, _, l⟩, g2, _, l2⟩ <;> exact ⟨sb_L_pos l, sb_L_pos l2⟩
      have e58 := (he (k + 1) (by omega) (by omega)).2.1 (by omega)
      have e58' := (he (k + 1 + c1) (by omega) (by omega)).2.1 (by omega)
      have e51' := (he (k + 1) (by omega) (by omega)).1.1
      refine ⟨c1, c2, a, b, c, by rw [e58]; exact d, by rw [e58']; exact d2, ?_⟩
      rcases e with ⟨e, f, g, g1, l, l2⟩ | ⟨e, f, ⟨g, g1, l⟩, g2, g3, l2⟩
      · rw [e54 (by rw [e]; decide) (by rw [e]; decide)]; exact .inl ⟨e, hp _ f, g, g1, ih he1 l, ih he2 l2⟩
      · rw [e51']; exact .inr ⟨e, f, ⟨g, g1, ih he1 l⟩, g2, g3, ih he2 l2⟩
theorem sb_L_mono {S : md_S} : ∀ (n : Nat) {n2 h : Nat} {w : Int} {t : Int32} {k c : Nat}, n ≤ n2 → sb_L S n h w t k c → sb_L S n2 h w t k c := by
  intro n
  induction n with
  | zero => intro n2 h w t k c _ hl; exact hl.elim
  | succ n ih =>
    intro n2 h w t k c hn hl
    obtain ⟨n3, rfl⟩ : ∃ n3, n2 = n3 + 1 := ⟨n2 - 1, by omega⟩
    have hn3 : n ≤ n3 := by omega
    unfold sb_L at hl ⊢
    refine ⟨hl.1, ?_⟩
    rcases hl.2 with a | ⟨c1, a, b, c, d, e⟩ | ⟨c1, c2, a, b, c, d, d2, e⟩
    · exact .inl a
    · refine .inr (.inl ⟨c1, a, b, c, d, ?_⟩)
      rcases e with ⟨e, f, g, g1, l⟩ | ⟨e, g, g1, l⟩ | ⟨e, g, g1, l⟩ | ⟨e, f, l⟩
      · exact .inl ⟨e, f, g, g1, ih hn3 l⟩
      · exact .inr (.inl ⟨e, g, g1, ih hn3 l⟩)
      · exact .inr (.inr (.inl ⟨e, g, g1, ih hn3 l⟩))
      · exact .inr (.inr (.inr ⟨e, f, ih hn3 l⟩))
    · refine .inr (.inr ⟨c1, c2, a, b, c, d, d2, ?_⟩)
      rcases e with ⟨e, f, g, g1, l, l2⟩ | ⟨e, f, ⟨g, g1, l⟩, g2, g3, l2⟩
      · exact .inl ⟨e, f, g, g1, ih hn3 l, ih hn3 l2⟩
      · exact .inr ⟨e, f, ⟨g, g1, ih hn3 l⟩, g2, g3, ih hn3 l2⟩
def sb_EX (S : md_S) (lo hi : Int) : Prop := ∀ j : Nat, lo ≤ (j : Int) → (j : Int) < hi → S.2.1 51 j = 9 → ∃ m, sb_ch S m (S.2.1 60 j) (S.2.1 54 j)
theorem sb_LR_ch {S q : md_S} {pp : Int} {c : Nat} {y : Int} (h : sb_LR S q pp c y) {m : Nat} {t x : Int32} (hc : sb_ch S m t x) : sb_ch q m t x :=
  sb_ch_eq (by have := h.2.1; omega) (fun j hj => by obtain ⟨⟨a, b, c, d, e, f⟩, _⟩ := h.2.2.1 j hj; exact ⟨a, fun _ => b, e⟩) hc
theorem sb_LR_EX {S q : md_S} {pp : Int} {c : Nat} {y lo hi : Int} (h : sb_LR S q pp c y) (hh : hi ≤ (S.1 42).toInt) (hc : sb_EX S lo hi) : sb_EX q lo hi := by
  intro j h1 h2 h3
  obtain ⟨⟨a, b, c, d, e, f⟩, _⟩ := h.2.2.1 j (by omega)
  rw [a] at h3; rw [b, e]
  obtain ⟨m, hm⟩ := hc j h1 h2 h3
  exact ⟨m, sb_LR_ch h hm⟩
theorem sb_LR_un {S S1 q : md_S} {pp : Int} {c : Nat} {y : Int} (h : sb_LR S S1 pp 1 y) (k : sb_LR S1 q (2 * (S.1 42).toInt) c y) : sb_LR S q pp (c + 1) y := by
  obtain ⟨a1, a2, a3, a4, a5, a6⟩ := h
  obtain ⟨b1, b2, b3, b4, b5, b6⟩ := k
  refine ⟨md_fr_tr a1 b1 (by decide), by omega, fun j hj => ?_, fun x hx => b4 x (a4 x hx), by omega, fun i hi => ⟨(b6 i hi).1.trans (a6 i hi).1, (b6 i hi).2.trans (a6 i hi).2⟩⟩
  obtain ⟨⟨x1, x2, x3, x4, x5, x6⟩, x7, x8, x9, x10⟩ := a3 j hj
  obtain ⟨⟨y1, y2, y3, y4, y5, y6⟩, y7, y8, y9, y10⟩ := b3 j (by omega)
  have y7 := y7 (ar_ev (b := 0) hj); have y8 := y8 ar_od2
  have hk : q.2.1 58 (S.1 42).toInt.toNat = S1.2.1 58 (S.1 42).toInt.toNat := (b3 (S.1 42).toInt.toNat (by omega)).1.2.2.2.1
  exact ⟨⟨y1.trans x1, y2.trans x2, y3.trans x3, y4.trans x4, y5.trans x5, y6.trans x6⟩, fun h => y7.trans (x7 h), fun h => y8.trans (x8 h), fun h => ⟨y7.trans (x9 h).1, by rw [hk]; exact (x9 h).2⟩, fun h => ⟨y8.trans (x10 h).1, by rw [hk]; exact (x10 h).2⟩⟩
theorem sb_LR_two {S S1 q q2 : md_S} {pp : Int} {c c2 : Nat} {y : Int} (h : sb_LR S S1 pp 1 y) (k : sb_LR S1 q (2 * (S.1 42).toInt) c (y + 1)) (l : sb_LR q q2 (2 * (S.1 42).toInt + 1) c2 y) : sb_LR S q2 pp (c + c2 + 1) y := by
  have hu := sb_LR_un h (y := y) ⟨k.1, k.2.1, k.2.2.1, k.2.2.2.1, k.2.2.2.2.1, fun i hi => k.2.2.2.2.2 i (by omega)⟩
  obtain ⟨a1, a2, a3, a4, a5, a6⟩ := hu
  obtain ⟨b1, b2, b3, b4, b5, b6⟩ := l
  have h0 := h.2.1
  refine ⟨md_fr_tr a1 b1 (by decide), by omega, fun j hj => ?_, fun x hx => b4 x (a4 x hx), by omega, fun i hi => ⟨(b6 i hi).1.trans (a6 i hi).1, (b6 i hi).2.trans (a6 i hi).2⟩⟩
  obtain ⟨⟨x1, x2, x3, x4, x5, x6⟩, x7, x8, x9, x10⟩ := a3 j hj
  obtain ⟨⟨y1, y2, y3, y4, y5, y6⟩, y7, y8, y9, y10⟩ := b3 j (by omega)
  have y7 := y7 ar_od; have y8 := y8 (ar_ev2 hj)
  have hk : q2.2.1 58 (S.1 42).toInt.toNat = q.2.1 58 (S.1 42).toInt.toNat := (b3 (S.1 42).toInt.toNat (by omega)).1.2.2.2.1
  exact ⟨⟨y1.trans x1, y2.trans x2, y3.trans x3, y4.trans x4, y5.trans x5, y6.trans x6⟩, fun h => y7.trans (x7 h), fun h => y8.trans (x8 h), fun h => ⟨y7.trans (x9 h).1, by rw [hk]; exact (x9 h).2⟩, fun h => ⟨y8.trans (x10 h).1, by rw [hk]; exact (x10 h).2⟩⟩
