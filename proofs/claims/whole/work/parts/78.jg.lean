/-! the reference's reader: what it leaves of the draft (partial: if it comes to something) -/
/-- a drafted test: its pieces are [lo, hi), its root is hi - 1 -/
def sb_Q (pk pf ps : Nat → Int32) (nm : Int32) : Nat → Nat → Nat → Prop
  | 0, _, _ => False
  | n + 1, lo, hi =>
    (lo + 1 = hi ∧ pk lo = 0 ∧ 0 ≤ (pf lo).toInt ∧ (pf lo).toInt < nm.toInt ∧ ps lo = -1) ∨
    (lo + 1 < hi ∧ pk (hi - 1) = 1 ∧ (pf (hi - 1)).toInt = ((hi - 2 : Nat) : Int) ∧ ps (hi - 1) = -1 ∧ sb_Q pk pf ps nm n lo (hi - 1)) ∨
    (∃ m, lo < m ∧ m + 1 < hi ∧ (pk (hi - 1) = 2 ∨ pk (hi - 1) = 3) ∧ (pf (hi - 1)).toInt = ((m - 1 : Nat) : Int) ∧ (ps (hi - 1)).toInt = ((hi - 2 : Nat) : Int) ∧ sb_Q pk pf ps nm n lo m ∧ sb_Q pk pf ps nm n m (hi - 1))
theorem sb_Q_lt {pk pf ps : Nat → Int32} {nm : Int32} {n lo hi : Nat} (h : sb_Q pk pf ps nm n lo hi) : lo < hi := by
  cases n with
  | zero => exact h.elim
  | succ n =>
    unfold sb_Q at h
    rcases h with ⟨a1, _⟩ | ⟨a1, _⟩ | ⟨m, a1, a2, _⟩ <;> omega
theorem sb_Q_eq {pk pf ps pk2 pf2 ps2 : Nat → Int32} {nm nm2 : Int32} (hn : nm.toInt ≤ nm2.toInt) : ∀ (n : Nat) {n2 lo hi : Nat}, n ≤ n2 → (∀ i, i < hi → pk2 i = pk i ∧ pf2 i = pf i ∧ ps2 i = ps i) → sb_Q pk pf ps nm n lo hi → sb_Q pk2 pf2 ps2 nm2 n2 lo hi := by
  intro n
  induction n with
  | zero => intro n2 lo hi _ _ h; exact h.elim
  | succ n ih =>
    intro n2 lo hi hle he h
    obtain ⟨n3, rfl⟩ : ∃ n3, n2 = n3 + 1 := ⟨n2 - 1, by omega⟩
    have hn3 : n ≤ n3 := by omega
    unfold sb_Q at h ⊢
    rcases h with ⟨a1, a2, a3, a4, a5⟩ | ⟨a1, a2, a3, a4, a5⟩ | ⟨m, a1, a2, a3, a4, a5, a6, a7⟩
    · left
      obtain ⟨e1, e2, e3⟩ := he lo (by omega)
      rw [e1, e2, e3]; exact ⟨a1, a2, a3, by omega, a5⟩
    · right; left
      obtain ⟨e1, e2, e3⟩ := he (hi - 1) (by omega)
      rw [e1, e2, e3]; exact ⟨a1, a2, a3, a4, ih hn3 (fun i hi => he i (by omega)) a5⟩
    · right; right
      obtain ⟨e1, e2, e3⟩ := he (hi - 1) (by omega)
      rw [e1, e2, e3]; exact ⟨m, a1, a2, a3, a4, a5, ih hn3 (fun i hi => he i (by omega)) a6, ih hn3 (fun i hi => he i (by omega)) a7⟩
/-- a root of a drafted test -/
def sb_QS (S : md_S) (x : Int32) : Prop := 0 ≤ x.toInt ∧ x.toInt < (S.1 28).toInt ∧ ∃ n lo, sb_Q (S.2.1 36) (S.2.1 37) (S.2.1 38) (S.1 15) n lo (x.toInt.toNat + 1)
/-- the pieces from b0 to b1 are one test with root s -/
def sb_QT (b0 b1 : Int32) (S : md_S) (s : Int32) : Prop := 0 ≤ b0.toInt ∧ b0.toInt < b1.toInt ∧ s.toInt = b1.toInt - 1 ∧ ∃ n, sb_Q (S.2.1 36) (S.2.1 37) (S.2.1 38) (S.1 15) n b0.toInt.toNat b1.toInt.toNat
def sb_al (ts : Int32) (sr : Nat → Int32) (x : Int32) : Prop := ∃ k : Nat, (k : Int) < ts.toInt ∧ sr k = x
/-- what holds of a state -/
def sb_J (S : md_S) : Prop := (0 ≤ (S.1 27).toInt ∧ (S.1 27).toInt ≤ 1200) ∧ (0 ≤ (S.1 28).toInt ∧ (S.1 28).toInt ≤ 1000) ∧ (0 ≤ (S.1 15).toInt ∧ (S.1 15).toInt ≤ 16400) ∧ (0 ≤ (S.1 19).toInt ∧ (S.1 19).toInt ≤ 32) ∧ ((0 ≤ (S.1 18).toInt ∧ (S.1 18).toInt ≤ 16400) ∧ ∀ i : Nat, (i : Int) < (S.1 18).toInt → 0 ≤ (S.2.1 23 i).toInt ∧ (S.2.1 23 i).toInt < (S.1 15).toInt) ∧ (S.1 10 = 0 → (S.1 11).toInt ≤ 24)
/-- what is later: the rest stays -/
def sb_G1 (S q : md_S) : Prop := ((S.1 27).toInt ≤ (q.1 27).toInt ∧ (S.1 15).toInt ≤ (q.1 15).toInt ∧ (S.1 28).toInt ≤ (q.1 28).toInt ∧ (S.1 18).toInt ≤ (q.1 18).toInt) ∧ (∀ i : Nat, (i : Int) < (S.1 27).toInt → q.2.1 30 i = S.2.1 30 i ∧ q.2.1 31 i = S.2.1 31 i ∧ q.2.1 32 i = S.2.1 32 i ∧ q.2.1 33 i = S.2.1 33 i ∧ q.2.1 35 i = S.2.1 35 i) ∧ (∀ i : Nat, (i : Int) < (S.1 28).toInt → q.2.1 36 i = S.2.1 36 i ∧ q.2.1 37 i = S.2.1 37 i ∧ q.2.1 38 i = S.2.1 38 i) ∧ (∀ i : Nat, (i : Int) < (S.1 18).toInt → q.2.1 23 i = S.2.1 23 i) ∧ (q.1 12 = 0 → S.1 12 = 0) ∧ (q.1 10 = 0 → S.1 10 = 0)
def sb_G2 (S q : md_S) : Prop := q.1 19 = S.1 19 ∧ ∀ i : Nat, (i : Int) < (S.1 19).toInt → q.2.1 26 i = S.2.1 26 i
def sb_G (S q : md_S) : Prop := sb_G1 S q ∧ sb_G2 S q
theorem sb_G_rf {S : md_S} : sb_G S S := ⟨⟨⟨Int.le_refl _, Int.le_refl _, Int.le_refl _, Int.le_refl _⟩, fun _ _ => ⟨rfl, rfl, rfl, rfl, rfl⟩, fun _ _ => ⟨rfl, rfl, rfl⟩, fun _ _ => rfl, id, id⟩, rfl, fun _ _ => rfl⟩
theorem sb_G1_tr {S q r : md_S} (h : sb_G1 S q) (k : sb_G1 q r) : sb_G1 S r := by
  obtain ⟨⟨a1, a2, a3, a4⟩, a5, a6, a7, a8, a9⟩ := h
  obtain ⟨⟨b1, b2, b3, b4⟩, b5, b6, b7, b8, b9⟩ := k
  refine ⟨⟨by omega, by omega, by omega, by omega⟩, fun i hi => ?_, fun i hi => ?_, fun i hi => ?_, fun h => a8 (b8 h), fun h => a9 (b9 h)⟩
  · obtain ⟨x1, x2, x3, x4, x5⟩ := a5 i hi
    obtain ⟨y1, y2, y3, y4, y5⟩ := b5 i (by omega)
    exact ⟨y1.trans x1, y2.trans x2, y3.trans x3, y4.trans x4, y5.trans x5⟩
  · obtain ⟨x1, x2, x3⟩ := a6 i hi
    obtain ⟨y1, y2, y3⟩ := b6 i (by omega)
    exact ⟨y1.trans x1, y2.trans x2, y3.trans x3⟩
  · exact (b7 i (by omega)).trans (a7 i hi)
theorem sb_G_tr {S q r : md_S} (h : sb_G S q) (k : sb_G q r) : sb_G S r :=
  ⟨sb_G1_tr h.1 k.1, k.2.1.trans h.2.1, fun i hi => (k.2.2 i (by rw [h.2.1]; exact hi)).trans (h.2.2 i hi)⟩
theorem sb_G_gt {S q : md_S} (h : sb_G S q) (e : q.1 12 = 0) : S.1 12 = 0 := h.1.2.2.2.2.1 e
theorem sb_G_fa {S q : md_S} (h : sb_G S q) (e : q.1 10 = 0) : S.1 10 = 0 := h.1.2.2.2.2.2 e
theorem sb_al_G {S q : md_S} (h : sb_G S q) (x : Int32) (hx : sb_al (q.1 19) (q.2.1 26) x) : sb_al (S.1 19) (S.2.1 26) x := by
  obtain ⟨k, hk, e⟩ := hx
  rw [h.2.1] at hk
  exact ⟨k, hk, (h.2.2 k hk).symm.trans e⟩
theorem sb_QS_G {S q : md_S} (h : sb_G1 S q) (x : Int32) (hx : sb_QS S x) : sb_QS q x := by
  obtain ⟨a, b, n, lo, t⟩ := hx
  obtain ⟨⟨a1, a2, a3, a4⟩, a5, a6, _⟩ := h
  exact ⟨a, by omega, n, lo, sb_Q_eq a2 n (Nat.le_refl _) (fun i hi => a6 i (by omega)) t⟩
theorem sb_QT_G {b0 b1 : Int32} {S q : md_S} {s : Int32} (h : sb_G1 S q) (hb : b1.toInt ≤ (S.1 28).toInt) (hx : sb_QT b0 b1 S s) : sb_QT b0 b1 q s := by
  obtain ⟨a, b, c, n, t⟩ := hx
  obtain ⟨⟨a1, a2, a3, a4⟩, a5, a6, _⟩ := h
  exact ⟨a, b, c, n, sb_Q_eq a2 n (Nat.le_refl _) (fun i hi => a6 i (by omega)) t⟩
theorem sb_QT_QS {b0 : Int32} {S : md_S} {s : Int32} (hx : sb_QT b0 (S.1 28) S s) : sb_QS S s := by
  obtain ⟨a, b, c, n, t⟩ := hx
  refine ⟨by omega, by omega, n, b0.toInt.toNat, ?_⟩
  rw [show s.toInt.toNat + 1 = (S.1 28).toInt.toNat by omega]; exact t
/-- a drafted tree of at most c nodes with root s, its locals are n0 to n1 -/
def sb_Tr (c : Int) (n0 n1 : Int32) (S : md_S) (A : Int32 → Prop) (h : Nat) (s : Int32) : Prop :=
  0 ≤ s.toInt ∧ s.toInt < (S.1 27).toInt ∧ ∃ n c1 : Nat, (c1 : Int) ≤ c ∧ sb_T (S.2.1 30) (S.2.1 31) (S.2.1 32) (S.2.1 33) (S.2.1 35) (S.1 15) (sb_QS S) n h A n0.toInt n1.toInt s.toInt.toNat c1
theorem sb_Tr_G {c : Int} {n0 n1 : Int32} {S q : md_S} {A : Int32 → Prop} {h : Nat} {s : Int32} (g : sb_G1 S q) (t : sb_Tr c n0 n1 S A h s) : sb_Tr c n0 n1 q A h s := by
  obtain ⟨a0, a1, n, c1, a2, t⟩ := t
  exact ⟨a0, by have := g.1.1; omega, n, c1, a2, sb_T_eq (i_le.mpr g.1.2.1) (sb_QS_G g) n (fun i hi => g.2.1 i (by omega)) t⟩
theorem sb_Tr_mono {c c2 : Int} {n0 n1 n2 n3 : Int32} {S : md_S} {A A2 : Int32 → Prop} {h h2 : Nat} {s : Int32} (t : sb_Tr c n0 n1 S A h s) (hc : c ≤ c2) (hh : h ≤ h2) (hA : ∀ x, A x → A2 x) (hn : n2.toInt ≤ n0.toInt) (hn2 : n1.toInt ≤ n3.toInt) : sb_Tr c2 n2 n3 S A2 h2 s := by
  obtain ⟨a0, a1, n, c1, a2, t⟩ := t
  exact ⟨a0, a1, n, c1, by omega, sb_T_mono n (Nat.le_refl _) hh hA hn hn2 t⟩
theorem sb_Tr_nn {c : Int} {n0 n1 : Int32} {S : md_S} {A : Int32 → Prop} {h : Nat} {s : Int32} (t : sb_Tr c n0 n1 S A h s) : n0.toInt ≤ n1.toInt ∧ 1 ≤ c := by
  obtain ⟨a0, a1, n, c1, a2, t⟩ := t
  have := sb_T_nn n t
  omega
theorem sb_up (f : Nat → Int32) (j : Nat) (x : Int32) : upd f j x j = x := if_pos rfl
/-- a node more -/
def sb_N (S q : md_S) (r k f g nu as : Int32) : Prop := (0 ≤ (S.1 27).toInt ∧ (S.1 27).toInt < 1200) ∧ r = S.1 27 ∧ (q.1 27).toInt = (S.1 27).toInt + 1 ∧ q.1 15 = S.1 15 ∧ (q.2.1 30 r.toInt.toNat = k ∧ q.2.1 31 r.toInt.toNat = f ∧ q.2.1 32 r.toInt.toNat = g ∧ q.2.1 33 r.toInt.toNat = nu ∧ q.2.1 35 r.toInt.toNat = as) ∧ sb_G S q
section NT
variable {S q : md_S} {r k nu as n0 n1 n2 s s1 s2 : Int32} {A : Int32 → Prop} {h h1 : Nat} {c c1 c2 : Int}
theorem N_leaf (n : sb_N S q r k (-1) (-1) nu (-1)) (hc : 1 ≤ c) (hh : 1 ≤ h) (hn : n0.toInt ≤ n1.toInt) (hk : k = 0 ∨ k = 1 ∨ (k = 2 ∧ 0 ≤ nu ∧ nu < q.1 15) ∨ (k = 9 ∧ A nu)) : sb_Tr c n0 n1 q A h r := by
  obtain ⟨⟨c0, c1⟩, rfl, c2, c3, ⟨d1, d2, d3, d4, d5⟩, g⟩ := n
  exact ⟨c0, by omega, 1, 1, hc, sb_T_leaf hh hn d2 d3 d5 (by rw [d1, d4]; exact hk)⟩
theorem N_un (n : sb_N S q r k s (-1) nu as) (t : sb_Tr c n0 n1 S (fun x => A x ∨ (k = 8 ∧ x = nu)) h s) (hk : (k = 4 ∧ sb_QS S as) ∨ (k = 6 ∧ as = -1) ∨ (k = 8 ∧ as = -1)) : sb_Tr (c + 1) n0 n1 q A (h + 2) r := by
  have hs := t.2.1
  obtain ⟨⟨c0, c1⟩, rfl, c2, c3, ⟨d1, d2, d3, d4, d5⟩, g⟩ := n
  obtain ⟨a0, a1, m, c1', a2, t⟩ := sb_Tr_G g.1 t
  refine ⟨c0, by omega, m + 1, c1' + 1, by omega, ?_⟩
  rcases hk with ⟨rfl, q1⟩ | ⟨rfl, q1⟩ | ⟨rfl, q1⟩
  · exact sb_T_susp (sb_T_mono m (Nat.le_refl _) (Nat.le_refl _) (fun x hx => hx.elim id (fun q => absurd q.1 (by decide))) (Int.le_refl _) (Int.le_refl _) t) (by omega) (by rw [d2]; omega) d3 d1 (by rw [d5]; exact sb_QS_G g.1 _ q1)
  · exact sb_T_loop (sb_T_mono m (Nat.le_refl _) (Nat.le_refl _) (fun x hx => hx.elim id (fun q => absurd q.1 (by decide))) (Int.le_refl _) (Int.le_refl _) t) (by omega) (by rw [d2]; omega) d3 d1 (by rw [d5]; exact q1)
  · exact sb_T_trap (sb_T_mono m (Nat.le_refl _) (Nat.le_refl _) (fun x hx => hx.elim Or.inl (fun q => .inr (by rw [d4]; exact q.2))) (Int.le_refl _) (Int.le_refl _) t) (by omega) (by rw [d2]; omega) d3 d1 (by rw [d5]; exact q1)
theorem N_local (n : sb_N S q r 10 s (-1) nu (-1)) (t : sb_Tr c n0 n1 S A h s) (hn : n0.toInt = nu.toInt + 1) (q2 : 0 ≤ nu.toInt) (q3 : nu.toInt < (S.1 15).toInt) : sb_Tr (c + 1) nu n1 q A h r := by
  have hs := t.2.1
  obtain ⟨⟨c0, c1⟩, rfl, c2, c3, ⟨d1, d2, d3, d4, d5⟩, g⟩ := n
  obtain ⟨a0, a1, m, c1', a2, t⟩ := sb_Tr_G g.1 t
  refine ⟨c0, by omega, m + 1, c1' + 1, by omega, ?_⟩
  exact sb_T_local (by rw [d4, ← hn]; exact t) (by omega) (by rw [d2]; omega) d3 d1 d5 (by rw [d4]; exact i_le.mpr (by rw [il_0]; omega)) (by rw [d4, c3]; exact i_lt.mpr q3) (by rw [d4]; exact Int.le_refl _)
theorem N_two (n : sb_N S q r k s1 s2 nu (-1)) (t : sb_Tr c1 n0 n1 S A h1 s1) (u : sb_Tr c2 n1 n2 S A h s2) (e0 : h1 ≤ h ∨ (h1 ≤ h + 3 ∧ S.2.1 30 s1.toInt.toNat = k)) (hk : k = 5 ∨ k = 7) : sb_Tr (c1 + c2 + 1) n0 n2 q A (h + 3) r := by
  have hs := t.2.1; have hu := u.2.1; have hs0 := t.1
  obtain ⟨⟨c0, c1⟩, rfl, c2, c3, ⟨d1, d2, d3, d4, d5⟩, g⟩ := n
  obtain ⟨a0, a1, m, e1, a2, t⟩ := sb_Tr_G g.1 t
  obtain ⟨b0, b1, m2, e2, b2, u⟩ := sb_Tr_G g.1 u
  refine ⟨c0, by omega, max m m2 + 1, e1 + e2 + 1, by omega, ?_⟩
  refine sb_T_two (sb_T_mono m (by omega) (Nat.le_refl _) (fun _ h => h) (Int.le_refl _) (Int.le_refl _) t) (sb_T_mono m2 (by omega) (Nat.le_refl _) (fun _ h => h) (Int.le_refl _) (Int.le_refl _) u) ?_ (by omega) (by omega) (by rw [d2]; omega) (by rw [d3]; omega) (by rw [d1]; exact hk) d5
  rcases e0 with e0 | ⟨e0, e3⟩
  · exact .inl e0
  · refine .inr ⟨e0, ?_⟩
    rw [d1, ← e3]
    exact (g.1.2.1 _ (by omega)).1
theorem N_pres (n : sb_N S q r 3 s1 s2 nu as) (t : sb_Tr c1 n0 n1 S A h s1) (u : sb_Tr c2 n1 n2 S A h s2) (hk : sb_QS S as) : sb_Tr (c1 + c2 + 1) n0 n2 q A (h + 2) r := by
  have hs := t.2.1; have hu := u.2.1
  obtain ⟨⟨c0, c1⟩, rfl, c2, c3, ⟨d1, d2, d3, d4, d5⟩, g⟩ := n
  obtain ⟨a0, a1, m, e1, a2, t⟩ := sb_Tr_G g.1 t
  obtain ⟨b0, b1, m2, e2, b2, u⟩ := sb_Tr_G g.1 u
  refine ⟨c0, by omega, max m m2 + 1, e1 + e2 + 1, by omega, ?_⟩
  exact sb_T_pres (sb_T_mono m (by omega) (Nat.le_refl _) (fun _ h => h) (Int.le_refl _) (Int.le_refl _) t) (sb_T_mono m2 (by omega) (Nat.le_refl _) (fun _ h => h) (Int.le_refl _) (Int.le_refl _) u) (by omega) (by omega) (by rw [d2]; omega) (by rw [d3]; omega) d1 (by rw [d5]; exact sb_QS_G g.1 _ hk)
end NT
