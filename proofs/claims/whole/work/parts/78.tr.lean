/-! trees as claims over a state's fields -/
def sb_al (ts : Int32) (sr : Nat → Int32) (x : Int32) : Prop := ∃ k : Nat, (k : Int) < ts.toInt ∧ sr k = x
/-- what is appended leaves the rest -/
def sb_ap (b1 nm1 pc1 ts1 : Int32) (kd1 f1 g1 nu1 as1 sr1 : Nat → Int32) (b2 nm2 pc2 ts2 : Int32) (kd2 f2 g2 nu2 as2 sr2 : Nat → Int32) : Prop :=
  b1 ≤ b2 ∧ nm1 ≤ nm2 ∧ pc1 ≤ pc2 ∧ ts2 = ts1 ∧ (∀ i : Nat, (i : Int) < b1.toInt → kd2 i = kd1 i ∧ f2 i = f1 i ∧ g2 i = g1 i ∧ nu2 i = nu1 i ∧ as2 i = as1 i) ∧ ∀ i : Nat, (i : Int) < ts1.toInt → sr2 i = sr1 i
theorem sb_ap_rf {b nm pc ts : Int32} {kd f g nu as sr : Nat → Int32} : sb_ap b nm pc ts kd f g nu as sr b nm pc ts kd f g nu as sr :=
  ⟨Int32.le_refl _, Int32.le_refl _, Int32.le_refl _, rfl, fun _ _ => ⟨rfl, rfl, rfl, rfl, rfl⟩, fun _ _ => rfl⟩
theorem sb_ap_tr {b1 nm1 pc1 ts1 b2 nm2 pc2 ts2 b3 nm3 pc3 ts3 : Int32} {kd1 f1 g1 nu1 as1 sr1 kd2 f2 g2 nu2 as2 sr2 kd3 f3 g3 nu3 as3 sr3 : Nat → Int32} (h : sb_ap b1 nm1 pc1 ts1 kd1 f1 g1 nu1 as1 sr1 b2 nm2 pc2 ts2 kd2 f2 g2 nu2 as2 sr2) (k : sb_ap b2 nm2 pc2 ts2 kd2 f2 g2 nu2 as2 sr2 b3 nm3 pc3 ts3 kd3 f3 g3 nu3 as3 sr3) : sb_ap b1 nm1 pc1 ts1 kd1 f1 g1 nu1 as1 sr1 b3 nm3 pc3 ts3 kd3 f3 g3 nu3 as3 sr3 := by
  obtain ⟨a1, a2, a3, a4, a5, a6⟩ := h
  obtain ⟨c1, c2, c3, c4, c5, c6⟩ := k
  have e1 := i_le.mp a1
  refine ⟨Int32.le_trans a1 c1, Int32.le_trans a2 c2, Int32.le_trans a3 c3, c4.trans a4, fun i hi => ?_, fun i hi => ?_⟩
  · obtain ⟨x1, x2, x3, x4, x5⟩ := a5 i hi
    obtain ⟨y1, y2, y3, y4, y5⟩ := c5 i (by omega)
    exact ⟨y1.trans x1, y2.trans x2, y3.trans x3, y4.trans x4, y5.trans x5⟩
  · exact (c6 i (by rw [a4]; exact hi)).trans (a6 i hi)
theorem sb_al_eq {b1 nm1 pc1 ts1 b2 nm2 pc2 ts2 : Int32} {kd1 f1 g1 nu1 as1 sr1 kd2 f2 g2 nu2 as2 sr2 : Nat → Int32} (h : sb_ap b1 nm1 pc1 ts1 kd1 f1 g1 nu1 as1 sr1 b2 nm2 pc2 ts2 kd2 f2 g2 nu2 as2 sr2) (x : Int32) (hx : sb_al ts2 sr2 x) : sb_al ts1 sr1 x := by
  obtain ⟨k, hk, e⟩ := hx
  rw [h.2.2.2.1] at hk
  exact ⟨k, hk, (h.2.2.2.2.2 k hk).symm.trans e⟩
/-- the nodes from b1 on are one tree with root s -/
def sb_tr (b1 b2 nm pc : Int32) (kd f g nu as : Nat → Int32) (A : Int32 → Prop) (h : Nat) (s : Int32) : Prop :=
  0 ≤ b1.toInt ∧ b1.toInt < b2.toInt ∧ b2.toInt ≤ 1200 ∧ s.toInt = b2.toInt - 1 ∧ ∃ n, sb_T kd f g nu as nm pc n h A b1.toInt.toNat b2.toInt.toNat
/-- a tree stays one while others are appended -/
theorem sb_tr_ap {b0 b1 b2 nm1 pc1 nm2 pc2 ts1 ts2 : Int32} {kd1 f1 g1 nu1 as1 sr1 kd2 f2 g2 nu2 as2 sr2 : Nat → Int32} {A : Int32 → Prop} {h : Nat} {s : Int32} (t : sb_tr b0 b1 nm1 pc1 kd1 f1 g1 nu1 as1 A h s) (k : sb_ap b1 nm1 pc1 ts1 kd1 f1 g1 nu1 as1 sr1 b2 nm2 pc2 ts2 kd2 f2 g2 nu2 as2 sr2) : sb_tr b0 b1 nm2 pc2 kd2 f2 g2 nu2 as2 A h s := by
  obtain ⟨a0, a1, a2, a3, n, t⟩ := t
  exact ⟨a0, a1, a2, a3, n, sb_T_eq k.2.1 k.2.2.1 n (fun i hi => k.2.2.2.2.1 i (by omega)) t⟩
theorem sb_tr_mono {b1 b2 nm pc : Int32} {kd f g nu as : Nat → Int32} {A A2 : Int32 → Prop} {h h2 : Nat} {s : Int32} (t : sb_tr b1 b2 nm pc kd f g nu as A h s) (hh : h ≤ h2) (hA : ∀ x, A x → A2 x) : sb_tr b1 b2 nm pc kd f g nu as A2 h2 s := by
  obtain ⟨a0, a1, a2, a3, n, t⟩ := t
  exact ⟨a0, a1, a2, a3, n, sb_T_mono n (Nat.le_refl _) hh hA t⟩
/-- a node more -/
theorem sb_ap_node {b nm pc ts x1 x2 x3 x4 x6 : Int32} {kd f g nu as sr : Nat → Int32} (h0 : 0 ≤ b) (h1 : b < 1200) : sb_ap b nm pc ts kd f g nu as sr (b + 1) nm pc ts (upd kd b.toNatClampNeg x1) (upd f b.toNatClampNeg x2) (upd g b.toNatClampNeg x3) (upd nu b.toNatClampNeg x4) (upd as b.toNatClampNeg x6) sr := by
  have a := i_nat (i_le.mp h0); have c := i_le.mp h0; have d := i_lt.mp h1
  rw [il_0] at c; rw [il_1200] at d
  have e : (b + 1).toInt = b.toInt + 1 := by rw [a_add, il_1]; omega
  refine ⟨i_le.mpr (by omega), Int32.le_refl _, Int32.le_refl _, rfl, fun i hi => ?_, fun _ _ => rfl⟩
  have hn : ¬ i = b.toNatClampNeg := by omega
  unfold upd
  simp only [if_neg hn, and_self]
section TRS
variable {b0 b nm pc s number asked : Int32} {kd f g nu as : Nat → Int32} {A : Int32 → Prop} {h : Nat}
theorem sb_b1 (h0 : 0 ≤ b) (h1 : b < 1200) : (b + 1).toInt = b.toInt + 1 ∧ (b.toNatClampNeg : Int) = b.toInt ∧ 0 ≤ b.toInt ∧ b.toInt < 1200 := by
  have a := i_nat (i_le.mp h0); have c := i_le.mp h0; have d := i_lt.mp h1
  rw [il_0] at c; rw [il_1200] at d
  exact ⟨by rw [a_add, il_1]; omega, a, c, d⟩
theorem sb_up (f : Nat → Int32) (j : Nat) (x : Int32) : upd f j x j = x := if_pos rfl
theorem tr_leaf {k : Int32} (h0 : 0 ≤ b) (h1 : b < 1200) (hh : 1 ≤ h) (hk : k = 0 ∨ k = 1 ∨ (k = 2 ∧ 0 ≤ number ∧ number < nm) ∨ (k = 9 ∧ A number)) : sb_tr b (b + 1) nm pc (upd kd b.toNatClampNeg k) (upd f b.toNatClampNeg (-1)) (upd g b.toNatClampNeg (-1)) (upd nu b.toNatClampNeg number) (upd as b.toNatClampNeg (-1)) A h b := by
  obtain ⟨e, a, c, d⟩ := sb_b1 h0 h1
  have e1 : b.toInt.toNat = b.toNatClampNeg := by omega
  have e2 : (b + 1).toInt.toNat = b.toNatClampNeg + 1 := by omega
  refine ⟨c, by omega, by omega, by omega, 1, ?_⟩
  rw [e1, e2]
  exact sb_T_leaf hh (sb_up ..) (sb_up ..) (sb_up ..) (by rw [sb_up, sb_up]; exact hk)
/-- one child -/
theorem tr_un {k : Int32} (t : sb_tr b0 b nm pc kd f g nu as (fun x => A x ∨ (k = 8 ∧ x = number)) h s) (h1 : b < 1200) (hk : (k = 4 ∧ 0 ≤ asked ∧ asked < pc) ∨ (k = 6 ∧ asked = -1) ∨ (k = 8 ∧ asked = -1)) : sb_tr b0 (b + 1) nm pc (upd kd b.toNatClampNeg k) (upd f b.toNatClampNeg s) (upd g b.toNatClampNeg (-1)) (upd nu b.toNatClampNeg number) (upd as b.toNatClampNeg asked) A (h + 2) b := by
  have ht := t
  obtain ⟨a0, a1, a2, a3, n, t⟩ := t
  have h0 : 0 ≤ b := i_le.mpr (by rw [il_0]; omega)
  obtain ⟨e, a, c, d⟩ := sb_b1 h0 h1
  have e1 : b.toInt.toNat = b.toNatClampNeg := by omega
  have e2 : (b + 1).toInt.toNat = b.toNatClampNeg + 1 := by omega
  obtain ⟨_, _, _, _, n, t2⟩ := sb_tr_ap ht (sb_ap_node (ts := 0) (sr := f) (x1 := k) (x2 := s) (x3 := -1) (x4 := number) (x6 := asked) h0 h1)
  rw [e1] at t2
  refine ⟨a0, by omega, by omega, by omega, n + 1, ?_⟩
  rw [e2]
  rcases hk with ⟨rfl, q1, q2⟩ | ⟨rfl, q1⟩ | ⟨rfl, q1⟩
  · exact sb_T_susp (sb_T_mono n (Nat.le_refl _) (Nat.le_refl _) (fun x hx => hx.elim id (fun q => absurd q.1 (by decide))) t2) (by rw [sb_up]; omega) (sb_up ..) (sb_up ..) (by rw [sb_up]; exact q1) (by rw [sb_up]; exact q2)
  · exact sb_T_loop (sb_T_mono n (Nat.le_refl _) (Nat.le_refl _) (fun x hx => hx.elim id (fun q => absurd q.1 (by decide))) t2) (by rw [sb_up]; omega) (sb_up ..) (sb_up ..) (by rw [sb_up]; exact q1)
  · exact sb_T_trap (sb_T_mono n (Nat.le_refl _) (Nat.le_refl _) (fun x hx => hx.elim Or.inl (fun q => .inr (by rw [sb_up]; exact q.2))) t2) (by rw [sb_up]; omega) (sb_up ..) (sb_up ..) (by rw [sb_up]; exact q1)
theorem tr_local (t : sb_tr b0 b nm pc kd f g nu as A h s) (h1 : b < 1200) (q2 : 0 ≤ number) (q3 : number < nm) : sb_tr b0 (b + 1) nm pc (upd kd b.toNatClampNeg 10) (upd f b.toNatClampNeg s) (upd g b.toNatClampNeg (-1)) (upd nu b.toNatClampNeg number) (upd as b.toNatClampNeg (-1)) A h b := by
  have ht := t
  obtain ⟨a0, a1, a2, a3, n, t⟩ := t
  have h0 : 0 ≤ b := i_le.mpr (by rw [il_0]; omega)
  obtain ⟨e, a, c, d⟩ := sb_b1 h0 h1
  have e1 : b.toInt.toNat = b.toNatClampNeg := by omega
  have e2 : (b + 1).toInt.toNat = b.toNatClampNeg + 1 := by omega
  obtain ⟨_, _, _, _, n, t2⟩ := sb_tr_ap ht (sb_ap_node (ts := 0) (sr := f) (x1 := 10) (x2 := s) (x3 := -1) (x4 := number) (x6 := -1) h0 h1)
  rw [e1] at t2
  refine ⟨a0, by omega, by omega, by omega, n + 1, ?_⟩
  rw [e2]
  exact sb_T_local t2 (by rw [sb_up]; omega) (sb_up ..) (sb_up ..) (sb_up ..) (by rw [sb_up]; exact q2) (by rw [sb_up]; exact q3)
/-- two children, a sequence or both; a spine of the same kind costs once -/
theorem tr_two {b1 s1 s2 k : Int32} {h1 : Nat} (t : sb_tr b0 b1 nm pc kd f g nu as A h1 s1) (u : sb_tr b1 b nm pc kd f g nu as A h s2) (e0 : h1 ≤ h ∨ (h1 ≤ h + 3 ∧ kd s1.toNatClampNeg = k)) (hb : b < 1200) (hk : k = 5 ∨ k = 7) : sb_tr b0 (b + 1) nm pc (upd kd b.toNatClampNeg k) (upd f b.toNatClampNeg s1) (upd g b.toNatClampNeg s2) (upd nu b.toNatClampNeg number) (upd as b.toNatClampNeg (-1)) A (h + 3) b := by
  have ht := t; have hu := u
  obtain ⟨a0, a1, a2, a3, n, t⟩ := t
  obtain ⟨c0, c1, c2, c3, n2, u⟩ := u
  have h0 : 0 ≤ b := i_le.mpr (by rw [il_0]; omega)
  obtain ⟨e, a, c, d⟩ := sb_b1 h0 hb
  have e1 : b.toInt.toNat = b.toNatClampNeg := by omega
  have e2 : (b + 1).toInt.toNat = b.toNatClampNeg + 1 := by omega
  have ap := sb_ap_node (nm := nm) (pc := pc) (kd := kd) (f := f) (g := g) (nu := nu) (as := as) (ts := 0) (sr := f) (x1 := k) (x2 := s1) (x3 := s2) (x4 := number) (x6 := -1) h0 hb
  obtain ⟨_, _, _, _, n4, u2⟩ := sb_tr_ap hu ap
  have t2 := sb_T_eq (Int32.le_refl nm) (Int32.le_refl pc) n (fun i hi => ap.2.2.2.2.1 i (by omega)) t
  rw [e1] at u2
  have es : s1.toNatClampNeg = b1.toInt.toNat - 1 := by have := i_nat (x := s1) (by omega); omega
  have hne : ¬ b1.toInt.toNat - 1 = b.toNatClampNeg := by omega
  refine ⟨a0, by omega, by omega, by omega, max n n4 + 1, ?_⟩
  rw [e2]
  refine sb_T_two (sb_T_mono n (by omega) (Nat.le_refl _) (fun _ h => h) t2) (sb_T_mono n4 (by omega) (Nat.le_refl _) (fun _ h => h) u2) ?_ (by rw [sb_up]; omega) (by rw [sb_up]; omega) (by rw [sb_up]; exact hk) (sb_up ..)
  rcases e0 with e0 | ⟨e0, e3⟩
  · exact .inl e0
  · refine .inr ⟨e0, ?_⟩
    rw [sb_up]
    show (if _ then _ else _) = _
    rw [if_neg hne, ← es]; exact e3
/-- a test: the two in either order -/
theorem tr_pres {b1 s1 s2 x y : Int32} (t : sb_tr b0 b1 nm pc kd f g nu as A h s1) (u : sb_tr b1 b nm pc kd f g nu as A h s2) (e0 : (x = s1 ∧ y = s2) ∨ (x = s2 ∧ y = s1)) (hb : b < 1200) (q1 : 0 ≤ asked) (q2 : asked < pc) : sb_tr b0 (b + 1) nm pc (upd kd b.toNatClampNeg 3) (upd f b.toNatClampNeg x) (upd g b.toNatClampNeg y) (upd nu b.toNatClampNeg number) (upd as b.toNatClampNeg asked) A (h + 2) b := by
  have ht := t; have hu := u
  obtain ⟨a0, a1, a2, a3, n, t⟩ := t
  obtain ⟨c0, c1, c2, c3, n2, u⟩ := u
  have h0 : 0 ≤ b := i_le.mpr (by rw [il_0]; omega)
  obtain ⟨e, a, c, d⟩ := sb_b1 h0 hb
  have e1 : b.toInt.toNat = b.toNatClampNeg := by omega
  have e2 : (b + 1).toInt.toNat = b.toNatClampNeg + 1 := by omega
  have ap := sb_ap_node (nm := nm) (pc := pc) (kd := kd) (f := f) (g := g) (nu := nu) (as := as) (ts := 0) (sr := f) (x1 := 3) (x2 := x) (x3 := y) (x4 := number) (x6 := asked) h0 hb
  obtain ⟨_, _, _, _, n4, u2⟩ := sb_tr_ap hu ap
  have t2 := sb_T_eq (Int32.le_refl nm) (Int32.le_refl pc) n (fun i hi => ap.2.2.2.2.1 i (by omega)) t
  rw [e1] at u2
  refine ⟨a0, by omega, by omega, by omega, max n n4 + 1, ?_⟩
  rw [e2]
  refine sb_T_pres (sb_T_mono n (by omega) (Nat.le_refl _) (fun _ h => h) t2) (sb_T_mono n4 (by omega) (Nat.le_refl _) (fun _ h => h) u2) ?_ (sb_up ..) (by rw [sb_up]; exact q1) (by rw [sb_up]; exact q2)
  rw [sb_up, sb_up]
  rcases e0 with ⟨rfl, rfl⟩ | ⟨rfl, rfl⟩
  · left; constructor <;> omega
  · right; constructor <;> omega
end TRS

