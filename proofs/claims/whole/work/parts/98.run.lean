theorem rg_suspended {T : mm_T3} {d : Nat} (hT : mm_SP3 T d) (S : md_S) (k p2 p3 : Int32) (h : Nat) (w : Int) (v : sb_RV S) (h0 : 0 ≤ k.toInt) (l : sb_ND S k.toInt.toNat h w) (hk : S.2.1 51 k.toInt.toNat = 4) (hd : h ≤ d + 1 + 1) (y : sb_WY S w p2) (b : sb_bo p3) : dc_wp (mm_suspended T S k p2 p3) (sb_RQ S) := by
  obtain ⟨e1, pr, g, w2, hg, hw, l1⟩ := nd_un l (.inl hk)
  have kx := sb_ix v h0 l
  have f0 : 0 ≤ (S.2.1 52 k.toInt.toNat).toInt := by omega
  have l1' : sb_ND S (S.2.1 52 k.toInt.toNat).toInt.toNat g w2 := by rw [show (S.2.1 52 k.toInt.toNat).toInt.toNat = k.toInt.toNat + 1 by omega]; exact l1
  have hkl := sb_ND_lt l
  obtain ⟨a1, a2, a3⟩ := rg_clear v hkl
  have L123 : ∀ S1, sb_RQ S S1 → dc_wp (mm_suspended_L123 T S1 p3) (sb_RQ S) := by
    intro S1 r
    have L134 : ∀ a b : Int32, dc_wp (mm_suspended_L134 T S1 a b) (sb_RQ S) := by
      intro a b
      unfold mm_suspended_L134
      refine dc_callI (mm_outcome_l S1 b a) ?_
      rintro q rfl
      exact dc_ret (sb_RQ_out r)
    unfold mm_suspended_L123
    exact dc_ifI (fun _ => L134 _ _) (fun _ => L134 _ _)
  have L68 : ∀ S1 x4, sb_RQ S S1 → dc_wp (mm_suspended_L68 T S1 k p3 x4) (sb_RQ S) := by
    intro S1 x4 r
    unfold mm_suspended_L68
    refine dc_ifI (fun _ => ?_) (fun _ => dc_ret r)
    refine dc_ixT h0 (by show k.toInt < 1201; omega) ?_
    refine dc_letB ?_; intro v9 h9
    rw [r.1.2.1 62 (by decide)] at h9
    unfold mm_suspended_L83
    refine dc_loopI (fun z => sb_RQ S z.1 ∧ (0 ≤ z.2.toInt ∧ z.2.toInt ≤ 200)) (fun z => (200 - z.2.toInt).toNat) ⟨r, by rw [h9]; exact a1⟩ ?_
    rintro ⟨S2, x5⟩ ⟨r2, hx⟩
    replace hx : 0 ≤ x5.toInt ∧ x5.toInt ≤ 200 := hx
    replace r2 : sb_RQ S S2 := r2
    unfold mm_suspended_s83 mm_suspended_b83
    refine dc_ixT h0 kx ?_
    rw [r2.1.2.1 59 (by decide), r2.1.2.1 62 (by decide), r2.1.2.1 74 (by decide)]
    refine dc_ixT a2.1 (by show _ < (1201 : Int); omega) ?_
    refine dc_ifI (fun hlt => ?_) (fun _ => dc_ret (L123 S2 r2))
    have hlt : x5.toInt < (S.2.1 62 (S.2.1 59 k.toInt.toNat).toInt.toNat).toInt := i_lt.mp hlt
    refine dc_ifI (fun _ => dc_ret (L123 S2 r2)) (fun _ => ?_)
    refine dc_ixT hx.1 (by show x5.toInt < 200; omega) ?_
    refine dc_zbI (v.2.2 x5.toInt.toNat (by omega)) ?_
    refine dc_ixT hx.1 (by show x5.toInt < 200; omega) ?_
    refine dc_letB ?_; intro S7 h7
    have e := ar1 hx.1 (by omega)
    refine dc_ret ⟨⟨⟨⟨fun j hj => by rw [h7]; exact r2.1.1 j hj, fun j hj => ?_, fun _ => by rw [h7]; exact r2.1.2.2.1 rfl, fun _ => by rw [h7]; exact r2.1.2.2.2 rfl⟩, by rw [h7]; exact r2.2.1, by rw [h7]; exact r2.2.2⟩, by show 0 ≤ (x5 + 1).toInt ∧ (x5 + 1).toInt ≤ 200; omega⟩, ?_⟩
    · rw [h7, md_a2, if_neg (fun h => hj (by rw [h]; decide))]; exact r2.1.2.1 j hj
    · show (200 - (x5 + 1).toInt).toNat < (200 - x5.toInt).toNat
      rw [e]; exact inc_ms hx.1 (by omega)
  have L51 : ∀ S1 x4, sb_RQ S S1 → dc_wp (mm_suspended_L51 T S1 k p3 x4) (sb_RQ S) := by
    intro S1 x4 r
    unfold mm_suspended_L51
    refine dc_ifI (fun _ => ?_) (fun _ => L68 _ _ r)
    refine dc_callI (mm_outcome_l S1 _ _) ?_
    rintro q rfl
    exact L68 _ _ (sb_RQ_out r)
  have L18 : ∀ S1 y0, sb_RQ S S1 → dc_wp (mm_suspended_L18 T S1 k p2 p3 y0) (sb_RQ S) := by
    intro S1 y0 r
    unfold mm_suspended_L18
    refine dc_ifI (fun _ => L51 _ _ r) (fun _ => ?_)
    refine dc_ixT h0 kx ?_
    rw [r.1.2.1 52 (by decide)]
    have L48 : ∀ z, sb_bo z → dc_wp (mm_suspended_L48 T S1 k p3 y0 z p2 (S.2.1 52 k.toInt.toNat)) (sb_RQ S) := by
      intro z hz
      unfold mm_suspended_L48
      exact dc_callI (hT.1 S1 _ p2 z g w2 (sb_RQ_RV r v) f0 (sb_RQ_ND r l1') (by omega) (sb_WY_RQ r hw y) hz) (fun q r2 => L51 _ _ (sb_RQ_tr r r2))
    refine dc_ifI (fun _ => L48 _ (.inl rfl)) (fun _ => ?_)
    exact dc_ifI (fun _ => L48 _ (.inr rfl)) (fun _ => L48 _ (.inl rfl))
  unfold mm_suspended
  refine dc_ifI (fun hp => ?_) (fun hp => L18 S 0 (sb_RQ_rf v.2.1))
  refine dc_ixT h0 kx ?_
  refine dc_callI (dc_wpw (mm_truth_l v.1 v.2.1 (pr hk)) (mm_truth_fr S _)) ?_
  rintro q8 ⟨_, f8⟩
  exact L18 _ _ ⟨md_fr_sub f8 (by decide) (by decide), ⟨by rw [f8.2.1 73 (by decide)]; exact v.2.1.1, by rw [f8.2.1 71 (by decide)]; exact v.2.1.2⟩, f8.1 79 (by decide)⟩
/-- a spine from a down to x -/
def sb_SP (S : md_S) (kd : Int32) (h : Nat) (w : Int) (a x : Int) : Prop := a ≤ x ∧ (∃ g, (g + 3 ≤ h ∨ (g ≤ h ∧ S.2.1 51 x.toNat = kd)) ∧ sb_ND S x.toNat g w) ∧ ∀ j : Nat, a ≤ (j : Int) → (j : Int) < x → (S.2.1 58 (j + 1)).toInt = (j : Int) ∧ ∃ m g : Nat, ∃ w2, (S.2.1 53 j).toInt = (m : Int) ∧ g + 3 ≤ h ∧ w ≤ w2 ∧ sb_ND S m g w2 ∧ (S.2.1 57 j).toInt = w
theorem sb_SP_0 {S : md_S} {kd : Int32} {h : Nat} {w a : Int} (l : sb_ND S a.toNat h w) (hk : S.2.1 51 a.toNat = kd) : sb_SP S kd h w a a := ⟨Int.le_refl _, ⟨h, .inr ⟨Nat.le_refl _, hk⟩, l⟩, fun j h1 h2 => by omega⟩
theorem sb_SP_s {S : md_S} {kd : Int32} {h : Nat} {w a x : Int} (h0 : 0 ≤ x) (s : sb_SP S kd h w a x) (hk : S.2.1 51 x.toNat = kd) (hkd : kd = 5 ∨ kd = 7) : (S.2.1 52 x.toNat).toInt = x + 1 ∧ sb_SP S kd h w a (x + 1) := by
  obtain ⟨s1, ⟨g, s2, l⟩, s3⟩ := s
  obtain ⟨e1, e2, ⟨g1, c1, l1⟩, m, g2, w2, c2, c3, c4, l2⟩ := nd_two l (by rw [hk]; exact hkd)
  have en : (x + 1).toNat = x.toNat + 1 := nat_up h0
  have hg : g ≤ h := by rcases s2 with s2 | s2 <;> omega
  refine ⟨by omega, by omega, ⟨g1, ?_, by rw [en]; exact l1⟩, fun j h1 h2 => ?_⟩
  · rw [en]
    rcases c1 with c1 | ⟨c1, c1'⟩
    · exact .inl (by omega)
    · exact .inr ⟨by omega, c1'.trans hk⟩
  · by_cases hz : (j : Int) < x
    · exact s3 j h1 hz
    · rw [show j = x.toNat by omega]
      exact ⟨by rw [e2], m, g2, w2, c2, by omega, c4, l2, nd_w l⟩
theorem sb_SP_RQ {S q : md_S} (r : sb_RQ S q) {kd : Int32} {h : Nat} {w a x : Int} (s : sb_SP S kd h w a x) : sb_SP q kd h w a x := by
  obtain ⟨s1, ⟨g, s2, l⟩, s3⟩ := s
  unfold sb_SP
  rw [r.1.2.1 51 (by decide), r.1.2.1 53 (by decide), r.1.2.1 57 (by decide), r.1.2.1 58 (by decide)]
  refine ⟨s1, ⟨g, s2, sb_RQ_ND r l⟩, fun j h1 h2 => ?_⟩
  obtain ⟨e, m, g, w2, c1, c2, c3, l, c4⟩ := s3 j h1 h2
  exact ⟨e, m, g, w2, c1, c2, c3, sb_RQ_ND r l, c4⟩
theorem sb_SP_lt {S : md_S} {kd : Int32} {h : Nat} {w a x : Int} (h0 : 0 ≤ x) (s : sb_SP S kd h w a x) : x < (S.1 42).toInt := by
  obtain ⟨s1, ⟨g, s2, l⟩, s3⟩ := s
  have := sb_ND_lt l
  omega
theorem sp_up {x y : Int32} {p : Int} (h0 : 0 ≤ p) (h : p ≤ x.toInt) (hn : ¬ x.toInt = p) (e : y.toInt = ((x.toInt.toNat - 1 : Nat) : Int)) : y.toInt = x.toInt - 1 ∧ p ≤ y.toInt := by omega
theorem sp_i {x p : Int} (h0 : 0 ≤ p) (h : p ≤ x) (hn : ¬ x = p) : p ≤ ((x.toNat - 1 : Nat) : Int) ∧ ((x.toNat - 1 : Nat) : Int) < x ∧ x.toNat - 1 + 1 = x.toNat := by omega
def sb_SU (S : md_S) (h : Nat) (w : Int) (a x : Int) : Prop := (a ≤ x ∧ x < (S.1 42).toInt) ∧ ∀ j : Nat, a ≤ (j : Int) → (j : Int) < x → (S.2.1 58 (j + 1)).toInt = (j : Int) ∧ ∃ m g : Nat, ∃ w2, (S.2.1 53 j).toInt = (m : Int) ∧ g + 3 ≤ h ∧ w ≤ w2 ∧ sb_ND S m g w2 ∧ (S.2.1 57 j).toInt = w
theorem sb_SP_SU {S : md_S} {kd : Int32} {h : Nat} {w a x : Int} (h0 : 0 ≤ x) (s : sb_SP S kd h w a x) : sb_SU S h w a x := ⟨⟨s.1, sb_SP_lt h0 s⟩, s.2.2⟩
/-- one step up a spine -/
theorem sb_SU_up {S : md_S} {h : Nat} {w : Int} {k x v2 : Int32} (h0 : 0 ≤ k.toInt) (s2 : sb_SU S h w k.toInt x.toInt) (hn : ¬ x = k) (hv2 : v2 = S.2.1 58 x.toInt.toNat) : (0 ≤ v2.toInt ∧ v2.toInt < (S.1 42).toInt ∧ v2.toInt.toNat < x.toInt.toNat) ∧ sb_SU S h w k.toInt v2.toInt ∧ ∃ m g : Nat, ∃ w2, (S.2.1 53 v2.toInt.toNat).toInt = (m : Int) ∧ g + 3 ≤ h ∧ w ≤ w2 ∧ sb_ND S m g w2 ∧ (S.2.1 57 v2.toInt.toNat).toInt = w := by
  have hn' : ¬ x.toInt = k.toInt := fun e => hn (i_eq.mpr e)
  obtain ⟨⟨b1, b2⟩, b3⟩ := s2
  obtain ⟨i1, i2, i3⟩ := sp_i h0 b1 hn'
  obtain ⟨e, m, g, w2, c1, c2, c3, l2, c4⟩ := b3 (x.toInt.toNat - 1) i1 i2
  rw [i3, ← hv2] at e
  obtain ⟨j1, j2⟩ := sp_up h0 b1 hn' e
  have jn : v2.toInt.toNat = x.toInt.toNat - 1 := by rw [e]; rfl
  refine ⟨⟨by omega, by omega, by omega⟩, ⟨⟨j2, by omega⟩, fun j h1 h2 => b3 j h1 (by omega)⟩, m, g, w2, by rw [jn]; exact c1, c2, c3, l2, by rw [jn]; exact c4⟩
theorem sp_m {x n : Int} (h0 : 0 ≤ x) (h : x < n) : (n - (x + 1)).toNat < (n - x).toNat := by omega
theorem rg_sequence {T : mm_T3} {d : Nat} (hT : mm_SP3 T d) (S : md_S) (k p2 p3 : Int32) (h : Nat) (w : Int) (v : sb_RV S) (h0 : 0 ≤ k.toInt) (l : sb_ND S k.toInt.toNat h w) (hk : S.2.1 51 k.toInt.toNat = 5) (hd : h ≤ d + 1 + 1) (y : sb_WY S w p2) (b : sb_bo p3) : dc_wp (mm_sequence T S k p2 p3) (sb_RQ S) := by
  have n42 := sb_42 v
  have L79 : ∀ S1 (x4 : Int32), sb_RQ S S1 → sb_SU S h w k.toInt x4.toInt → dc_wp (mm_sequence_L79 T S1 k p2 p3 x4) (sb_RQ S) := by
    intro S1 x4 r s
    unfold mm_sequence_L79
    refine dc_loopI (fun z => sb_RQ S z.1 ∧ sb_SU S h w k.toInt z.2.toInt) (fun z => z.2.toInt.toNat) ⟨r, s⟩ ?_
    rintro ⟨S2, x⟩ ⟨r2, s2⟩
    replace r2 : sb_RQ S S2 := r2
    replace s2 : sb_SU S h w k.toInt x.toInt := s2
    unfold mm_sequence_s79 mm_sequence_b79
    refine dc_ifI (fun _ => dc_ret (dc_ret r2)) (fun hn => ?_)
    have x0 : 0 ≤ x.toInt := Int.le_trans h0 s2.1.1
    have x1 : x.toInt < ((1200 : Nat) : Int) := by have := s2.1.2; show x.toInt < 1200; omega
    refine dc_ixT x0 x1 ?_
    refine dc_letB ?_; intro v2 hv2
    replace hv2 : v2 = S2.2.1 58 x.toInt.toNat := hv2
    rw [r2.1.2.1 58 (by decide)] at hv2
    obtain ⟨⟨j0, j1, j2⟩, su, m, g, w2, c1, c2, c3, l2, c4⟩ := sb_SU_up h0 s2 hn hv2
    clear hv2
    have vr := sb_RQ_RV r2 v
    refine dc_ixT j0 (by show v2.toInt < 1200; omega) ?_
    rw [r2.1.2.1 53 (by decide)]
    refine dc_callI (hT.2.2.2.2.1 S2 v2 _ p2 p3 g w2 vr j0 (by rw [r2.1.1 42 (by decide)]; exact j1) (by rw [r2.1.2.1 57 (by decide), c4]; exact c3) (by rw [c1]; omega) (by rw [c1]; exact sb_RQ_ND r2 l2) (by omega) (sb_WY_RQ r2 c3 y) b) (fun q4 r4 => ?_)
    exact dc_ret ⟨⟨sb_RQ_tr r2 r4, su⟩, j2⟩
  have L44 : ∀ x : Int32, sb_SP S 5 h w k.toInt x.toInt → (S.2.1 51 x.toInt.toNat = 5 → p2 = 0) → dc_wp (mm_sequence_L44 T S k p2 p3 x) (sb_RQ S) := by
    intro x s hp
    have x0 : 0 ≤ x.toInt := Int.le_trans h0 s.1
    have x1 : x.toInt < ((1200 : Nat) : Int) := by have := sb_SP_lt x0 s; show x.toInt < 1200; omega
    have su := sb_SP_SU x0 s
    obtain ⟨s1, ⟨g, s2, lx⟩, s3⟩ := s
    unfold mm_sequence_L44
    refine dc_ixT x0 x1 ?_
    refine dc_ifI (fun h5 => ?_) (fun h5 => ?_)
    · refine dc_ixT x0 x1 ?_
      obtain ⟨e1, e2, _, m, g2, w2, c2, c3, c4, l2⟩ := nd_two lx (.inl h5)
      have hp := hp h5
      refine dc_callI (hT.1 S _ 0 p3 g2 w2 v (by rw [c2]; omega) (by rw [c2]; exact l2) ?_ (fun h => absurd rfl h) b) (fun q7 r7 => L79 _ _ r7 su)
      rcases s2 with s2 | s2 <;> omega
    · have s2 : g + 3 ≤ h := by
        rcases s2 with s2 | ⟨_, s2⟩
        · exact s2
        · exact absurd s2 h5
      exact dc_callI (hT.1 S x p2 p3 g w v x0 lx (by omega) y b) (fun q7 r7 => L79 _ _ r7 su)
  unfold mm_sequence mm_sequence_L3
  refine dc_loopI (fun x : Int32 => sb_SP S 5 h w k.toInt x.toInt) (fun x => ((S.1 42).toInt - x.toInt).toNat) (sb_SP_0 l hk) ?_
  intro x s
  have x0 : 0 ≤ x.toInt := Int.le_trans h0 s.1
  have xl := sb_SP_lt x0 s
  have x1 : x.toInt < ((1200 : Nat) : Int) := by show x.toInt < 1200; omega
  have L32 : S.2.1 51 x.toInt.toNat = 5 → dc_wp (mm_sequence_L32 T S k p2 p3 x) (Sum.elim (fun y => sb_SP S 5 h w k.toInt y.toInt ∧ ((S.1 42).toInt - y.toInt).toNat < ((S.1 42).toInt - x.toInt).toNat) (fun z => dc_wp (mm_sequence_L44 T S k p2 p3 z) (sb_RQ S))) := by
    intro h5
    obtain ⟨e, sn⟩ := sb_SP_s x0 s h5 (.inl rfl)
    unfold mm_sequence_L32
    refine dc_ixT x0 x1 ?_
    refine dc_letB ?_; rintro _ rfl
    refine dc_ret ⟨?_, ?_⟩
    · show sb_SP S 5 h w k.toInt (S.2.1 52 x.toInt.toNat).toInt
      rw [e]; exact sn
    · show ((S.1 42).toInt - (S.2.1 52 x.toInt.toNat).toInt).toNat < _
      rw [e]; exact sp_m x0 xl
  unfold mm_sequence_s3 mm_sequence_b3
  refine dc_ixT x0 x1 ?_
  refine dc_ifI (fun h5 => ?_) (fun h5 => dc_ret (L44 x s (fun h => absurd h h5)))
  refine dc_ifI (fun hp => ?_) (fun _ => L32 h5)
  obtain ⟨e, sn⟩ := sb_SP_s x0 s h5 (.inl rfl)
  refine dc_ixT x0 x1 ?_
  refine dc_callI (mm_has_l v.1 (by rw [e]; omega) (by rw [e]; have := sb_SP_lt (by omega) sn; exact this)) (fun q _ => ?_)
  exact dc_ifI (fun _ => dc_ret (L44 x s (fun _ => hp))) (fun _ => L32 h5)
theorem rg_both {T : mm_T3} {d : Nat} (hT : mm_SP3 T d) (S : md_S) (k p2 p3 : Int32) (h : Nat) (w : Int) (v : sb_RV S) (h0 : 0 ≤ k.toInt) (l : sb_ND S k.toInt.toNat h w) (hk : S.2.1 51 k.toInt.toNat = 7) (hd : h ≤ d + 1 + 1) (y : sb_WY S w p2) (b : sb_bo p3) : dc_wp (mm_both T S k p2 p3) (sb_RQ S) := by
  have n42 := sb_42 v
  have L35 : ∀ S1 (x4 : Int32), sb_RQ S S1 → sb_SU S h w k.toInt x4.toInt → dc_wp (mm_both_L35 T S1 k p2 p3 x4) (sb_RQ S) := by
    intro S1 x4 r s
    unfold mm_both_L35
    refine dc_loopI (fun z => sb_RQ S z.1 ∧ sb_SU S h w k.toInt z.2.toInt) (fun z => z.2.toInt.toNat) ⟨r, s⟩ ?_
    rintro ⟨S2, x⟩ ⟨r2, s2⟩
    replace r2 : sb_RQ S S2 := r2
    replace s2 : sb_SU S h w k.toInt x.toInt := s2
    unfold mm_both_s35 mm_both_b35
    refine dc_ifI (fun _ => dc_ret (dc_ret r2)) (fun hn => ?_)
    have x0 : 0 ≤ x.toInt := Int.le_trans h0 s2.1.1
    have x1 : x.toInt < ((1200 : Nat) : Int) := by have := s2.1.2; show x.toInt < 1200; omega
    refine dc_ixT x0 x1 ?_
    refine dc_letB ?_; intro v2 hv2
    replace hv2 : v2 = S2.2.1 58 x.toInt.toNat := hv2
    rw [r2.1.2.1 58 (by decide)] at hv2
    obtain ⟨⟨j0, j1, j2⟩, su, m, g, w2, c1, c2, c3, l2, c4⟩ := sb_SU_up h0 s2 hn hv2
    clear hv2
    have vr := sb_RQ_RV r2 v
    refine dc_letB ?_; rintro _ rfl
    refine dc_letB ?_; rintro _ rfl
    refine dc_ixT j0 (by show v2.toInt < 1200; omega) ?_
    rw [r2.1.2.1 53 (by decide)]
    refine dc_callI (hT.2.2.2.2.2.2.1 S2 _ p2 p3 g w2 vr (by rw [c1]; omega) (by rw [c1]; exact sb_RQ_ND r2 l2) (by omega) (sb_WY_RQ r2 c3 y) b) (fun q7 r7 => ?_)
    have r7' := sb_RQ_tr r2 r7
    refine dc_callI (mm_pairs_s _ _) (fun q8 _ => ?_)
    have L112 : ∀ a b : Int32, dc_wp (mm_both_L112 T q7 k p2 p3 v2 a b) (Sum.elim (fun z => (sb_RQ S z.1 ∧ sb_SU S h w k.toInt z.2.toInt) ∧ z.2.toInt.toNat < x.toInt.toNat) (fun z => dc_wp (mm_both_L118 T z) (sb_RQ S))) := by
      intro a b
      unfold mm_both_L112
      refine dc_callI (mm_outcome_l q7 b a) ?_
      rintro q rfl
      exact dc_ret ⟨⟨sb_RQ_out r7', su⟩, j2⟩
    refine dc_ifI (fun _ => L112 _ _) (fun _ => ?_)
    exact dc_ifI (fun _ => L112 _ _) (fun _ => L112 _ _)
  unfold mm_both mm_both_L3
  refine dc_loopI (fun x : Int32 => sb_SP S 7 h w k.toInt x.toInt) (fun x => ((S.1 42).toInt - x.toInt).toNat) (sb_SP_0 l hk) ?_
  intro x s
  have x0 : 0 ≤ x.toInt := Int.le_trans h0 s.1
  have xl := sb_SP_lt x0 s
  have x1 : x.toInt < ((1200 : Nat) : Int) := by show x.toInt < 1200; omega
  unfold mm_both_s3 mm_both_b3
  refine dc_ixT x0 x1 ?_
  refine dc_ifI (fun h7 => ?_) (fun h7 => ?_)
  · obtain ⟨e, sn⟩ := sb_SP_s x0 s h7 (.inr rfl)
    refine dc_ixT x0 x1 ?_
    refine dc_letB ?_; rintro _ rfl
    refine dc_ret ⟨?_, ?_⟩
    · show sb_SP S 7 h w k.toInt (S.2.1 52 x.toInt.toNat).toInt
      rw [e]; exact sn
    · show ((S.1 42).toInt - (S.2.1 52 x.toInt.toNat).toInt).toNat < _
      rw [e]; exact sp_m x0 xl
  · refine dc_ret ?_
    show dc_wp (mm_both_L27 T S k p2 p3 x) _
    have su := sb_SP_SU x0 s
    obtain ⟨s1, ⟨g, s2, lx⟩, s3⟩ := s
    have s2 : g + 3 ≤ h := by
      rcases s2 with s2 | ⟨_, s2⟩
      · exact s2
      · exact absurd s2 h7
    unfold mm_both_L27
    exact dc_callI (hT.2.2.2.2.2.2.1 S x p2 p3 g w v x0 lx (by omega) y b) (fun q7 r7 => L35 _ _ r7 su)
