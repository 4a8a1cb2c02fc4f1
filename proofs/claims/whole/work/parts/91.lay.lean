theorem i_2k {x : Int32} (h0 : 0 ≤ x.toInt) (h : x.toInt ≤ 100000) : (2 * x).toInt = 2 * x.toInt ∧ (2 * x + 1).toInt = 2 * x.toInt + 1 := by
  have a : (2 * x).toInt = 2 * x.toInt := by rw [a_mul, il_2]; omega
  exact ⟨a, by rw [a_add, il_1, a]; omega⟩
theorem sb_LO_QS {S q : md_S} {pp : Int} {c : Nat} {y : Int} (h : sb_LR S q pp c y) {x : Int32} (hx : sb_QS S x) : sb_QS q x := by
  unfold sb_QS at *
  rw [h.1.1 15 (by decide), h.1.1 28 (by decide), h.1.2.1 36 (by decide), h.1.2.1 37 (by decide), h.1.2.1 38 (by decide)]; exact hx
/-- the rest of a tree is laid once what lies below is -/
def sb_LK (S q : md_S) (pp : Int) (c : Nat) (y : Int) (n h : Nat) (w : Int) (t : Int32) (dn : Int) : Prop :=
  sb_LR S q pp c y ∧ sb_LI q ∧ sb_L q n h w t (S.1 42).toInt.toNat c ∧ sb_EX q (S.1 42).toInt ((S.1 42).toInt + c) ∧ (sb_cl (q.2.1 51) (q.1 42).toInt.toNat : Int) ≤ (sb_cl (S.2.1 51) (S.1 42).toInt.toNat : Int) + dn
theorem sb_LR_L {S q : md_S} {pp : Int} {c : Nat} {y : Int} (h : sb_LR S q pp c y) {n g : Nat} {w : Int} {t : Int32} {k c1 : Nat} (hk : ((k + c1 : Nat) : Int) ≤ (S.1 42).toInt) (hpp : ∀ j : Nat, k ≤ j → j < k + c1 → ¬ pp = 2 * (j : Int) ∧ ¬ pp = 2 * (j : Int) + 1) (l : sb_L S n g w t k c1) : sb_L q n g w t k c1 := by
  refine sb_L_eq h.2.2.2.2.1 h.2.2.2.1 n (fun j h1 h2 => ?_) l
  obtain ⟨⟨x1, x2, x3, x4, x5, x6⟩, x7, x8, _⟩ := h.2.2.1 j (by omega)
  obtain ⟨p1, p2⟩ := hpp j h1 h2
  exact ⟨⟨x1, x7 p1, x8 p2, x3, x5⟩, fun _ => x4, fun _ _ => x2⟩
theorem sb_cl_up {kd : Nat → Int32} {n : Nat} : sb_cl kd (n + 1) = sb_cl kd n + if kd n = 10 then 1 else 0 := rfl
/-- one node, one child -/
theorem lk_un {S S1 q : md_S} {pp y : Int} {r : Nat} {w w2 : Int} {t t2 : Int32} {c n g : Nat} {h : Nat} {dn dn2 : Int} (h0 : 0 ≤ (S.1 42).toInt) (lo : sb_LO S S1 pp r w t y) (lk : sb_LK S1 q (2 * (S.1 42).toInt) c y n g w2 t2 dn)
    (hk : (S.2.1 30 r = 4 ∧ ¬ S.2.1 35 r = -1 ∧ g + 2 ≤ h ∧ w2 = w ∧ t2 = t) ∨ (S.2.1 30 r = 6 ∧ S.2.1 35 r = -1 ∧ g + 2 ≤ h ∧ w2 = w + 1 ∧ t2 = t) ∨ (S.2.1 30 r = 8 ∧ S.2.1 35 r = -1 ∧ g + 2 ≤ h ∧ w2 = w ∧ t2 = Int32.ofNat (S.1 42).toInt.toNat) ∨ (S.2.1 30 r = 10 ∧ S.2.1 35 r = -1 ∧ (0 ≤ (S.2.1 33 r).toInt ∧ (S.2.1 33 r).toInt < 400) ∧ g = h ∧ w2 = w ∧ t2 = t))
    (hd : dn + (if S.2.1 30 r = 10 then 1 else 0) ≤ dn2) : sb_LK S q pp (c + 1) y (n + 1) h w t dn2 := by
  obtain ⟨l1, l2, l3, l4, l5, l6, l7, l8, l9, l10⟩ := lo
  obtain ⟨m1, m2, m3, m4, m5⟩ := lk
  have e42 := l1.2.1
  have en : (S1.1 42).toInt.toNat = (S.1 42).toInt.toNat + 1 := by omega
  rw [en] at m3 m5
  obtain ⟨⟨x1, x2, x3, x4, x5, x6⟩, x7, x8, x9, x10⟩ := m1.2.2.1 (S.1 42).toInt.toNat (by omega)
  have x9 := x9 (by omega)
  have x8 := x8 (by omega)
  have ek : ((S.1 42).toInt.toNat : Int) = (S.1 42).toInt := by omega
  have n51 : q.2.1 51 (S.1 42).toInt.toNat = S.2.1 30 r := x1.trans l3
  have hne9 : ¬ S.2.1 30 r = 9 := by rcases hk with ⟨h, _⟩ | ⟨h, _⟩ | ⟨h, _⟩ | ⟨h, _⟩ <;> rw [h] <;> decide
  refine ⟨sb_LR_un l1 m1, m2, ?_, fun j h1 h2 h3 => ?_, ?_⟩
  · unfold sb_L
    refine ⟨⟨by rw [x3]; exact l6, by rw [x5]; exact l7⟩, .inr (.inl ⟨c, rfl, by rw [x9.1]; omega, by rw [x8]; exact l5, by rw [en] at x9; rw [x9.2], ?_⟩)⟩
    rw [n51, x2]
    rcases hk with ⟨k1, k2, k3, rfl, rfl⟩ | ⟨k1, k2, k3, rfl, rfl⟩ | ⟨k1, k2, k3, rfl, rfl⟩ | ⟨k1, k2, k4, rfl, rfl, rfl⟩
    · exact .inl ⟨k1, m1.2.2.2.1 _ (l9 k2), g, k3, m3⟩
    · exact .inr (.inl ⟨k1, g, k3, m3⟩)
    · exact .inr (.inr (.inl ⟨k1, g, k3, m3⟩))
    · refine .inr (.inr (.inr ⟨k1, ?_, m3⟩))
      rw [l10 (by rw [k1]; decide) k2]; exact k4
  · by_cases hz : (j : Int) = (S.1 42).toInt
    · rw [show j = (S.1 42).toInt.toNat by omega, n51] at h3; exact absurd h3 hne9
    · exact m4 j (by omega) (by omega) h3
  · have c1 : sb_cl (S1.2.1 51) (S.1 42).toInt.toNat = sb_cl (S.2.1 51) (S.1 42).toInt.toNat := sb_cl_eq (fun j hj => (l1.2.2.1 j (by omega)).1.1)
    rw [sb_cl_up, c1, l3] at m5
    split at m5 <;> split at hd <;> omega
/-- one node, two children -/
theorem lk_two {S S1 q q2 : md_S} {pp y : Int} {r : Nat} {w w2 : Int} {t : Int32} {c c2 n g g2 : Nat} {h : Nat} {dn dn1 dn2 : Int} (h0 : 0 ≤ (S.1 42).toInt) (lo : sb_LO S S1 pp r w t y) (lk : sb_LK S1 q (2 * (S.1 42).toInt) c (y + 1) n g w t dn) (lm : sb_LK q q2 (2 * (S.1 42).toInt + 1) c2 y n g2 w2 t dn1)
    (hk : (S.2.1 30 r = 3 ∧ ¬ S.2.1 35 r = -1 ∧ g = g2 ∧ g + 2 ≤ h ∧ w2 = w) ∨ ((S.2.1 30 r = 5 ∨ S.2.1 30 r = 7) ∧ S.2.1 35 r = -1 ∧ 3 ≤ h ∧ (g + 3 ≤ h ∨ (g ≤ h ∧ q.2.1 51 ((S.1 42).toInt.toNat + 1) = S.2.1 30 r)) ∧ g2 + 3 ≤ h ∧ w2 = w + if S.2.1 30 r = 5 then 1 else 0))
    (hd : dn + dn1 ≤ dn2) : sb_LK S q2 pp (c + c2 + 1) y (n + 1) h w t dn2 := by
  obtain ⟨l1, l2, l3, l4, l5, l6, l7, l8, l9, l10⟩ := lo
  obtain ⟨m1, m2, m3, m4, m5⟩ := lk
  obtain ⟨r1, r2, r3, r4, r5⟩ := lm
  have e42 := l1.2.1
  have f42 := m1.2.1
  have en : (S1.1 42).toInt.toNat = (S.1 42).toInt.toNat + 1 := by omega
  have eq : (q.1 42).toInt.toNat = (S.1 42).toInt.toNat + 1 + c := by omega
  rw [en] at m3 m5
  rw [eq] at r3 r5 m5
  have p1 := sb_L_pos m3
  obtain ⟨⟨x1, x2, x3, x4, x5, x6⟩, x7, x8, x9, x10⟩ := m1.2.2.1 (S.1 42).toInt.toNat (by omega)
  obtain ⟨⟨y1, y2, y3, y4, y5, y6⟩, y7, y8, y9, y10⟩ := r1.2.2.1 (S.1 42).toInt.toNat (by omega)
  obtain ⟨⟨z1, z2, z3, z4, z5, z6⟩, _⟩ := r1.2.2.1 ((S.1 42).toInt.toNat + 1) (by omega)
  have x9 := x9 (by omega)
  have y7 := y7 (by omega)
  have y10 := y10 (by omega)
  have n51 : q2.2.1 51 (S.1 42).toInt.toNat = S.2.1 30 r := y1.trans (x1.trans l3)
  have hne9 : ¬ S.2.1 30 r = 9 ∧ ¬ S.2.1 30 r = 10 := by
    rcases hk with ⟨h, _⟩ | ⟨h | h, _⟩ <;> rw [h] <;> decide
  have m3' : sb_L q2 n g w t ((S.1 42).toInt.toNat + 1) c := by
    refine sb_LR_L r1 (by omega) (fun j h1 h2 => ⟨ar_od, ?_⟩) m3
    omega
  refine ⟨sb_LR_two l1 m1 r1, r2, ?_, fun j h1 h2 h3 => ?_, ?_⟩
  · unfold sb_L
    refine ⟨⟨by rw [y3, x3]; exact l6, by rw [y5, x5]; exact l7⟩, .inr (.inr ⟨c, c2, rfl, ?_, ?_, ?_, ?_, ?_⟩)⟩
    · rw [y7, x9.1]; omega
    · rw [y10.1]; omega
    · rw [z4]; rw [en] at x9; rw [x9.2]
    · rw [eq] at y10; rw [y10.2]
    · rw [n51, y2, x2, z1]
      rcases hk with ⟨k1, k2, rfl, k3, rfl⟩ | ⟨k1, k2, k3, k4, k5, rfl⟩
      · exact .inl ⟨k1, r1.2.2.2.1 _ (m1.2.2.2.1 _ (l9 k2)), g, k3, m3', r3⟩
      · exact .inr ⟨k1, k3, ⟨g, k4, m3'⟩, g2, k5, r3⟩
  · by_cases hz : (j : Int) = (S.1 42).toInt
    · rw [show j = (S.1 42).toInt.toNat by omega, n51] at h3; exact absurd h3 hne9.1
    · by_cases hy : (j : Int) < (q.1 42).toInt
      · exact sb_LR_EX r1 (Int.le_refl _) (fun j a b => m4 j a (by omega)) j (by omega) hy h3
      · exact r4 j (by omega) (by omega) h3
  · have c1 : sb_cl (S1.2.1 51) (S.1 42).toInt.toNat = sb_cl (S.2.1 51) (S.1 42).toInt.toNat := sb_cl_eq (fun j hj => (l1.2.2.1 j (by omega)).1.1)
    rw [sb_cl_up, c1, l3, if_neg hne9.2] at m5
    omega
theorem lay_tree {kd f g nu as : Nat → Int32} {nm : Int32} {Q : Int32 → Prop} {F : md_S → Prop} (hnm : nm.toInt ≤ 400) : ∀ (n : Nat) {h : Nat} {A : Int32 → Prop} {na nb : Int} {r c : Nat}, sb_T kd f g nu as nm Q n h A na nb r c → r < 1200 → ∀ (S : md_S) (x2 pp : Int32) (w : Int) (t : Int32), S.2.1 30 = kd → S.2.1 31 = f → S.2.1 32 = g → S.2.1 33 = nu → S.2.1 35 = as → (S.1 15).toInt ≤ 400 → (S.1 28).toInt ≤ 1000 → (∀ x, Q x → sb_QS S x ∧ ¬ x = -1) → sb_LI S → (S.1 42).toInt + c ≤ 1200 → 1 ≤ x2.toInt → x2.toInt + c ≤ 1206 → (S.2.1 39 (x2.toInt - 1).toNat).toInt = (r : Int) → S.2.1 40 (x2.toInt - 1).toNat = pp → sb_cx S pp w t → (∀ x, A x → ∃ m, sb_ch S m t x) → (∀ q, sb_LK S q pp.toInt c (x2.toInt - 1) n h w t (nb - na) → q.2.1 51 (S.1 42).toInt.toNat = kd r → dc_wp (dc_it mm_lay_I_s16 (q, x2 + (-1))) F) → dc_wp (dc_it mm_lay_I_s16 (S, x2)) F := by
  intro n
  induction n with
  | zero => intro h A na nb r c ht; exact ht.elim
  | succ n ih =>
    intro h A na nb r c ht hr S x2 pp w t s30 s31 s32 s33 s35 s15 s28 hQ li hn hx hx2 e1 e2 cx hA k
    have hc := (sb_T_nn (n + 1) ht).2
    have hr1 : (S.2.1 39 (x2.toInt - 1).toNat).toInt.toNat = r := by omega
    obtain ⟨a1, w1, w2, x1⟩ := x3f hx (by omega)
    have h42 := li.1.1
    have k2k := i_2k (x := S.1 42) h42 (by omega)
    have ekn : ((S.1 42).toInt.toNat : Int) = (S.1 42).toInt := by omega
    refine dc_it1 ?_
    show dc_wp (mm_lay_I_b16 S x2) _
    unfold sb_T at ht
    rcases ht with ⟨a1, a2, a0, a3, a4, a5, a6⟩ | ⟨x, c1, a1, a2, a3, a5, a4⟩ | ⟨x, y, c1, c2, nc, a1, a2, a4, a5, a6, a3⟩
    · -- a leaf
      refine lay_step li (by omega) (by omega) (by omega) rfl e2 cx ?_ s15 s28 ?_ ?_ ?_ ?_
      · rw [hr1, s35]; exact fun h => absurd a5 h
      · rw [hr1, s31, s32]; exact fun _ => a4
      · intro c1 c2 q lo
        rw [hr1] at lo
        obtain ⟨l1, l2, l3, l4, l5, l6, l7, l8, l9, l10⟩ := lo
        rw [s30] at l3 l8 l10; rw [s35] at l10; rw [s33] at l10
        subst a1
        refine k q ⟨l1, l2, ?_, fun j h1 h2 h3 => ?_, ?_⟩ l3
        · unfold sb_L
          refine ⟨⟨l6, l7⟩, .inl ⟨rfl, a2, l4, l5, ?_⟩⟩
          rw [l3]
          rcases a6 with b | b | ⟨b, b1, b2⟩ | ⟨b, b1⟩
          · exact .inl b
          · exact .inr (.inl ⟨b, l8 b⟩)
          · refine .inr (.inr (.inl ⟨b, ?_⟩))
            rw [l10 (by rw [b]; decide) a5]
            have := i_le.mp b1; have := i_lt.mp b2
            rw [il_0] at *
            omega
          · exact .inr (.inr (.inr b))
        · have hj : j = (S.1 42).toInt.toNat := by omega
          rw [hj] at h3 ⊢
          rw [l3] at h3
          rcases a6 with b | b | ⟨b, b1, b2⟩ | ⟨b, b1⟩
          · rw [b] at h3; exact absurd h3 (by decide)
          · rw [b] at h3; exact absurd h3 (by decide)
          · rw [b] at h3; exact absurd h3 (by decide)
          · rw [l7, l10 (by rw [b]; decide) a5]
            obtain ⟨m, hm⟩ := hA _ b1
            exact ⟨m, sb_LR_ch l1 hm⟩
        · rw [show (q.1 42).toInt.toNat = (S.1 42).toInt.toNat + 1 by have := l1.2.1; omega, sb_cl_up, l3, sb_cl_eq (fun j hj => (l1.2.2.1 j (by omega)).1.1)]
          have : ¬ kd r = 10 := by rcases a6 with b | b | ⟨b, b1, b2⟩ | ⟨b, b1⟩ <;> rw [b] <;> decide
          rw [if_neg this]; omega
      · intro c1 c2; rw [hr1, s31] at c2; exact absurd a3 c2
      · intro c1; rw [hr1, s32] at c1; exact absurd a4 c1
    · -- one child
      have hf : ¬ f r = -1 := fun h => by rw [h, il_m1] at a2; omega
      refine lay_step li (by omega) (by omega) (by omega) rfl e2 cx ?_ s15 s28 ?_ ?_ ?_ ?_
      · rw [hr1, s35, s30]
        intro hz
        rcases a4 with ⟨b, d, _⟩ | ⟨b, d, _⟩ | ⟨b, d, _⟩ | ⟨b, d, _⟩
        · exact ⟨by rw [b]; decide, (hQ _ d).1⟩
        · exact absurd d hz
        · exact absurd d hz
        · exact absurd d hz
      · rw [hr1, s31]; exact fun h => absurd h hf
      · intro _ c2; rw [hr1, s31] at c2; exact absurd c2 hf
      · intro d1 d2 S1 lo p1 p2
        rw [hr1] at lo p1
        rw [s31] at p1
        show dc_wp (dc_it mm_lay_I_s16 (S1, x2 + (-1) + 1)) F
        rw [w1]
        have l1 := lo.1; have l2 := lo.2.1; have l3 := lo.2.2.1; have l6 := lo.2.2.2.2.2.1; have l7 := lo.2.2.2.2.2.2.1; have l10 := lo.2.2.2.2.2.2.2.2.2
        have e42 := l1.2.1
        rw [s30] at l3
        have fin : ∀ {h' : Nat} {A' : Int32 → Prop} {na' : Int} {w' : Int} {t' : Int32}, sb_T kd f g nu as nm Q n h' A' na' nb x c1 → sb_cx S1 (2 * S.1 42) w' t' → (∀ x, A' x → ∃ m, sb_ch S1 m t' x) → (∀ q, sb_LK S1 q (2 * (S.1 42).toInt) c1 (x2.toInt - 1) n h' w' t' (nb - na') → sb_LK S q pp.toInt (c1 + 1) (x2.toInt - 1) (n + 1) h w t (nb - na)) → dc_wp (dc_it mm_lay_I_s16 (S1, x2)) F := by
          intro h' A' na' w' t' tt cx' hA' kk
          refine ih tt (by omega) S1 x2 _ w' t' ((l1.1.2.1 30 (by decide)).trans s30) ((l1.1.2.1 31 (by decide)).trans s31) ((l1.1.2.1 32 (by decide)).trans s32) ((l1.1.2.1 33 (by decide)).trans s33) ((l1.1.2.1 35 (by decide)).trans s35) (by rw [l1.1.1 15 (by decide)]; exact s15) (by rw [l1.1.1 28 (by decide)]; exact s28) (fun z hz => ⟨sb_LO_QS l1 (hQ z hz).1, (hQ z hz).2⟩) l2 (by omega) hx (by omega) (by rw [p1]; exact a2) p2 cx' hA' (fun q lk _ => ?_)
          rw [k2k.1] at lk
          subst a5
          refine k q (kk q lk) ?_
          rw [(lk.1.2.2.1 (S.1 42).toInt.toNat (by omega)).1.1]; exact l3
        have cxg : ∀ w', w' = (S1.2.1 57 (S.1 42).toInt.toNat).toInt + (if S1.2.1 51 (S.1 42).toInt.toNat = 6 then 1 else 0) → ∀ t', t' = (if S1.2.1 51 (S.1 42).toInt.toNat = 8 then Int32.ofNat (S.1 42).toInt.toNat else S1.2.1 60 (S.1 42).toInt.toNat) → sb_cx S1 (2 * S.1 42) w' t' := by
          intro w' hw' t' ht'
          exact .inr ⟨(S.1 42).toInt.toNat, by omega, ht', .inl ⟨by rw [k2k.1]; omega, hw'⟩⟩
        rw [l3, l6, l7] at cxg
        rcases a4 with ⟨b, d, gg, e, tt⟩ | ⟨b, d, gg, e, tt⟩ | ⟨b, d, gg, e, tt⟩ | ⟨b, d, d2, d3, d4, tt⟩
        · refine fin tt (cxg w (by rw [b, if_neg (by decide)]; omega) t (by rw [b, if_neg (by decide)])) (fun z hz => ?_) (fun q lk => ?_)
          · obtain ⟨m, hm⟩ := hA z hz; exact ⟨m, sb_LR_ch l1 hm⟩
          · exact lk_un h42 lo lk (.inl ⟨by rw [s30]; exact b, by rw [s35]; exact (hQ _ d).2, e, rfl, rfl⟩) (by rw [s30, b, if_neg (by decide)]; omega)
        · refine fin tt (cxg (w + 1) (by rw [b, if_pos rfl]) t (by rw [b, if_neg (by decide)])) (fun z hz => ?_) (fun q lk => ?_)
          · obtain ⟨m, hm⟩ := hA z hz; exact ⟨m, sb_LR_ch l1 hm⟩
          · exact lk_un h42 lo lk (.inr (.inl ⟨by rw [s30]; exact b, by rw [s35]; exact d, e, rfl, rfl⟩)) (by rw [s30, b, if_neg (by decide)]; omega)
        · refine fin tt (cxg w (by rw [b, if_neg (by decide)]; omega) (Int32.ofNat (S.1 42).toInt.toNat) (by rw [b, if_pos rfl])) (fun z hz => ?_) (fun q lk => ?_)
          · have eo : (Int32.ofNat (S.1 42).toInt.toNat).toInt = (S.1 42).toInt := by rw [ofNat_toInt (by omega)]; omega
            have eon : (Int32.ofNat (S.1 42).toInt.toNat).toInt.toNat = (S.1 42).toInt.toNat := by rw [eo]
            rcases hz with hz | hz
            · obtain ⟨m, hm⟩ := hA z hz
              refine ⟨m + 1, ?_⟩
              unfold sb_ch
              rw [eon, l3, l7]
              exact ⟨by omega, b, .inr (sb_LR_ch l1 hm)⟩
            · refine ⟨1, ?_⟩
              unfold sb_ch
              rw [eon, l3, l10 (by rw [s30, b]; decide) (by rw [s35]; exact d), s33]
              exact ⟨by omega, b, .inl hz.symm⟩
          · exact lk_un h42 lo lk (.inr (.inr (.inl ⟨by rw [s30]; exact b, by rw [s35]; exact d, e, rfl, rfl⟩))) (by rw [s30, b, if_neg (by decide)]; omega)
        · refine fin tt (cxg w (by rw [b, if_neg (by decide)]; omega) t (by rw [b, if_neg (by decide)])) (fun z hz => ?_) (fun q lk => ?_)
          · obtain ⟨m, hm⟩ := hA z hz; exact ⟨m, sb_LR_ch l1 hm⟩
          · refine lk_un h42 lo lk (.inr (.inr (.inr ⟨by rw [s30]; exact b, by rw [s35]; exact d, ?_, rfl, rfl, rfl⟩))) (by rw [s30, b, if_pos rfl]; omega)
            rw [s33]
            have := i_le.mp d2; have := i_lt.mp d3
            rw [il_0] at *
            omega
      · intro c1; rw [hr1, s32] at c1; exact absurd a3 c1
    · -- two children
      have hf : ¬ f r = -1 := fun h => by rw [h, il_m1] at a4; omega
      have hg : ¬ g r = -1 := fun h => by rw [h, il_m1] at a5; omega
      refine lay_step li (by omega) (by omega) (by omega) rfl e2 cx ?_ s15 s28 ?_ ?_ ?_ ?_
      · rw [hr1, s35, s30]
        intro hz
        rcases a3 with ⟨b, d, _⟩ | ⟨b, d, _⟩
        · exact ⟨by rw [b]; decide, (hQ _ d).1⟩
        · exact absurd d hz
      · rw [hr1, s31]; exact fun h => absurd h hf
      · intro _ c2; rw [hr1, s31] at c2; exact absurd c2 hf
      · intro c1; rw [hr1, s32] at c1; exact absurd c1 hg
      · intro d1 d2 S1 lo p1 p2 p3 p4
        rw [hr1] at lo p1 p3
        rw [s32] at p1; rw [s31] at p3
        show dc_wp (dc_it mm_lay_I_s16 (S1, x2 + (-1) + 1 + 1)) F
        rw [w1]
        have x11 : (x2 + 1).toInt - 1 = x2.toInt := by omega
        have ex : x2.toInt.toNat = (x2.toInt - 1).toNat + 1 := by omega
        have l1 := lo.1; have l2 := lo.2.1; have l3 := lo.2.2.1; have l6 := lo.2.2.2.2.2.1; have l7 := lo.2.2.2.2.2.2.1
        have e42 := l1.2.1
        rw [s30] at l3
        have hn8 : ¬ kd r = 8 ∧ ¬ kd r = 6 := by rcases a3 with ⟨b, _⟩ | ⟨b | b, _⟩ <;> rw [b] <;> decide
        have fin : ∀ {h1 h2 : Nat}, sb_T kd f g nu as nm Q n h1 A na nc x c1 → sb_T kd f g nu as nm Q n h2 A nc nb y c2 → (∀ q q2, q.2.1 51 ((S.1 42).toInt.toNat + 1) = kd x → sb_LK S1 q (2 * (S.1 42).toInt) c1 (x2.toInt - 1 + 1) n h1 w t (nc - na) → sb_LK q q2 (2 * (S.1 42).toInt + 1) c2 (x2.toInt - 1) n h2 (w + if kd r = 5 then 1 else 0) t (nb - nc) → sb_LK S q2 pp.toInt (c1 + c2 + 1) (x2.toInt - 1) (n + 1) h w t (nb - na)) → dc_wp (dc_it mm_lay_I_s16 (S1, x2 + 1)) F := by
          intro h1 h2 tt uu kk
          have pos1 := (sb_T_nn n tt).2; have pos2 := (sb_T_nn n uu).2
          refine ih tt (by omega) S1 (x2 + 1) (2 * S.1 42) w t ((l1.1.2.1 30 (by decide)).trans s30) ((l1.1.2.1 31 (by decide)).trans s31) ((l1.1.2.1 32 (by decide)).trans s32) ((l1.1.2.1 33 (by decide)).trans s33) ((l1.1.2.1 35 (by decide)).trans s35) (by rw [l1.1.1 15 (by decide)]; exact s15) (by rw [l1.1.1 28 (by decide)]; exact s28) (fun z hz => ⟨sb_LO_QS l1 (hQ z hz).1, (hQ z hz).2⟩) l2 (by omega) (by omega) (by omega) ?_ ?_ ?_ (fun z hz => ?_) (fun q lk hq => ?_)
          · rw [x11, ex, p3]; exact a4
          · rw [x11, ex]; exact p4
          · refine .inr ⟨(S.1 42).toInt.toNat, by omega, ?_, .inl ⟨by rw [k2k.1]; omega, ?_⟩⟩
            · rw [l3, if_neg hn8.1, l7]
            · rw [l3, if_neg hn8.2, l6]; omega
          · obtain ⟨m, hm⟩ := hA z hz; exact ⟨m, sb_LR_ch l1 hm⟩
          · rw [x11, k2k.1] at lk
            rw [w2]
            have m1 := lk.1
            have f42 := m1.2.1
            obtain ⟨y39, y40⟩ := m1.2.2.2.2.2 (x2.toInt - 1).toNat (by omega)
            obtain ⟨⟨z1, z2, z3, z4, z5, z6⟩, _⟩ := m1.2.2.1 (S.1 42).toInt.toNat (by omega)
            rw [show (S1.1 42).toInt.toNat = (S.1 42).toInt.toNat + 1 by omega] at hq
            refine ih uu (by omega) q x2 (2 * S.1 42 + 1) (w + if kd r = 5 then 1 else 0) t ((m1.1.2.1 30 (by decide)).trans ((l1.1.2.1 30 (by decide)).trans s30)) ((m1.1.2.1 31 (by decide)).trans ((l1.1.2.1 31 (by decide)).trans s31)) ((m1.1.2.1 32 (by decide)).trans ((l1.1.2.1 32 (by decide)).trans s32)) ((m1.1.2.1 33 (by decide)).trans ((l1.1.2.1 33 (by decide)).trans s33)) ((m1.1.2.1 35 (by decide)).trans ((l1.1.2.1 35 (by decide)).trans s35)) (by rw [m1.1.1 15 (by decide), l1.1.1 15 (by decide)]; exact s15) (by rw [m1.1.1 28 (by decide), l1.1.1 28 (by decide)]; exact s28) (fun z hz => ⟨sb_LO_QS m1 (sb_LO_QS l1 (hQ z hz).1), (hQ z hz).2⟩) lk.2.1 (by omega) hx (by omega) ?_ ?_ ?_ (fun z hz => ?_) (fun q2 lm _ => ?_)
            · rw [y39, p1]; exact a5
            · rw [y40]; exact p2
            · refine .inr ⟨(S.1 42).toInt.toNat, by omega, ?_, .inr ⟨by rw [k2k.2]; omega, ?_⟩⟩
              · rw [z1, l3, if_neg hn8.1, z5, l7]
              · rw [z1, z3, l3, l6]
                by_cases h5 : kd r = 5
                · rw [if_pos h5, if_pos (.inr h5)]
                · rw [if_neg h5, if_neg (fun h => h.elim hn8.2 h5)]
            · obtain ⟨m, hm⟩ := hA z hz; exact ⟨m, sb_LR_ch m1 (sb_LR_ch l1 hm)⟩
            · rw [k2k.2] at lm
              subst a6
              refine k q2 (kk q q2 hq (by rw [show x2.toInt - 1 + 1 = x2.toInt by omega]; exact lk) lm) ?_
              rw [(lm.1.2.2.1 (S.1 42).toInt.toNat (by omega)).1.1, z1]; exact l3
        rcases a3 with ⟨b, d, gg, e, tt, uu⟩ | ⟨b, d, e, ⟨gg, e1, tt⟩, g2, e2, uu⟩
        · refine fin tt uu (fun q q2 hq lk lm => ?_)
          rw [if_neg (by rw [b]; decide)] at lm
          exact lk_two h42 lo lk (by rw [show w + 0 = w by omega] at lm; exact lm) (.inl ⟨by rw [s30]; exact b, by rw [s35]; exact (hQ _ d).2, rfl, e, rfl⟩) (by omega)
        · refine fin tt uu (fun q q2 hq lk lm => ?_)
          exact lk_two h42 lo lk lm (.inr ⟨by rw [s30]; exact b, by rw [s35]; exact d, e, e1.imp id (fun h => ⟨h.1, by rw [hq, s30]; exact h.2⟩), e2, by rw [s30]⟩) (by omega)
