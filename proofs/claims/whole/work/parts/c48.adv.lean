/-! advance: the class's, from its start; the reference's -/
theorem adv_w {G : hg_E} {sz : Nat} {S : hg_S} {o tx n : Nat} {f : Nat → Int32} {tk : Option Nat} {fr to ln fa : Int32} (hok : lw_ok G sz) (h : lxv G S o tx n f tk fr to ln fa) (h0 : 0 ≤ to.toInt) (h1 : to.toInt ≤ (n : Int)) (hn : n ≤ 100000) (hr1 : 1 ≤ S.2.2.1) (hr2 : 6 ≤ S.2.2.2) : dc_wp (hm_LX_advance G S o) (advP G S o tx n f to ln fa) := by
  have aN : (Int32.ofNat n).toInt = (n : Int) := Int32.toInt_ofNat_of_lt (by omega)
  delta hm_LX_advance
  refine wq_chk h.1 ?_
  refine wq_call (sk_w h h0 h1 hn) ?_
  rintro S1 ⟨p, l, v1, f1, ⟨b1, b2⟩, hg⟩
  refine wq_gi (x := p) v1.1 rfl ?_
  refine wq_pf v1.1 (by simp) ?_
  have v2 := v1.put (tk2 := tk) (fr2 := p) (to2 := p) (ln2 := l) (fa2 := fa)
  have f2 : of1 S (hu S1 o (.inr (2, [.ref tx, va_rf tk, .int p, .int p, .int l, .int fa]))) o := f1.trans of1.hu
  refine wq_gi (x := p) v2.1 rfl ?_
  refine wq_gr (x := some tx) v2.1 rfl ?_
  refine wq_ln v2.2.1 ?_
  refine wq_if (fun c1 => ?_) (fun c1 => ?_)
  · have c2 := i_lt.mp c1
    rw [aN] at c2
    delta hm_LX_advance_L32
    refine wq_call (wl_w v2 (by omega) b2 hn) ?_
    rintro S3 ⟨q0, v3, f3, ⟨d1, d2⟩, hwe⟩
    delta hm_LX_advance_L72
    refine wq_gi (x := q0) v3.1 rfl ?_
    refine wq_gi (x := p) v3.1 rfl ?_
    refine wq_if (fun c3 => ?_) (fun c3 => ?_)
    · have c4 := i_lt.mp c3
      delta hm_LX_advance_L88
      refine wq_if (fun z => absurd z (by decide)) (fun _ => ?_)
      delta hm_LX_advance_L114
      refine wq_if (fun z => absurd z (by decide)) (fun _ => ?_)
      refine wq_chk v3.1 ?_
      refine wq_call (nm_w v3 (by omega) c2 d1 d2 hn) ?_
      rintro q (⟨e1, rfl⟩ | ⟨e1, rfl⟩)
      · refine wq_if (fun z => absurd z (by decide)) (fun _ => ?_)
        exact av_136 hok v3 (f2.trans f3) hr1 hr2 (by omega) c4 d2 hn b1 hg (Or.inl ⟨hwe, by omega⟩) (y := 31) (Or.inl ⟨rfl, by rw [hwe]; omega, e1.1, e1.2.1, e1.2.2⟩)
      · refine wq_if (fun _ => ?_) (fun z => absurd rfl z)
        show dc_wp (hm_LX_advance_L136 G S3 o (some (G.2.1 32))) _
        exact av_136 hok v3 (f2.trans f3) hr1 hr2 (by omega) c4 d2 hn b1 hg (Or.inl ⟨hwe, by omega⟩) (y := 32) (Or.inr ⟨rfl, fun z => e1 z.2⟩)
    · have c4 : ¬ p.toInt < q0.toInt := fun z => c3 (i_lt.mpr z)
      have e0 : q0.toInt = p.toInt := by omega
      have k1 : (q0 + 1).toInt = p.toInt + 1 := by rw [i_addS (by rw [il_1]; omega), il_1, e0]
      have k2 : (q0 + 2).toInt = p.toInt + 2 := by rw [i_addS (by rw [il_2]; omega), il_2, e0]
      rw [e0] at hwe
      delta hm_LX_advance_L88
      refine wq_if (fun _ => ?_) (fun z => absurd rfl z)
      refine wq_gi (x := q0) v3.1 rfl ?_
      refine wq_chk v3.1 ?_
      refine wq_call (sb_w v3 (by omega) c2 hn) ?_
      rintro q (⟨e1, rfl⟩ | ⟨e1, rfl⟩)
      · refine wq_if (fun z => absurd z (by decide)) (fun _ => ?_)
        delta hm_LX_advance_L110
        refine wq_pf v3.1 (by simp) ?_
        have v4 := v3.put (tk2 := tk) (fr2 := p) (to2 := q0 + 2) (ln2 := l) (fa2 := fa)
        delta hm_LX_advance_L114
        refine wq_if (fun _ => ?_) (fun z => absurd rfl z)
        show dc_wp (hm_LX_advance_L136 G _ o (some (G.2.1 32))) _
        have := e1.2.1
        exact av_136 hok v4 ((f2.trans f3).trans of1.hu) hr1 hr2 (by omega) (by omega) (by omega) hn b1 hg (Or.inr ⟨hwe, by rw [if_pos e1]; omega⟩) (y := 32) (Or.inr ⟨rfl, fun z => by have := z.1; rw [hwe] at this; omega⟩)
      · refine wq_if (fun _ => ?_) (fun z => absurd rfl z)
        delta hm_LX_advance_L110
        refine wq_pf v3.1 (by simp) ?_
        have v4 := v3.put (tk2 := tk) (fr2 := p) (to2 := q0 + 1) (ln2 := l) (fa2 := fa)
        delta hm_LX_advance_L114
        refine wq_if (fun _ => ?_) (fun z => absurd rfl z)
        show dc_wp (hm_LX_advance_L136 G _ o (some (G.2.1 32))) _
        exact av_136 hok v4 ((f2.trans f3).trans of1.hu) hr1 hr2 (by omega) (by omega) (by omega) hn b1 hg (Or.inr ⟨hwe, by rw [if_neg e1]; omega⟩) (y := 32) (Or.inr ⟨rfl, fun z => by have := z.1; rw [hwe] at this; omega⟩)
  · have c2 : ¬ p.toInt < (Int32.ofNat n).toInt := fun z => c1 (i_lt.mpr z)
    rw [aN] at c2
    refine wq_pf v2.1 (by simp) ?_
    exact ⟨_, rfl, p, p, l, some 32, ⟨b1, by omega, b2⟩, hg, Or.inl ⟨by omega, rfl, rfl⟩, by omega, _, rfl, v2.put, f2.trans of1.hu⟩
/-- the reference's token: sort and word of what stands from p to q -/
def rtok (f : Nat → Int32) (n p q : Nat) (s : Int32) (w : Int64) : Prop :=
  (n ≤ p ∧ q = p ∧ s = 0 ∧ w = 0) ∨
  (p < n ∧ ltr (f p) ∧ we f n (n - p) p = q ∧ ((p + 31 < q ∧ s = 3) ∨ (q ≤ p + 31 ∧ s = 1)) ∧ w = wa f p (q - p)) ∨
  (p < n ∧ ¬ ltr (f p) ∧ s = 2 ∧ (((f p = 124 ∧ p + 1 < n ∧ f (p + 1) = 124) ∧ q = p + 2 ∧ w = 256) ∨ (¬ (f p = 124 ∧ p + 1 < n ∧ f (p + 1) = 124) ∧ q = p + 1 ∧ w = Int32.toInt64 (f p))))
def radv (M M' : md_S) : Prop :=
  (∀ k, ¬ k = 4 → ¬ k = 5 → ¬ k = 6 → ¬ k = 7 → ¬ k = 8 → M'.1 k = M.1 k) ∧ M'.2.1 = M.2.1 ∧ M'.2.2.2 = M.2.2.2 ∧ M'.1 8 = M'.1 5 ∧ ((M.1 4).toInt ≤ (M'.1 7).toInt ∧ (M'.1 7).toInt ≤ (M'.1 4).toInt ∧ (M'.1 4).toInt ≤ (M.1 2).toInt) ∧ gp (M.2.1 1) (M.1 2).toInt.toNat ((M.1 2).toInt.toNat - (M.1 4).toInt.toNat) (M.1 4).toInt.toNat (M.1 5) false = ((M'.1 7).toInt.toNat, M'.1 8) ∧ rtok (M.2.1 1) (M.1 2).toInt.toNat (M'.1 7).toInt.toNat (M'.1 4).toInt.toNat (M'.1 6) M'.2.2.1
theorem radv_w {M : md_S} (h0 : 0 ≤ (M.1 4).toInt) (h1 : (M.1 4).toInt ≤ (M.1 2).toInt) (h2 : (M.1 2).toInt ≤ 32768) : dc_wp (mm_advance M) (radv M) := by
  delta mm_advance mm_advance_L2
  refine wq_call (rg_w h0 h1 h2) ?_
  rintro Q ⟨e1, e2, ⟨b1, b2⟩, hg⟩
  have f2 : Q.1 2 = M.1 2 := e1 2 (by decide) (by decide)
  have fa : Q.2.1 1 = M.2.1 1 := by rw [e2]
  delta mm_advance_L145
  refine wq_let (fun A hA => ?_)
  refine wq_let (fun B hB => ?_)
  have B4 : B.1 4 = Q.1 4 := by rw [hB, hA]; rfl
  have B5 : B.1 5 = Q.1 5 := by rw [hB, hA]; rfl
  have B7 : B.1 7 = Q.1 4 := by rw [hB, hA]; rfl
  have B8 : B.1 8 = Q.1 5 := by rw [hB, hA]; rfl
  have B2 : B.1 2 = M.1 2 := by rw [hB, hA]; exact f2
  have Bk : ∀ k, ¬ k = 4 → ¬ k = 5 → ¬ k = 6 → ¬ k = 7 → ¬ k = 8 → B.1 k = M.1 k := by
    intro k k4 k5 k6 k7 k8
    rw [hB, hA]
    show upd (upd Q.1 7 _) 8 _ k = _
    unfold upd
    rw [if_neg k8, if_neg k7]
    exact e1 k k4 k5
  have Bv : B.2 = M.2 := by rw [hB, hA]; exact e2
  have Bf : B.2.1 1 = M.2.1 1 := by rw [Bv]
  have hq := rl_eq (M := B) (p := B.1 4) (by rw [B4]; omega) (by rw [B2]; exact h2)
  rw [B4, B2, Bf] at hq
  rw [B4, hq, Option.bind_some, B2]
  -- the last part, for each sort
  refine wq_if (fun c1 => ?_) (fun c1 => ?_)
  · have c2 := i_eq.mp c1
    delta mm_advance_L198
    refine wq_let (fun C hC => ?_)
    refine wq_let (fun E hE => ?_)
    have E6 : E.1 6 = 0 := by rw [hE, hC]; rfl
    rw [E6]
    refine wq_if (fun _ => ?_) (fun z => absurd rfl z)
    refine ⟨_, rfl, fun k k4 k5 k6 k7 k8 => ?_, ?_, ?_, ?_, ?_, ?_, ?_⟩
    · rw [hE, hC]
      show upd B.1 6 0 k = _
      unfold upd
      rw [if_neg k6]
      exact Bk k k4 k5 k6 k7 k8
    · rw [hE, hC]; show B.2.1 = _; rw [Bv]
    · rw [hE, hC]; show B.2.2.2 = _; rw [Bv]
    · rw [hE, hC]; show B.1 8 = B.1 5; rw [B8, B5]
    · rw [hE, hC]; show _ ≤ (B.1 7).toInt ∧ (B.1 7).toInt ≤ (B.1 4).toInt ∧ (B.1 4).toInt ≤ _; rw [B7, B4]; omega
    · rw [hE, hC]; show _ = ((B.1 7).toInt.toNat, B.1 8); rw [B7, B8]; exact hg
    · rw [hE, hC]
      show rtok _ _ (B.1 7).toInt.toNat (B.1 4).toInt.toNat 0 0
      rw [B7, B4]
      exact Or.inl ⟨by omega, rfl, rfl, rfl⟩
  · have c2 : ¬ (Q.1 4).toInt = (M.1 2).toInt := fun z => c1 (i_eq.mpr z)
    have c3 : (Q.1 4).toInt < (M.1 2).toInt := by omega
    rw [if_pos c3]
    refine wq_call il_w ?_
    rintro q (⟨d1, rfl⟩ | ⟨d1, rfl⟩)
    · refine wq_if (fun z => absurd z (by decide)) (fun _ => ?_)
      delta mm_advance_L198
      refine wq_let (fun C hC => ?_)
      refine wq_let (fun E hE => ?_)
      have E6 : E.1 6 = 1 := by rw [hE, hC]; rfl
      have Eq : ∀ k, ¬ k = 6 → E.1 k = B.1 k := by
        intro k hk
        rw [hE, hC]
        show upd B.1 6 1 k = _
        unfold upd
        rw [if_neg hk]
      have Ev : E.2.1 = M.2.1 ∧ E.2.2.1 = 0 ∧ E.2.2.2 = M.2.2.2 := by
        rw [hE, hC]
        exact ⟨by show B.2.1 = _; rw [Bv], rfl, by show B.2.2.2 = _; rw [Bv]⟩
      rw [E6]
      refine wq_if (fun z => absurd z (by decide)) (fun _ => ?_)
      refine wq_if (fun _ => ?_) (fun z => absurd rfl z)
      delta mm_advance_L222
      have E4 : E.1 4 = Q.1 4 := (Eq 4 (by decide)).trans B4
      have E7 : E.1 7 = Q.1 4 := (Eq 7 (by decide)).trans B7
      have E2 : E.1 2 = M.1 2 := (Eq 2 (by decide)).trans B2
      refine wq_call (rw_w (M := E) (by rw [E7, E4]) (by rw [E4]; omega) (by rw [E4, E2]; omega) (by rw [E2]; exact h2) Ev.2.1) ?_
      rintro Y ⟨y1, y2, y3, ⟨y4, y5⟩, y6, y7⟩
      rw [E4, E2] at y6
      rw [E4] at y7 y4
      rw [E2] at y5
      rw [Ev.1] at y6 y7
      have Y7 : Y.1 7 = Q.1 4 := (y1 7 (by decide)).trans E7
      have Y8 : Y.1 8 = Q.1 5 := (y1 8 (by decide)).trans ((Eq 8 (by decide)).trans B8)
      have Y5 : Y.1 5 = Q.1 5 := (y1 5 (by decide)).trans ((Eq 5 (by decide)).trans B5)
      have a3 : (Y.1 4 - Y.1 7).toInt = (Y.1 4).toInt - (Q.1 4).toInt := by rw [Y7, i_subS (by omega)]
      have k31 : (31 : Int32).toInt = 31 := by decide
      have fin : ∀ s : Int32, (((Q.1 4).toInt.toNat + 31 < (Y.1 4).toInt.toNat ∧ s = 3) ∨ ((Y.1 4).toInt.toNat ≤ (Q.1 4).toInt.toNat + 31 ∧ s = 1)) → dc_wp (mm_advance_L310 Y s) (radv M) := by
        intro s hs
        delta mm_advance_L310
        refine wq_let (fun Z hZ => ?_)
        subst hZ
        refine ⟨_, rfl, fun k k4 k5 k6 k7 k8 => ?_, ?_, ?_, ?_, ?_, ?_, ?_⟩
        · show upd Y.1 6 s k = _
          unfold upd
          rw [if_neg k6, y1 k k4, Eq k k6]
          exact Bk k k4 k5 k6 k7 k8
        · show Y.2.1 = _; rw [y2, Ev.1]
        · show Y.2.2.2 = _; rw [y3, Ev.2.2]
        · show Y.1 8 = Y.1 5; rw [Y8, Y5]
        · show _ ≤ (Y.1 7).toInt ∧ (Y.1 7).toInt ≤ (Y.1 4).toInt ∧ (Y.1 4).toInt ≤ _; rw [Y7]; omega
        · show _ = ((Y.1 7).toInt.toNat, Y.1 8); rw [Y7, Y8]; exact hg
        · show rtok _ _ (Y.1 7).toInt.toNat (Y.1 4).toInt.toNat s Y.2.2.1
          rw [Y7]
          exact Or.inr (Or.inl ⟨by omega, d1, y6, hs, y7⟩)
      delta mm_advance_L290
      refine wq_if (fun g1 => fin 3 ?_) (fun g1 => fin 1 ?_)
      · have g2 := i_lt.mp g1
        rw [a3, k31] at g2
        exact Or.inl ⟨by omega, rfl⟩
      · have g2 : ¬ (31 : Int32).toInt < (Y.1 4 - Y.1 7).toInt := fun z => g1 (i_lt.mpr z)
        rw [a3, k31] at g2
        exact Or.inr ⟨by omega, rfl⟩
    · refine wq_if (fun _ => ?_) (fun z => absurd rfl z)
      delta mm_advance_L198
      refine wq_let (fun C hC => ?_)
      refine wq_let (fun E hE => ?_)
      have E6 : E.1 6 = 2 := by rw [hE, hC]; rfl
      have Eq : ∀ k, ¬ k = 6 → E.1 k = B.1 k := by
        intro k hk
        rw [hE, hC]
        show upd B.1 6 2 k = _
        unfold upd
        rw [if_neg hk]
      have Ev : E.2.1 = M.2.1 ∧ E.2.2.2 = M.2.2.2 := by
        rw [hE, hC]
        exact ⟨by show B.2.1 = _; rw [Bv], by show B.2.2.2 = _; rw [Bv]⟩
      have E4 : E.1 4 = Q.1 4 := (Eq 4 (by decide)).trans B4
      have E7 : E.1 7 = Q.1 4 := (Eq 7 (by decide)).trans B7
      have E2 : E.1 2 = M.1 2 := (Eq 2 (by decide)).trans B2
      have E8 : E.1 8 = Q.1 5 := (Eq 8 (by decide)).trans B8
      have E5 : E.1 5 = Q.1 5 := (Eq 5 (by decide)).trans B5
      rw [E6]
      refine wq_if (fun z => absurd z (by decide)) (fun _ => ?_)
      refine wq_if (fun z => absurd z (by decide)) (fun _ => ?_)
      have k1 : (Q.1 4 + 1).toInt = (Q.1 4).toInt + 1 := by rw [i_addS (by rw [il_1]; omega), il_1]
      have k2 : (Q.1 4 + 2).toInt = (Q.1 4).toInt + 2 := by rw [i_addS (by rw [il_2]; omega), il_2]
      have fin : ∀ (d : Int32) (w : Int64), (Q.1 4 + d).toInt ≤ (M.1 2).toInt → (Q.1 4).toInt ≤ (Q.1 4 + d).toInt → rtok (M.2.1 1) (M.1 2).toInt.toNat (Q.1 4).toInt.toNat (Q.1 4 + d).toInt.toNat 2 w → dc_wp (mm_advance_L371 (md_i E 4 (Q.1 4 + d)) w) (radv M) := by
        intro d w g1 g2 g3
        delta mm_advance_L371
        refine wq_let (fun Z hZ => ?_)
        subst hZ
        refine ⟨_, rfl, fun k k4 k5 k6 k7 k8 => ?_, ?_, ?_, ?_, ?_, ?_, ?_⟩
        · show upd E.1 4 _ k = _
          unfold upd
          rw [if_neg k4, Eq k k6]
          exact Bk k k4 k5 k6 k7 k8
        · exact Ev.1
        · exact Ev.2
        · show E.1 8 = E.1 5; rw [E8, E5]
        · show _ ≤ (E.1 7).toInt ∧ (E.1 7).toInt ≤ (Q.1 4 + d).toInt ∧ (Q.1 4 + d).toInt ≤ _; rw [E7]; omega
        · show _ = ((E.1 7).toInt.toNat, E.1 8); rw [E7, E8]; exact hg
        · show rtok _ _ (E.1 7).toInt.toNat (Q.1 4 + d).toInt.toNat (E.1 6) w
          rw [E7, E6]
          exact g3
      have one : ¬ (M.2.1 1 (Q.1 4).toInt.toNat = 124 ∧ (Q.1 4).toInt.toNat + 1 < (M.1 2).toInt.toNat ∧ M.2.1 1 ((Q.1 4).toInt.toNat + 1) = 124) → dc_wp (mm_advance_L344 E (M.2.1 1 (Q.1 4).toInt.toNat) (Q.1 4)) (radv M) := by
        intro g1
        show dc_wp (mm_advance_L345 E (M.2.1 1 (Q.1 4).toInt.toNat) 1 (Q.1 4)) _
        delta mm_advance_L345
        refine wq_let (fun Z hZ => ?_)
        subst hZ
        have z4 : (md_i E 4 (Q.1 4 + 1)).1 4 - (md_i E 4 (Q.1 4 + 1)).1 7 = Q.1 4 + 1 - Q.1 4 := by
          show Q.1 4 + 1 - E.1 7 = _
          rw [E7]
        have z5 : (Q.1 4 + 1 - Q.1 4).toInt = 1 := by rw [i_subS (by rw [k1]; omega), k1]; omega
        rw [z4]
        refine wq_if (fun g2 => ?_) (fun _ => ?_)
        · exfalso
          have g3 := i_eq.mp g2
          rw [z5, il_2] at g3
          omega
        · exact fin 1 _ (by omega) (by omega) (Or.inr (Or.inr ⟨by omega, d1, rfl, Or.inr ⟨g1, by omega, rfl⟩⟩))
      rw [E4]
      refine wq_if (fun g1 => ?_) (fun g1 => one (fun z => g1 z.1))
      have hq2 := rl_eq (M := E) (p := Q.1 4 + 1) (by omega) (by rw [E2]; exact h2)
      rw [E2, Ev.1] at hq2
      rw [hq2, Option.bind_some, show (Q.1 4 + 1).toInt.toNat = (Q.1 4).toInt.toNat + 1 by omega]
      by_cases g2 : (Q.1 4 + 1).toInt < (M.1 2).toInt
      · rw [if_pos g2]
        refine wq_if (fun g3 => ?_) (fun g3 => one (fun z => g3 z.2.2))
        delta mm_advance_L345
        refine wq_let (fun Z hZ => ?_)
        subst hZ
        have z4 : (md_i E 4 (Q.1 4 + 2)).1 4 - (md_i E 4 (Q.1 4 + 2)).1 7 = Q.1 4 + 2 - Q.1 4 := by
          show Q.1 4 + 2 - E.1 7 = _
          rw [E7]
        have z5 : Q.1 4 + 2 - Q.1 4 = 2 := by rw [i_eq, i_subS (by rw [k2]; omega), k2, il_2]; omega
        rw [z4]
        refine wq_if (fun _ => ?_) (fun z => absurd z5 z)
        exact fin 2 _ (by omega) (by omega) (Or.inr (Or.inr ⟨by omega, d1, rfl, Or.inl ⟨⟨g1, by omega, g3⟩, by omega, rfl⟩⟩))
      · rw [if_neg g2]
        refine wq_if (fun g3 => absurd g3 (by decide)) (fun _ => one (fun z => by have := z.2.1; omega))
