theorem ms1 {x : Int} (h : 0 ≤ x) : -1 ≤ x - 1 := by omega
theorem ms2 {x n : Int} (h : x < n) : x - 1 < n := by omega
theorem ms3 {x : Int} (h : 0 ≤ x) : ¬ ((x.toNat : Nat) : Int) ≤ x - 1 := by omega
theorem ms4 {x y : Int} (h : y ≤ x - 1) : y ≤ x := by omega
theorem ms5 {x : Int} {j : Nat} (h0 : 0 ≤ x) (h : x - 1 < (j : Int)) (hz : ¬ j = x.toNat) : x < (j : Int) := by omega
theorem ms6 {x : Int} (h : 0 ≤ x) : (x - 1 + 1).toNat < (x + 1).toNat := by omega
theorem le_m1 {x : Int} (h : -1 ≤ x) (h2 : x < 0) : x = -1 := by omega
theorem dec1 {x : Int32} (h : 0 ≤ x.toInt) : (x + -1).toInt = x.toInt - 1 := by rw [a_add, il_m1]; have := i_hi x; omega
theorem dec2 {x : Int32} (h : 1 ≤ x.toInt) : (x - 1).toInt = x.toInt - 1 := by rw [a_sub, il_1]; have := i_hi x; omega
theorem sb_L_kids {S : md_S} {n h : Nat} {w : Int} {t : Int32} {c : Nat} {N : Int} (m : sb_L S n h w t 0 c) (hc : (c : Int) = N) {x : Int32} (h0 : 0 ≤ x.toInt) (h1 : x.toInt < N) : (S.2.1 52 x.toInt.toNat = -1 ∨ ((S.2.1 52 x.toInt.toNat).toInt = x.toInt + 1 ∧ x.toInt + 1 < N)) ∧ (S.2.1 53 x.toInt.toNat = -1 ∨ (x.toInt + 1 < (S.2.1 53 x.toInt.toNat).toInt ∧ (S.2.1 53 x.toInt.toNat).toInt < N)) := by
  obtain ⟨n2, h2, w2, t2, c2, la, le⟩ := sb_L_all n m x.toInt.toNat (by omega) (by omega)
  have lc := sb_L_ch la
  have ek : (x.toInt.toNat : Int) = x.toInt := by omega
  rw [ek] at lc
  exact ⟨lc.1.imp id (fun h => ⟨h.1, by omega⟩), lc.2.imp id (fun h => ⟨h.1, by omega⟩)⟩
/-- what was laid -/
def sb_LP (q : md_S) (nm : Int) : Prop :=
  (1 ≤ (q.1 42).toInt ∧ (q.1 42).toInt ≤ 1200) ∧ (0 ≤ (q.1 47).toInt ∧ (q.1 47).toInt ≤ (q.1 42).toInt) ∧ 0 ≤ (q.1 43).toInt ∧
  ((q.1 43).toInt ≤ 1000 → ∀ i : Nat, (i : Int) < (q.1 43).toInt → sb_pl q i) ∧ (q.1 48).toInt = sb_ws (q.2.1 57) (q.1 42).toInt.toNat ∧
  (∀ j : Nat, (j : Int) < (q.1 42).toInt → (1 ≤ (q.2.1 57 j).toInt ∧ (q.2.1 57 j).toInt ≤ (j : Int) + 1) ∧ ((j : Int) < (q.2.1 59 j).toInt ∧ (q.2.1 59 j).toInt ≤ (q.1 42).toInt)) ∧
  (∀ j : Nat, (j : Int) ≤ (q.1 42).toInt → 0 ≤ (q.2.1 62 j).toInt ∧ (q.2.1 62 j).toInt ≤ (q.1 47).toInt) ∧
  (∃ n, sb_L q n 582 1 (-1) 0 (q.1 42).toInt.toNat) ∧ (sb_cl (q.2.1 51) (q.1 42).toInt.toNat : Int) ≤ nm
theorem mm_lay_I_l {S : md_S} {root : Int32} (t : sb_Tr (S.1 27).toInt 0 (S.1 15) S (fun _ => False) 582 root) (h27 : (S.1 27).toInt ≤ 1200) (h15 : (S.1 15).toInt ≤ 400) (h28 : (S.1 28).toInt ≤ 1000) (z42 : S.1 42 = 0) (z43 : S.1 43 = 0) (z47 : S.1 47 = 0) (z48 : S.1 48 = 0) : dc_wp (mm_lay_I S root) (fun q => md_fr [42, 43, 47, 48, 49] [39, 40, 51, 52, 53, 54, 55, 56, 57, 58, 59, 60, 62, 63, 64, 65, 66, 99] false false S q ∧ sb_LP q (S.1 15).toInt) := by
  obtain ⟨a0, a1, n, c, hc, t⟩ := t
  have hcp := (sb_T_nn n t).2
  unfold mm_lay_I
  refine dc_ixT (by decide) (by decide) ?_
  refine dc_letB ?_; intro S68 h68
  refine dc_ixT (by decide) (by decide) ?_
  refine dc_letB ?_; intro S70 h70
  have f : md_fr [] [39, 40] false false S S70 := by
    refine ⟨fun k _ => by rw [h70, h68]; rfl, fun k hk => ?_, fun _ => by rw [h70, h68]; rfl, fun _ => by rw [h70, h68]; rfl⟩
    simp only [List.mem_cons, List.mem_nil_iff, or_false, not_or] at hk
    rw [h70, h68, md_a2, if_neg hk.2, md_a2, if_neg hk.1]
  have c39 : S70.2.1 39 0 = root := by rw [h70, h68]; rfl
  have c40 : S70.2.1 40 0 = -1 := by rw [h70, h68]; rfl
  clear h70 h68
  have y42 : S70.1 42 = 0 := (f.1 42 (by decide)).trans z42
  have y43 : S70.1 43 = 0 := (f.1 43 (by decide)).trans z43
  have y47 : S70.1 47 = 0 := (f.1 47 (by decide)).trans z47
  have y48 : S70.1 48 = 0 := (f.1 48 (by decide)).trans z48
  have li : sb_LI S70 := by
    unfold sb_LI sb_tO
    rw [y42, y43, y47, y48, il_0]
    exact ⟨by omega, by omega, by omega, rfl, fun j hj => by omega, fun j hj => by omega, fun _ i hi => by omega⟩
  unfold mm_lay_I_L16
  refine dc_bindI ?_
  refine lay_tree (F := fun v => dc_wp (mm_lay_I_L460 v) (fun q => md_fr [42, 43, 47, 48, 49] [39, 40, 51, 52, 53, 54, 55, 56, 57, 58, 59, 60, 62, 63, 64, 65, 66, 99] false false S q ∧ sb_LP q (S.1 15).toInt)) h15 n t (by omega) S70 1 (-1) 1 (-1) (f.2.1 30 (by decide)) (f.2.1 31 (by decide)) (f.2.1 32 (by decide)) (f.2.1 33 (by decide)) (f.2.1 35 (by decide)) (by rw [f.1 15 (by decide)]; exact h15) (by rw [f.1 28 (by decide)]; exact h28) (fun x hx => ⟨?_, ?_⟩) li (by rw [y42, il_0]; omega) (by decide) (by rw [il_1]; omega) ?_ c40 (.inl ⟨rfl, rfl, rfl⟩) (fun x hx => hx.elim) (fun q lk _ => ?_)
  · unfold sb_QS at *
    rw [f.1 15 (by decide), f.1 28 (by decide), f.2.1 36 (by decide), f.2.1 37 (by decide), f.2.1 38 (by decide)]; exact hx
  · intro e; have := hx.1; rw [e, il_m1] at this; omega
  · show (S70.2.1 39 0).toInt = _
    rw [c39]; omega
  · obtain ⟨m1, ⟨l1, l2, l3, l4, l5, l6, l7⟩, m3, m4, m5⟩ := lk
    rw [y42, il_0] at m3 m4 m5
    have e42 := m1.2.1
    rw [y42, il_0] at e42
    refine dc_it1 ?_
    show dc_wp (mm_lay_I_b16 q 0) _
    unfold mm_lay_I_b16
    refine dc_ifN (by decide) ?_
    refine dc_ret ?_
    show dc_wp (mm_lay_I_L460 q) _
    unfold mm_lay_I_L460
    refine dc_ixT l1.1 (by show (q.1 42).toInt < 1201; omega) ?_
    refine dc_letB ?_; intro S3 h3
    have f3 : md_fr [] [62] false false q S3 := by
      refine ⟨fun k _ => by rw [h3]; rfl, fun k hk => ?_, fun _ => by rw [h3]; rfl, fun _ => by rw [h3]; rfl⟩
      rw [h3, md_a2]; exact if_neg (fun h => hk (by rw [h]; decide))
    have c62 : S3.2.1 62 = upd (q.2.1 62) (q.1 42).toInt.toNat (q.1 47) := by rw [h3]; rfl
    clear h3
    refine dc_letB ?_; intro v4 hv4
    have hv : v4.toInt = (q.1 42).toInt - 1 := by rw [hv4, f3.1 42 (by decide)]; exact dec2 (by omega)
    have eN : S3.1 42 = q.1 42 := f3.1 42 (by decide)
    have hN' : (c : Int) = (q.1 42).toInt := by omega
    have hN1 : 1 ≤ (q.1 42).toInt := by omega
    clear t hcp hc
    have m6 : (sb_cl (q.2.1 51) (q.1 42).toInt.toNat : Int) ≤ (S.1 15).toInt := by
      rw [show sb_cl (S70.2.1 51) (0 : Int).toNat = 0 from rfl] at m5; omega
    clear m5
    have m3' : sb_L S3 n 582 1 (-1) 0 c := by
      refine sb_L_eq (by rw [f3.1 47 (by decide)]; exact Int.le_refl _) (fun x hx => ?_) n (fun j _ _ => ?_) m3
      · unfold sb_PR at *; rw [f3.1 43 (by decide), f3.2.1 66 (by decide)]; exact hx
      · rw [f3.2.1 51 (by decide), f3.2.1 52 (by decide), f3.2.1 53 (by decide), f3.2.1 54 (by decide), f3.2.1 57 (by decide), f3.2.1 58 (by decide), f3.2.1 60 (by decide)]
        exact ⟨⟨rfl, rfl, rfl, rfl, rfl⟩, fun _ => rfl, fun _ _ => rfl⟩
    have m4' : sb_EX S3 0 (q.1 42).toInt := by
      intro j h1 h2 h3
      rw [f3.2.1 51 (by decide)] at h3
      obtain ⟨m, hm⟩ := m4 j h1 (by omega) h3
      rw [f3.2.1 60 (by decide), f3.2.1 54 (by decide)]
      exact ⟨m, sb_ch_eq (by rw [eN]; exact Int.le_refl _) (fun j _ => by rw [f3.2.1 51 (by decide), f3.2.1 54 (by decide), f3.2.1 60 (by decide)]; exact ⟨rfl, fun _ => rfl, rfl⟩) hm⟩
    unfold mm_lay_I_L480
    refine dc_loopI (fun z => md_fr [] [54, 55, 59] false false S3 z.1 ∧ (-1 ≤ z.2.toInt ∧ z.2.toInt < (q.1 42).toInt) ∧ (∀ j : Nat, (¬ S3.2.1 51 j = 9 ∨ (j : Int) ≤ z.2.toInt) → z.1.2.1 54 j = S3.2.1 54 j) ∧ ∀ j : Nat, z.2.toInt < (j : Int) → (j : Int) < (q.1 42).toInt → (j : Int) < (z.1.2.1 59 j).toInt ∧ (z.1.2.1 59 j).toInt ≤ (q.1 42).toInt) (fun z => (z.2.toInt + 1).toNat) ⟨md_fr_rf, ⟨by show -1 ≤ v4.toInt; omega, by show v4.toInt < _; omega⟩, fun _ _ => rfl, fun j h1 h2 => ?_⟩ ?_
    · replace h1 : v4.toInt < (j : Int) := h1; omega
    · rintro ⟨S4, x3⟩ ⟨g1, g2, g3, g4⟩
      replace g2 : -1 ≤ x3.toInt ∧ x3.toInt < (q.1 42).toInt := g2
      unfold mm_lay_I_s480 mm_lay_I_b480
      refine dc_ifI (fun hx => ?_) (fun hx => ?_)
      · have hx' := i_lt.mp hx
        rw [il_0] at hx'
        have ex : x3.toInt = -1 := le_m1 g2.1 hx'
        refine dc_ret ?_
        show dc_wp (mm_lay_I_L495 S4) _
        have eN4 : S4.1 42 = q.1 42 := (g1.1 42 (by decide)).trans eN
        have e43 : S4.1 43 = q.1 43 := (g1.1 43 (by decide)).trans (f3.1 43 (by decide))
        have e47 : S4.1 47 = q.1 47 := (g1.1 47 (by decide)).trans (f3.1 47 (by decide))
        have e48 : S4.1 48 = q.1 48 := (g1.1 48 (by decide)).trans (f3.1 48 (by decide))
        have e57 : S4.2.1 57 = q.2.1 57 := (g1.2.1 57 (by decide)).trans (f3.2.1 57 (by decide))
        have e51 : S4.2.1 51 = q.2.1 51 := (g1.2.1 51 (by decide)).trans (f3.2.1 51 (by decide))
        have e62 : S4.2.1 62 = upd (q.2.1 62) (q.1 42).toInt.toNat (q.1 47) := (g1.2.1 62 (by decide)).trans c62
        refine dc_ret ⟨md_fr_tr (md_fr_tr (md_fr_tr (md_fr_tr (wi := [42, 43, 47, 48, 49]) (wa := [39, 40, 51, 52, 53, 54, 55, 56, 57, 58, 59, 60, 62, 63, 64, 65, 66, 99]) (bw := false) (bt := false) md_fr_rf f (by decide)) m1.1 (by decide)) f3 (by decide)) g1 (by decide), ?_⟩
        unfold sb_LP
        rw [eN4, e43, e47, e48, e57, e51, e62]
        refine ⟨⟨hN1, l1.2⟩, l2, l3.1, fun h i hi => ?_, l4, fun j hj => ⟨(l6 j hj).2, g4 j (by omega) hj⟩, fun j hj => ?_, ⟨n, ?_⟩, m6⟩
        · exact sb_pl_eq (by rw [g1.2.1 63 (by decide), f3.2.1 63 (by decide)]) (by rw [g1.2.1 64 (by decide), f3.2.1 64 (by decide)]) (by rw [g1.2.1 65 (by decide), f3.2.1 65 (by decide)]) (l7 h i hi)
        · by_cases hz : (j : Int) < (q.1 42).toInt
          · rw [sb_dn _ _ (nat_ne hz)]; exact (l6 j hz).1
          · rw [show j = (q.1 42).toInt.toNat by omega, sb_up]; omega
        · rw [show (q.1 42).toInt.toNat = c by omega]
          refine sb_L_eq (by rw [e47, f3.1 47 (by decide)]; exact Int.le_refl _) (fun x hx => ?_) n (fun j _ _ => ?_) m3'
          · unfold sb_PR at *; rw [g1.1 43 (by decide), g1.2.1 66 (by decide)]; exact hx
          · rw [g1.2.1 51 (by decide), g1.2.1 52 (by decide), g1.2.1 53 (by decide), g1.2.1 57 (by decide), g1.2.1 58 (by decide), g1.2.1 60 (by decide)]
            exact ⟨⟨rfl, rfl, rfl, rfl, rfl⟩, fun _ => rfl, fun h9 _ => g3 j (.inl h9)⟩
      · have hx' : ¬ x3.toInt < 0 := fun h => hx (i_lt.mpr (by rw [il_0]; exact h))
        have eN4 : S4.1 42 = q.1 42 := (g1.1 42 (by decide)).trans eN
        have hx0 : 0 ≤ x3.toInt := Int.not_lt.mp hx'
        have lc := sb_L_kids m3' hN' hx0 g2.2
        refine dc_callI (mm_code_l (S := S4) (p := x3) hx0 (by rw [eN4]; exact g2.2) (by rw [eN4]; exact l1.2) ?_ ?_ ?_ ?_) (fun q1 co => ?_)
        · rw [g1.2.1 52 (by decide), eN4]; exact lc.1
        · rw [g1.2.1 53 (by decide), eN4]; exact lc.2
        · rw [eN4]; exact fun j a b => g4 j a b
        · rw [g1.2.1 51 (by decide)]
          intro h9
          obtain ⟨m, hm⟩ := m4' x3.toInt.toNat (Int.natCast_nonneg _) (by rw [Int.toNat_of_nonneg hx0]; exact g2.2) h9
          rw [g1.2.1 60 (by decide), g3 _ (.inr (by show (x3.toInt.toNat : Int) ≤ x3.toInt; rw [Int.toNat_of_nonneg hx0]; exact Int.le_refl _))]
          exact ⟨m, sb_ch_eq (by rw [eN4, eN]; exact Int.le_refl _) (fun j _ => ⟨by rw [g1.2.1 51 (by decide)], fun h8 => g3 j (.inl (by rw [h8]; decide)), by rw [g1.2.1 60 (by decide)]⟩) hm⟩
        · obtain ⟨o1, o2, o3, o4⟩ := co
          rw [g1.2.1 51 (by decide)] at o3
          rw [eN4] at o4
          have ex : (x3 + -1).toInt = x3.toInt - 1 := dec1 hx0
          refine dc_ret ⟨⟨md_fr_tr g1 o1 (by decide), ⟨by show -1 ≤ (x3 + -1).toInt; rw [ex]; exact ms1 hx0, by show (x3 + -1).toInt < _; rw [ex]; exact ms2 g2.2⟩, fun j hj => ?_, fun j h1 h2 => ?_⟩, ?_⟩
          · by_cases hz : j = x3.toInt.toNat
            · rcases hj with hj | hj
              · rw [hz] at hj ⊢; rw [o3 hj]; exact g3 _ (.inl hj)
              · replace hj : (j : Int) ≤ (x3 + -1).toInt := hj
                rw [ex, hz] at hj
                exact absurd hj (ms3 hx0)
            · rw [(o2 j hz).1]
              refine g3 j (hj.imp id (fun h => ?_))
              replace h : (j : Int) ≤ (x3 + -1).toInt := h
              rw [ex] at h
              exact ms4 h
          · by_cases hz : j = x3.toInt.toNat
            · rw [hz]; exact o4
            · rw [(o2 j hz).2]
              replace h1 : (x3 + -1).toInt < (j : Int) := h1
              rw [ex] at h1
              exact g4 j (ms5 hx0 h1 hz) h2
          · show ((x3 + -1).toInt + 1).toNat < (x3.toInt + 1).toNat
            rw [ex]; exact ms6 hx0
