/-! the list of nodes: one more -/
section ALA
variable {G : hg_E} {S : hg_S} {a e cap : Nat} {el : Nat → Option Nat} {size mod : Int32} {v : Nat} {fs : List Value}
/-- the store -/
theorem al_st {T : hg_S} (ha : hg_at T.1 a = some (.inr (7, [.ref e, .int size, .int mod]))) (he : hg_at T.1 e = some (.inl (G.1 3, cap, .inr (.inr (.inr (.inr el)))))) (hw0 : hw T) (s0 : 0 ≤ size.toInt) (s1 : size.toInt < (cap : Int)) (hv : hg_at T.1 v = some (.inr (8, fs))) : dc_wp (hm_AL_add_LALI_L11 G T a (some v) (some e) size) (fun T' => hg_at T'.1 a = some (.inr (7, [.ref e, .int (size + 1), .int mod])) ∧ (∃ el', hg_at T'.1 e = some (.inl (G.1 3, cap, .inr (.inr (.inr (.inr el'))))) ∧ el' size.toInt.toNat = some v ∧ ∀ i, ¬ i = size.toInt.toNat → el' i = el i) ∧ T'.2 = T.2 ∧ hw T' ∧ ∀ b, b ≠ a → b ≠ e → hg_at T'.1 b = hg_at T.1 b) := by
  have ae := at_ne ha he (fun z => by cases z)
  have o1 : hg_ost G T (some e) size (some v) 8 = some (hu T e (.inl (G.1 3, cap, .inr (.inr (.inr (.inr (va_up el size.toInt.toNat (some v)))))))) := by
    unfold hg_ost
    rw [vq_oa he, Option.bind_some, vq_ix s0 s1, Option.bind_some, vq_chk hv]
    rfl
  delta hm_AL_add_LALI_L11
  rw [o1]
  have k : hg_at (hu T e (.inl (G.1 3, cap, .inr (.inr (.inr (.inr (va_up el size.toInt.toNat (some v)))))))).1 a = some (.inr (7, [.ref e, .int size, .int mod])) := (hu_ne ae).trans ha
  refine wq_pfT (fs' := [.ref e, .int (size + 1), .int mod]) k (Nat.le_of_ble_eq_true rfl) rfl ?_
  intro T' eT
  refine ⟨T', rfl, by rw [← eT]; exact hu_self k, ⟨va_up el size.toInt.toNat (some v), ?_, if_pos rfl, fun i hi => if_neg hi⟩, by rw [← eT]; rfl, by rw [← eT]; exact (hw0.hu).hu, ?_⟩
  · rw [← eT, hu_ne (Ne.symm ae)]
    exact hu_self he
  · intro b b1 b2
    rw [← eT, hu_ne b1, hu_ne b2]
set_option maxHeartbeats 1000000 in
theorem al_add (h : alv G S a e cap el size mod) (hw0 : hw S) (hE : G.2.2.1 < S.2.1) (s0 : 0 ≤ size.toInt) (s1 : size.toInt ≤ (cap : Int)) (hcap : cap ≤ 500000) (hel : ∀ i, i < size.toInt.toNat → ∃ p fs, el i = some p ∧ hg_at S.1 p = some (.inr (8, fs))) (hv : hg_at S.1 v = some (.inr (8, fs))) (hc : 1 ≤ S.2.2.1) (hs : cap + cap / 2 + 10 ≤ S.2.2.2) : dc_wp (hm_AL_add_L G S a (some v)) (fun q => ∃ e' cap' el', alv G q.1 a e' cap' el' (size + 1) (mod + 1) ∧ hw q.1 ∧ (∀ i, i < size.toInt.toNat → el' i = el i) ∧ el' size.toInt.toNat = some v ∧ size.toInt < (cap' : Int) ∧ ((e' = e ∧ ¬ e = G.2.2.1 ∧ cap' = cap ∧ q.1.2 = S.2) ∨ (e' = S.2.1 ∧ q.1.2 = (S.2.1 + 1, S.2.2.1 - 1, S.2.2.2 - cap') ∧ ((cap = 0 ∧ cap' = 10) ∨ (10 ≤ cap ∧ size.toInt = (cap : Int) ∧ cap' = cap + cap / 2)))) ∧ ∀ b, b ≠ a → b ≠ e' → hg_at q.1.1 b = hg_at S.1 b) := by
  obtain ⟨h0, h1⟩ := h
  have la := hw0.lt h0
  have aN : (Int32.ofNat cap).toInt = (cap : Int) := Int32.toInt_ofNat_of_lt (by omega)
  have sN : (size + 1).toInt = size.toInt + 1 := by rw [i_addS (by rw [il_1]; omega), il_1]
  have i10 : (10 : Int32).toInt = 10 := by decide
  delta hm_AL_add_L
  refine wq_gi (x := mod) h0 rfl ?_
  refine wq_pfT (fs' := [.ref e, .int size, .int (mod + 1)]) h0 (Nat.le_of_ble_eq_true rfl) rfl ?_
  intro S2 e2
  have g0 : hg_at S2.1 a = some (.inr (7, [.ref e, .int size, .int (mod + 1)])) := by rw [← e2]; exact hu_self h0
  have gn : ∀ b, b ≠ a → hg_at S2.1 b = hg_at S.1 b := fun b hb => by rw [← e2, hu_ne hb]
  have gs : S2.2 = S.2 := by rw [← e2]; rfl
  have gw : hw S2 := by rw [← e2]; exact hw0.hu
  have va : v ≠ a := at_ne hv h0 (fun z => by cases z)
  have gv : hg_at S2.1 v = some (.inr (8, fs)) := (gn v va).trans hv
  have t1 : S2.2.1 = S.2.1 := by rw [gs]
  have t2 : S2.2.2.1 = S.2.2.1 := by rw [gs]
  have t3 : S2.2.2.2 = S.2.2.2 := by rw [gs]
  refine wq_gr (x := some e) g0 rfl ?_
  refine wq_gi (x := size) g0 rfl ?_
  refine wq_chk g0 ?_
  -- how it ends, with an array that has room
  have fin : ∀ (T : hg_S) (e' cap' : Nat) (g : Nat → Option Nat), hg_at T.1 a = some (.inr (7, [.ref e', .int size, .int (mod + 1)])) → hg_at T.1 e' = some (.inl (G.1 3, cap', .inr (.inr (.inr (.inr g))))) → hw T → size.toInt < (cap' : Int) → (∀ i, i < size.toInt.toNat → g i = el i) → ¬ e' = G.2.2.1 → 10 ≤ cap' → (∀ b, b ≠ a → b ≠ e' → hg_at T.1 b = hg_at S.1 b) → hg_at T.1 v = some (.inr (8, fs)) → ((e' = e ∧ ¬ e = G.2.2.1 ∧ cap' = cap ∧ T.2 = S.2) ∨ (e' = S.2.1 ∧ T.2 = (S.2.1 + 1, S.2.2.1 - 1, S.2.2.2 - cap') ∧ ((cap = 0 ∧ cap' = 10) ∨ (10 ≤ cap ∧ size.toInt = (cap : Int) ∧ cap' = cap + cap / 2)))) → dc_wp (hm_AL_add_LALI_L11 G T a (some v) (some e') size) (fun T' => ∃ e' cap' el', alv G T' a e' cap' el' (size + 1) (mod + 1) ∧ hw T' ∧ (∀ i, i < size.toInt.toNat → el' i = el i) ∧ el' size.toInt.toNat = some v ∧ size.toInt < (cap' : Int) ∧ ((e' = e ∧ ¬ e = G.2.2.1 ∧ cap' = cap ∧ T'.2 = S.2) ∨ (e' = S.2.1 ∧ T'.2 = (S.2.1 + 1, S.2.2.1 - 1, S.2.2.2 - cap') ∧ ((cap = 0 ∧ cap' = 10) ∨ (10 ≤ cap ∧ size.toInt = (cap : Int) ∧ cap' = cap + cap / 2)))) ∧ ∀ b, b ≠ a → b ≠ e' → hg_at T'.1 b = hg_at S.1 b) := by
    intro T e' cap' g x1 x2 x3 x4 x5 x6 x10 x7 x8 x9
    refine dc_mono (al_st x1 x2 x3 s0 x4 x8) ?_
    rintro T' ⟨y1, ⟨el', y2, y3, y4⟩, y5, y6, y7⟩
    refine ⟨e', cap', el', ⟨y1, Or.inr ⟨x6, x10, y2⟩⟩, y6, fun i hi => (y4 i (by omega)).trans (x5 i hi), y3, x4, ?_, fun b b1 b3 => (y7 b b1 b3).trans (x7 b b1 b3)⟩
    rw [y5]; exact x9
  have wrap : ∀ (E : Option hg_S), dc_wp E (fun T' => ∃ e' cap' el', alv G T' a e' cap' el' (size + 1) (mod + 1) ∧ hw T' ∧ (∀ i, i < size.toInt.toNat → el' i = el i) ∧ el' size.toInt.toNat = some v ∧ size.toInt < (cap' : Int) ∧ ((e' = e ∧ ¬ e = G.2.2.1 ∧ cap' = cap ∧ T'.2 = S.2) ∨ (e' = S.2.1 ∧ T'.2 = (S.2.1 + 1, S.2.2.1 - 1, S.2.2.2 - cap') ∧ ((cap = 0 ∧ cap' = 10) ∨ (10 ≤ cap ∧ size.toInt = (cap : Int) ∧ cap' = cap + cap / 2)))) ∧ ∀ b, b ≠ a → b ≠ e' → hg_at T'.1 b = hg_at S.1 b) → dc_wp (E.bind fun q8 => some (q8, (1 : Int32))) (fun q => ∃ e' cap' el', alv G q.1 a e' cap' el' (size + 1) (mod + 1) ∧ hw q.1 ∧ (∀ i, i < size.toInt.toNat → el' i = el i) ∧ el' size.toInt.toNat = some v ∧ size.toInt < (cap' : Int) ∧ ((e' = e ∧ ¬ e = G.2.2.1 ∧ cap' = cap ∧ q.1.2 = S.2) ∨ (e' = S.2.1 ∧ q.1.2 = (S.2.1 + 1, S.2.2.1 - 1, S.2.2.2 - cap') ∧ ((cap = 0 ∧ cap' = 10) ∨ (10 ≤ cap ∧ size.toInt = (cap : Int) ∧ cap' = cap + cap / 2)))) ∧ ∀ b, b ≠ a → b ≠ e' → hg_at q.1.1 b = hg_at S.1 b) := by
    intro E hE'
    refine wq_call hE' ?_
    intro T hT
    exact ⟨_, rfl, hT⟩
  refine wrap _ ?_
  delta hm_AL_add_LALI
  rcases h1 with ⟨k1, k2⟩ | ⟨k1, hc10, k2⟩
  · -- the empty array
    subst k2
    have z0 : size = 0 := i_eq.mpr (by rw [il_0]; omega)
    have ol : ∀ T : hg_S, hg_oln G T (some e) = some 0 := fun T => by
      unfold hg_oln
      rw [if_pos (congrArg some k1)]
    rw [ol, Option.bind_some, if_pos z0]
    refine wq_chk g0 ?_
    have gr : hm_AL_grow_0 G S2 a = some (hu (hp S2 (.inl (G.1 3, 10, .inr (.inr (.inr (.inr (fun _ => none)))))) 10) a (.inr (7, [.ref S2.2.1, .int size, .int (mod + 1)])), some S2.2.1) := by
      have f1 : hg_gi S2 (some a) 7 1 = some size := by
        unfold hg_gi
        rw [vq_fld g0 rfl]
      have f0 : hg_gr S2 (some a) 7 0 = some (some e) := by
        unfold hg_gr
        rw [vq_fld g0 rfl]
      have n1 : hg_newo G S2 (dc_max 10 (size + 1)) = some (hp S2 (.inl (G.1 3, 10, .inr (.inr (.inr (.inr (fun _ => none)))))) 10) := by
        have m1 : dc_max 10 (size + 1) = 10 := by
          unfold dc_max
          rw [if_neg (fun z => by have := i_lt.mp z; rw [sN, i10] at this; omega)]
        have c10 : (10 : Int32).toNatClampNeg = 10 := rfl
        rw [m1]
        unfold hg_newo
        rw [if_pos ⟨by decide, by omega, by rw [c10]; omega, by decide⟩]
        rfl
      have hk : hg_at (hp S2 (.inl (G.1 3, 10, .inr (.inr (.inr (.inr (fun _ => none)))))) 10).1 a = some (.inr (7, [.ref e, .int size, .int (mod + 1)])) := (hp_ne (by omega)).trans g0
      have p1 : hg_pf (hp S2 (.inl (G.1 3, 10, .inr (.inr (.inr (.inr (fun _ => none)))))) 10) (some a) 7 0 (va_rf (some S2.2.1)) = some (hu (hp S2 (.inl (G.1 3, 10, .inr (.inr (.inr (.inr (fun _ => none)))))) 10) a (.inr (7, [.ref S2.2.1, .int size, .int (mod + 1)]))) := by
        unfold hg_pf
        dsimp only
        rw [hk]
        rfl
      delta hm_AL_grow_0
      rw [f1, Option.bind_some, vq_chk g0, Option.bind_some]
      delta hm_AL_grow_I
      rw [f0, Option.bind_some, ol, Option.bind_some, if_neg lt00, Option.bind_some, if_pos (congrArg some k1), n1, Option.bind_some, p1]
      rfl
    rw [gr, Option.bind_some]
    show dc_wp (hm_AL_add_LALI_L11 G (hu (hp S2 (.inl (G.1 3, 10, .inr (.inr (.inr (.inr (fun _ => none)))))) 10) a (.inr (7, [.ref S2.2.1, .int size, .int (mod + 1)]))) a (some v) (some S2.2.1) size) _
    have hk : hg_at (hp S2 (.inl (G.1 3, 10, .inr (.inr (.inr (.inr (fun _ => none)))))) 10).1 a = some (.inr (7, [.ref e, .int size, .int (mod + 1)])) := (hp_ne (by omega)).trans g0
    have lv := gw.lt gv
    refine fin _ S2.2.1 10 (fun _ => none) (hu_self hk) ((hu_ne (by omega)).trans (hp_self gw)) (gw.hp.hu) (by rw [z0, il_0]; decide) (fun i hi => by rw [z0] at hi; exact absurd hi (Nat.not_lt_zero _)) (by omega) (by omega) (fun b b1 b3 => (hu_ne b1).trans ((hp_ne b3).trans (gn b b1))) ((hu_ne va).trans ((hp_ne (by omega)).trans gv)) (Or.inr ⟨t1, ?_, Or.inl ⟨rfl, rfl⟩⟩)
    show (S2.2.1 + 1, S2.2.2.1 - 1, S2.2.2.2 - 10) = _
    rw [t1, t2, t3]
  · -- an array of ours
    have ne2 : e ≠ a := at_ne k2 h0 (fun z => by cases z)
    have k3 : hg_at S2.1 e = some (.inl (G.1 3, cap, .inr (.inr (.inr (.inr el))))) := (gn e ne2).trans k2
    have ol : hg_oln G S2 (some e) = some (Int32.ofNat cap) := by
      unfold hg_oln
      rw [if_neg (fun z => k1 (Option.some.inj z)), vq_oa k3]
      rfl
    rw [ol, Option.bind_some]
    refine wq_if (fun c => ?_) (fun c => ?_)
    · have c2 := i_eq.mp c
      rw [aN] at c2
      refine wq_chk g0 ?_
      have hc10' : 10 ≤ cap ∨ cap = 0 := Or.inl hc10
      rcases hc10' with hc10' | hc0
      · delta hm_AL_grow_0
        refine wq_call (P := fun q => q.2 = some S2.2.1 ∧ ∃ g', hg_at q.1.1 a = some (.inr (7, [.ref S2.2.1, .int size, .int (mod + 1)])) ∧ hg_at q.1.1 S2.2.1 = some (.inl (G.1 3, cap + cap / 2, .inr (.inr (.inr (.inr g'))))) ∧ (∀ i, i < cap → g' i = el i) ∧ (∀ b, b ≠ a → b ≠ S2.2.1 → hg_at q.1.1 b = hg_at S2.1 b) ∧ q.1.2 = (S2.2.1 + 1, S2.2.2.1 - 1, S2.2.2.2 - (cap + cap / 2)) ∧ hw q.1) ?_ ?_
        · refine wq_gi (x := size) g0 rfl ?_
          refine wq_chk g0 ?_
          delta hm_AL_grow_I
          refine wq_call (P := fun q => q.2 = some S2.2.1 ∧ ∃ g', hg_at q.1.1 a = some (.inr (7, [.ref S2.2.1, .int size, .int (mod + 1)])) ∧ hg_at q.1.1 S2.2.1 = some (.inl (G.1 3, cap + cap / 2, .inr (.inr (.inr (.inr g'))))) ∧ (∀ i, i < cap → g' i = el i) ∧ (∀ b, b ≠ a → b ≠ S2.2.1 → hg_at q.1.1 b = hg_at S2.1 b) ∧ q.1.2 = (S2.2.1 + 1, S2.2.2.1 - 1, S2.2.2.2 - (cap + cap / 2)) ∧ hw q.1) ?_ ?_
          · refine wq_gr (x := some e) g0 rfl ?_
            rw [ol, Option.bind_some, if_pos (i_lt.mpr (by rw [il_0, aN]; omega))]
            delta hm_AL_grow_I_L20
            have nl : hm_AS_newLength G S2 (Int32.ofNat cap) (size + 1 - Int32.ofNat cap) (Int32.ofNat cap >>> (1 &&& (31 : Int32))) = some (Int32.ofNat cap + Int32.ofNat cap >>> (1 &&& (31 : Int32))) ∧ (Int32.ofNat cap + Int32.ofNat cap >>> (1 &&& (31 : Int32))).toInt = ((cap + cap / 2 : Nat) : Int) := by
              have d1 : (size + 1 - Int32.ofNat cap).toInt = 1 := by rw [i_subS (by rw [sN, aN]; omega), sN, aN]; omega
              have d2 : (Int32.ofNat cap >>> (1 &&& (31 : Int32))).toInt = (cap : Int) / 2 := by rw [shr1 (by omega), aN]
              have mx : dc_max (size + 1 - Int32.ofNat cap) (Int32.ofNat cap >>> (1 &&& (31 : Int32))) = Int32.ofNat cap >>> (1 &&& (31 : Int32)) := by
                unfold dc_max
                rw [if_pos (i_lt.mpr (by rw [d1, d2]; omega))]
              have d3 : (Int32.ofNat cap + Int32.ofNat cap >>> (1 &&& (31 : Int32))).toInt = ((cap + cap / 2 : Nat) : Int) := by
                rw [i_addS (by rw [aN, d2]; omega), aN, d2]
                omega
              refine ⟨?_, d3⟩
              have i9 : (2147483639 : Int32).toInt = 2147483639 := by decide
              delta hm_AS_newLength
              rw [mx]
              show (if (0 : Int32) < Int32.ofNat cap + Int32.ofNat cap >>> (1 &&& (31 : Int32)) then _ else _) = _
              rw [if_pos (i_lt.mpr (by rw [il_0, d3]; omega)), if_neg (fun z => by have := i_lt.mp z; rw [i9, d3] at this; omega)]
            rw [nl.1, Option.bind_some]
            refine wq_gr (x := some e) g0 rfl ?_
            refine wq_call (cpO_w k3 k1 gw nl.2 (by omega) (by omega) (by omega) (by omega) (fun i hi => ?_)) ?_
            · obtain ⟨p, ps, p1, p2⟩ := hel i (by omega)
              exact ⟨p, ps, p1, (gn p (at_ne p2 h0 (fun z => by cases z))).trans p2⟩
            · rintro ⟨T, rr⟩ ⟨y1, g', y2, y3, y4, y5, y6⟩
              have y1 : rr = some S2.2.1 := y1
              subst y1
              have y7 : hg_at T.1 a = some (.inr (7, [.ref e, .int size, .int (mod + 1)])) := (y4 a (by omega)).trans g0
              refine wq_pfT (fs' := [.ref S2.2.1, .int size, .int (mod + 1)]) y7 (Nat.le_of_ble_eq_true rfl) rfl ?_
              intro T' eT
              refine ⟨_, rfl, rfl, g', by rw [← eT]; exact hu_self y7, ?_, y3, ?_, by rw [← eT]; exact y5, by rw [← eT]; exact y6.hu⟩
              · rw [← eT, hu_ne (by omega)]; exact y2
              · intro b b1 b2
                rw [← eT, hu_ne b1]
                exact y4 b b2
          · rintro ⟨T, rr⟩ hT
            exact ⟨_, rfl, hT⟩
        · rintro ⟨T, rr⟩ ⟨y1, g', y2, y3, y4, y5, y6, y7⟩
          have y1 : rr = some S2.2.1 := y1
          subst y1
          show dc_wp (hm_AL_add_LALI_L11 G T a (some v) (some S2.2.1) size) _
          have lv := gw.lt gv
          refine fin T S2.2.1 (cap + cap / 2) g' y2 y3 y7 (by omega) (fun i hi => y4 i (by omega)) (by omega) (by omega) (fun b b1 b3 => (y5 b b1 b3).trans (gn b b1)) ((y5 v va (by omega)).trans gv) (Or.inr ⟨t1, ?_, Or.inr ⟨hc10', c2, rfl⟩⟩)
          rw [t1, t2, t3] at y6
          exact y6
      · omega
    · have c2 : ¬ size.toInt = (cap : Int) := fun z => c (i_eq.mpr (z.trans aN.symm))
      exact fin S2 e cap el g0 k3 gw (by omega) (fun _ _ => rfl) k1 hc10 (fun b b1 _ => gn b b1) gv (Or.inl ⟨rfl, k1, rfl, gs⟩)
end ALA
