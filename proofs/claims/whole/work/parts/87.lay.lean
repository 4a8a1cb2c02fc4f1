section LAYB
variable {S : md_S} {x2 r x4 : Int32} {F : (md_S × Int32) ⊕ md_S → Prop}
theorem lay_B (h0 : 0 ≤ x4.toInt) (h1 : x4.toInt < 1200) (hr : 0 ≤ r.toInt ∧ r.toInt < 1200)
    (k0 : ¬ S.2.1 51 x4.toInt.toNat = 1 → S.2.1 35 r.toInt.toNat = -1 → ∀ q : md_S, md_fr [] [62] false false S q → q.2.1 62 = upd (S.2.1 62) x4.toInt.toNat (S.1 47) → dc_wp (mm_lay_I_L368 q x2 r x4) F)
    (k1 : S.2.1 51 x4.toInt.toNat = 1 → S.2.1 35 r.toInt.toNat = -1 → ∀ q : md_S, md_fr [47] [54, 62] false false S q → q.1 47 = S.1 47 + 1 → q.2.1 62 = upd (S.2.1 62) x4.toInt.toNat (S.1 47) → q.2.1 54 = upd (S.2.1 54) x4.toInt.toNat (S.1 47) → dc_wp (mm_lay_I_L368 q x2 r x4) F)
    (h2 : ¬ S.2.1 35 r.toInt.toNat = -1 → ¬ S.2.1 51 x4.toInt.toNat = 1 ∧ sb_QS S (S.2.1 35 r.toInt.toNat) ∧ (S.1 15).toInt ≤ 400 ∧ (S.1 28).toInt ≤ 1000 ∧ 0 ≤ (S.1 43).toInt ∧ (S.1 43).toInt ≤ 1400000)
    (k2 : ¬ S.2.1 35 r.toInt.toNat = -1 → ∀ q1 q : md_S, md_fr [] [62] false false S q1 → sb_AQ q1 q → ∀ q2 : md_S, md_fr [] [54] false false q q2 → q.2.1 62 = upd (S.2.1 62) x4.toInt.toNat (S.1 47) → q2.2.1 54 = upd (S.2.1 54) x4.toInt.toNat (S.1 43) → dc_wp (mm_lay_I_L368 q2 x2 r x4) F) : dc_wp (mm_lay_I_L298 S x2 r x4) F := by
  unfold mm_lay_I_L298
  refine dc_ixT h0 (by show x4.toInt < 1201; omega) ?_
  refine dc_letB ?_; intro S25 h25
  have f25 : md_fr [] [62] false false S S25 := by
    refine ⟨fun j _ => by rw [h25]; rfl, fun j hj => ?_, fun _ => by rw [h25]; rfl, fun _ => by rw [h25]; rfl⟩
    rw [h25, md_a2]; exact if_neg (fun h => hj (by rw [h]; decide))
  have c62 : S25.2.1 62 = upd (S.2.1 62) x4.toInt.toNat (S.1 47) := by rw [h25]; rfl
  clear h25
  refine dc_ixT h0 h1 ?_
  rw [f25.2.1 51 (by decide)]
  refine dc_ifI (fun hk => ?_) (fun hk => ?_)
  · have h3 : S.2.1 35 r.toInt.toNat = -1 := Classical.byContradiction (fun h => (h2 h).1 hk)
    refine dc_ixT h0 h1 ?_
    refine dc_letB ?_; intro S28 h28
    refine dc_letB ?_; intro S29 h29
    have f29 : md_fr [47] [54, 62] false false S S29 := by
      refine ⟨fun j hj => ?_, fun j hj => ?_, fun _ => by rw [h29, h28]; exact f25.2.2.1 rfl, fun _ => by rw [h29, h28]; exact f25.2.2.2 rfl⟩
      · rw [h29, h28, md_i1, if_neg (fun h => hj (by rw [h]; decide))]; exact f25.1 j (by simp)
      · simp only [List.mem_cons, List.mem_nil_iff, or_false, not_or] at hj
        rw [h29, h28]
        show (md_a S25 54 _ _).2.1 j = _
        rw [md_a2, if_neg hj.1]; exact f25.2.1 j (by simp only [List.mem_cons, List.mem_nil_iff, or_false]; exact hj.2)
    have c47 : S29.1 47 = S.1 47 + 1 := by rw [h29, h28]; show S25.1 47 + 1 = _; rw [f25.1 47 (by decide)]
    have d62 : S29.2.1 62 = upd (S.2.1 62) x4.toInt.toNat (S.1 47) := by rw [h29, h28]; exact c62
    have d54 : S29.2.1 54 = upd (S.2.1 54) x4.toInt.toNat (S.1 47) := by rw [h29, h28]; show upd (S25.2.1 54) _ (S25.1 47) = _; rw [f25.1 47 (by decide), f25.2.1 54 (by decide)]
    clear h29 h28
    unfold mm_lay_I_L341
    refine dc_ixT hr.1 hr.2 ?_
    rw [f29.2.1 35 (by decide)]
    exact dc_ifP h3 (k1 hk h3 S29 f29 c47 d62 d54)
  · unfold mm_lay_I_L341
    refine dc_ixT hr.1 hr.2 ?_
    rw [f25.2.1 35 (by decide)]
    refine dc_ifI (fun h3 => k0 hk h3 S25 f25 c62) (fun h3 => ?_)
    obtain ⟨_, g1, g2, g3, g4, g5⟩ := h2 h3
    refine dc_ixT hr.1 hr.2 ?_
    have e15 := f25.1 15 (by decide)
    have e28 := f25.1 28 (by decide)
    have e43 := f25.1 43 (by decide)
    have gq : sb_QS S25 (S.2.1 35 r.toInt.toNat) := by
      unfold sb_QS at *
      rw [e15, e28, f25.2.1 36 (by decide), f25.2.1 37 (by decide), f25.2.1 38 (by decide)]; exact g1
    refine dc_callI (mm_ask_l gq (by rw [e15]; exact g2) (by rw [e28]; exact g3) (by rw [e43]; exact g4) (by rw [e43]; exact g5)) ?_
    rintro q21 ⟨aq, eq⟩
    refine dc_ixT h0 h1 ?_
    refine dc_letB ?_; intro S23 h23
    refine k2 h3 S25 q21.1 f25 aq S23 ⟨fun j _ => by rw [h23]; rfl, fun j hj => ?_, fun _ => by rw [h23]; rfl, fun _ => by rw [h23]; rfl⟩ ?_ ?_
    · rw [h23, md_a2]; exact if_neg (fun h => hj (by rw [h]; decide))
    · rw [aq.1.2.1 62 (by decide)]; exact c62
    · rw [h23]; show upd (q21.1.2.1 54) _ q21.2 = _
      rw [aq.1.2.1 54 (by decide), f25.2.1 54 (by decide), eq, e43]
theorem lay_C (h0 : 0 ≤ x4.toInt) (h1 : x4.toInt < (S.1 42).toInt) (h2 : (S.1 42).toInt ≤ 1200) (hr : 0 ≤ r.toInt ∧ r.toInt < 1200) (htO : sb_tO S) (hx : 0 ≤ x2.toInt ∧ x2.toInt ≤ 1206)
    (k0 : S.2.1 32 r.toInt.toNat = -1 → S.2.1 31 r.toInt.toNat = -1 → ∀ q : md_S, md_fr [49] [] false false S q → F (.inl (q, x2)))
    (k1 : S.2.1 32 r.toInt.toNat = -1 → ¬ S.2.1 31 r.toInt.toNat = -1 → ∀ q : md_S, md_fr [49] [39, 40] false false S q → q.2.1 39 = upd (S.2.1 39) x2.toInt.toNat (S.2.1 31 r.toInt.toNat) → q.2.1 40 = upd (S.2.1 40) x2.toInt.toNat (2 * x4) → F (.inl (q, x2 + 1)))
    (k2 : ¬ S.2.1 32 r.toInt.toNat = -1 → ¬ S.2.1 31 r.toInt.toNat = -1 → ∀ q : md_S, md_fr [49] [39, 40] false false S q → q.2.1 39 = upd (upd (S.2.1 39) x2.toInt.toNat (S.2.1 32 r.toInt.toNat)) (x2.toInt.toNat + 1) (S.2.1 31 r.toInt.toNat) → q.2.1 40 = upd (upd (S.2.1 40) x2.toInt.toNat (2 * x4 + 1)) (x2.toInt.toNat + 1) (2 * x4) → F (.inl (q, x2 + 1 + 1)))
    (h3 : S.2.1 31 r.toInt.toNat = -1 → S.2.1 32 r.toInt.toNat = -1) : dc_wp (mm_lay_I_L368 S x2 r x4) F := by
  have hx1 : (x2 + 1).toInt = x2.toInt + 1 := by rw [a_add, il_1]; omega
  unfold mm_lay_I_L368
  refine dc_callI (mm_around_l htO h0 h1 h2) ?_
  rintro q11 _
  refine dc_letB ?_; intro S12 h12
  have f12 : md_fr [49] [] false false S S12 := by
    refine ⟨fun j hj => ?_, fun j _ => by rw [h12]; rfl, fun _ => by rw [h12]; rfl, fun _ => by rw [h12]; rfl⟩
    rw [h12, md_i1]; exact if_neg (fun h => hj (by rw [h]; decide))
  clear h12
  refine dc_ixT hr.1 hr.2 ?_
  rw [f12.2.1 32 (by decide)]
  refine dc_ifI (fun hs => ?_) (fun hs => ?_)
  · unfold mm_lay_I_L422
    refine dc_ixT hr.1 hr.2 ?_
    rw [f12.2.1 31 (by decide)]
    refine dc_ifI (fun hf => dc_ret (k0 hs hf S12 f12)) (fun hf => ?_)
    refine dc_ixT hr.1 hr.2 ?_
    refine dc_ixT hx.1 (by show x2.toInt < 1208; omega) ?_
    refine dc_letB ?_; intro S8 h8
    refine dc_ixT hx.1 (by show x2.toInt < 1208; omega) ?_
    refine dc_letB ?_; intro S10 h10
    refine dc_ret (k1 hs hf S10 ⟨fun j hj => ?_, fun j hj => ?_, fun _ => ?_, fun _ => ?_⟩ ?_ ?_)
    · rw [h10, h8]; exact f12.1 j hj
    · simp only [List.mem_cons, List.mem_nil_iff, or_false, not_or] at hj
      rw [h10, h8, md_a2, if_neg hj.2, md_a2, if_neg hj.1]; exact f12.2.1 j (by simp)
    · rw [h10, h8]; exact f12.2.2.1 rfl
    · rw [h10, h8]; exact f12.2.2.2 rfl
    · rw [h10, h8]; show upd (S12.2.1 39) _ _ = _; rw [f12.2.1 39 (by decide)]
    · rw [h10, h8]; show upd (S12.2.1 40) _ _ = _; rw [f12.2.1 40 (by decide)]
  · refine dc_ixT hr.1 hr.2 ?_
    refine dc_ixT hx.1 (by show x2.toInt < 1208; omega) ?_
    refine dc_letB ?_; intro S16 h16
    refine dc_ixT hx.1 (by show x2.toInt < 1208; omega) ?_
    refine dc_letB ?_; intro S18 h18
    have g1 : ∀ j, ¬ j = 39 → ¬ j = 40 → S18.2.1 j = S12.2.1 j := fun j a b => by rw [h18, h16, md_a2, if_neg b, md_a2, if_neg a]
    have g39 : S18.2.1 39 = upd (S.2.1 39) x2.toInt.toNat (S.2.1 32 r.toInt.toNat) := by rw [h18, h16]; show upd (S12.2.1 39) _ _ = _; rw [f12.2.1 39 (by decide)]
    have g40 : S18.2.1 40 = upd (S.2.1 40) x2.toInt.toNat (2 * x4 + 1) := by rw [h18, h16]; show upd (S12.2.1 40) _ _ = _; rw [f12.2.1 40 (by decide)]
    have g2 : S18.1 = S12.1 := by rw [h18, h16]; rfl
    have g3 : S18.2.2 = S12.2.2 := by rw [h18, h16]; rfl
    clear h18 h16
    have hf : ¬ S.2.1 31 r.toInt.toNat = -1 := fun h => hs (h3 h)
    unfold mm_lay_I_L422
    refine dc_ixT hr.1 hr.2 ?_
    rw [g1 31 (by decide) (by decide), f12.2.1 31 (by decide)]
    refine dc_ifN hf ?_
    refine dc_ixT hr.1 hr.2 ?_
    refine dc_ixT (by omega) (by show (x2 + 1).toInt < 1208; omega) ?_
    refine dc_letB ?_; intro S8 h8
    refine dc_ixT (by omega) (by show (x2 + 1).toInt < 1208; omega) ?_
    refine dc_letB ?_; intro S10 h10
    have ei : (x2 + 1).toInt.toNat = x2.toInt.toNat + 1 := by omega
    refine dc_ret (k2 hs hf S10 ⟨fun j hj => ?_, fun j hj => ?_, fun _ => ?_, fun _ => ?_⟩ ?_ ?_)
    · rw [h10, h8]; show S18.1 j = _; rw [g2]; exact f12.1 j hj
    · simp only [List.mem_cons, List.mem_nil_iff, or_false, not_or] at hj
      rw [h10, h8, md_a2, if_neg hj.2, md_a2, if_neg hj.1, g1 j hj.1 hj.2]; exact f12.2.1 j (by simp)
    · rw [h10, h8]; show S18.2.2.1 = _; rw [g3]; exact f12.2.2.1 rfl
    · rw [h10, h8]; show S18.2.2.2 = _; rw [g3]; exact f12.2.2.2 rfl
    · rw [h10, h8]; show upd (S18.2.1 39) _ _ = _; rw [g39, ei]
    · rw [h10, h8]; show upd (S18.2.1 40) _ _ = _; rw [g40, ei]
end LAYB
