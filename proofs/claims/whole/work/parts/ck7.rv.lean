/-! the class's reactor: closeSingle, valueOf -/
section RVC
variable {G : hg_E} {E : rvP} {S : hg_S} {q : rsT} {x y : Int32}
theorem cs_w (h : RV G E S q) (hx : rvN E x) (hy : rvN E y) (h8 : vR E 0 x.toInt.toNat = 8 → ∃ f t : Nat, vR E 8 x.toInt.toNat = Int32.ofNat f ∧ vR E 9 x.toInt.toNat = Int32.ofNat t ∧ f ≤ t ∧ t ≤ vL' E 11 ∧ t ≤ 100000) (h10 : vR E 0 x.toInt.toNat = 10 → (0 ≤ (vR E 4 x.toInt.toNat).toInt ∧ (vR E 4 x.toInt.toNat).toInt < (vL' E 4 : Int)) ∧ 0 ≤ (q.1 4 (vR E 4 x.toInt.toNat).toInt.toNat).toInt ∧ (q.1 4 (vR E 4 x.toInt.toNat).toInt.toNat).toInt < (vL' E 1 : Int) ∧ (q.1 4 (vR E 4 x.toInt.toNat).toInt.toNat).toInt < (vL' E 2 : Int)) : dc_wp (hm_RE_closeSingle G S (vO E) x y) (fun S' => RV G E S' (reCs E q x.toInt.toNat y.toInt.toNat)) := by
  delta hm_RE_closeSingle
  refine rv_g h (by decide) (by decide) ?_
  refine rv_g h (by decide) (by decide) ?_
  refine rv_l h (by decide) (by decide) rfl hy.1 (hy.2.2 7 (by decide) (by decide)) ?_
  refine rv_s h (by decide) (by decide) rfl hx.1 (hx.2.2 7 (by decide) (by decide)) (fun S7 g => ?_)
  refine rv_g g (by decide) (by decide) ?_
  refine rv_g g (by decide) (by decide) ?_
  refine rv_l g (by decide) (by decide) rfl hy.1 (hy.2.2 8 (by decide) (by decide)) ?_
  rw [uX_n (show ¬ 8 = 7 by decide)]
  refine rv_s g (by decide) (by decide) rfl hx.1 (hx.2.2 8 (by decide) (by decide)) (fun S11 k => ?_)
  clear g h
  have e1 : uX (uX q 7 x.toInt.toNat (q.1 7 y.toInt.toNat)) 8 x.toInt.toNat (q.1 8 y.toInt.toNat) = reC1 q x.toInt.toNat y.toInt.toNat := rfl
  rw [e1] at k
  have n4 : (reC1 q x.toInt.toNat y.toInt.toNat).1 4 = q.1 4 := by
    unfold reC1
    rw [uX_n (by decide), uX_n (by decide)]
  unfold reCs
  generalize reC1 q x.toInt.toNat y.toInt.toNat = p at k n4
  refine rv_p k ?_
  refine rv_a k (j := 0) (by decide) rfl ?_
  refine rv_d k (by decide) (by decide) hx.1 (hx.2.1 0 (by decide)) ?_
  refine wq_if (fun c => ?_) (fun c => ?_)
  · rw [if_pos c]
    obtain ⟨⟨a1, a2⟩, a3, a4, a5⟩ := h10 c
    refine rv_g k (by decide) (by decide) ?_
    refine rv_p k ?_
    refine rv_a k (j := 4) (by decide) rfl ?_
    refine rv_d k (by decide) (by decide) hx.1 (hx.2.1 4 (by decide)) ?_
    refine rv_l k (by decide) (by decide) rfl a1 a2 ?_
    rw [n4]
    generalize q.1 4 (vR E 4 x.toInt.toNat).toInt.toNat = pl at a3 a4 a5
    refine rv_c k ?_
    refine wq_call (se_w k a3 ⟨a4, a5⟩) (fun S2 g => ?_)
    unfold reC2
    generalize reSe p pl.toInt.toNat = p2 at g
    refine rv_i g (by decide) (by decide) ?_
    refine wq_if (fun d => ?_) (fun d => ?_)
    · rw [if_pos d]
      refine rv_g g (by decide) (by decide) ?_
      refine rv_l g (by decide) (by decide) rfl hx.1 (hx.2.2 9 (by decide) (by decide)) ?_
      refine wq_if (fun d2 => ?_) (fun d2 => ?_)
      · rw [if_pos d2]
        delta hm_RE_closeSingle_L89 hm_RE_closeSingle_L90
        rw [zb0]
        exact rv_f g (by decide) (by decide) (fun S3 g => ⟨_, rfl, g⟩)
      · rw [if_neg d2]
        refine rv_g g (by decide) (by decide) ?_
        refine rv_l g (by decide) (by decide) rfl a3 a4 ?_
        refine wq_if (fun d3 => ?_) (fun d3 => ?_)
        · rw [if_pos d3]
          delta hm_RE_closeSingle_L85 hm_RE_closeSingle_L90
          rw [zb1]
          exact rv_f g (by decide) (by decide) (fun S3 g => ⟨_, rfl, g⟩)
        · rw [if_neg d3]
          delta hm_RE_closeSingle_L89 hm_RE_closeSingle_L90
          rw [zb0]
          exact rv_f g (by decide) (by decide) (fun S3 g => ⟨_, rfl, g⟩)
    · rw [if_neg d]
      delta hm_RE_closeSingle_L85 hm_RE_closeSingle_L90
      rw [zb1]
      exact rv_f g (by decide) (by decide) (fun S3 g => ⟨_, rfl, g⟩)
  · rw [if_neg c]
    refine rv_p k ?_
    refine rv_a k (j := 0) (by decide) rfl ?_
    refine rv_d k (by decide) (by decide) hx.1 (hx.2.1 0 (by decide)) ?_
    refine wq_if (fun d => ?_) (fun d => ?_)
    · rw [if_pos d]
      obtain ⟨f, t, b1, b2, b3, b4, b5⟩ := h8 d
      refine rv_g k (by decide) (by decide) ?_
      refine rv_g k (by decide) (by decide) ?_
      refine rv_l k (by decide) (by decide) rfl hx.1 (hx.2.2 7 (by decide) (by decide)) ?_
      have ew : ∀ a, hm_SE_withoutTrap G S11 a = some (wTr a) := fun a => rfl
      rw [ew]
      refine rv_s k (by decide) (by decide) rfl hx.1 (hx.2.2 7 (by decide) (by decide)) (fun S2 g => ?_)
      refine rv_g g (by decide) (by decide) ?_
      refine rv_l g (by decide) (by decide) rfl hx.1 (hx.2.2 8 (by decide) (by decide)) ?_
      unfold reC3
      refine wq_if (fun d2 => ?_) (fun d2 => ?_)
      · rw [if_pos d2]
        exact ⟨_, rfl, g⟩
      · rw [if_neg d2]
        refine rv_c g ?_
        refine wq_call (cl_w g hx b1 b2 b3 b4 b5) (fun S3 g2 => ?_)
        have e8 : (reCl E (uX p 7 x.toInt.toNat (wTr (p.1 7 x.toInt.toNat))) x.toInt.toNat).1 8 x.toInt.toNat = p.1 8 x.toInt.toNat := by
          unfold reCl
          rw [fX_n (by decide), uX_n (by decide)]
        refine rv_g g2 (by decide) (by decide) ?_
        refine rv_g g2 (by decide) (by decide) ?_
        refine rv_l g2 (by decide) (by decide) rfl hx.1 (hx.2.2 8 (by decide) (by decide)) ?_
        rw [e8]
        refine wq_if (fun d3 => ?_) (fun d3 => ?_)
        · rw [if_pos d3]
          delta hm_RE_closeSingle_L167
          exact rv_s g2 (by decide) (by decide) rfl hx.1 (hx.2.2 8 (by decide) (by decide)) (fun S4 g3 => ⟨_, rfl, g3⟩)
        · rw [if_neg d3]
          refine rv_g g2 (by decide) (by decide) ?_
          refine rv_l g2 (by decide) (by decide) rfl hx.1 (hx.2.2 8 (by decide) (by decide)) ?_
          rw [e8]
          delta hm_RE_closeSingle_L167
          exact rv_s g2 (by decide) (by decide) rfl hx.1 (hx.2.2 8 (by decide) (by decide)) (fun S4 g3 => ⟨_, rfl, g3⟩)
    · rw [if_neg d]
      exact ⟨_, rfl, k⟩
end RVC
