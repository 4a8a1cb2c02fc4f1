/-! the law's cases -/
section LWC
variable {Ks : md_S → Prop} {G : hg_E} {S : hg_S} {M : md_S} {sz k L : Nat} {xs : Nat → Int32} {v : Int64}
theorem lk_g (hKs : ∀ M e, Ks M → Ks (md_i M 0 e)) (h : wJ Ks G sz k S M) {B : Option (md_S × Int32)} {r : md_S × Int32} {q : Int32} (hr : B = some r) (h1 : r.1 = md_i M 0 0) (e : q = r.2) : dc_wp (B.bind fun q5 => if q = q5.2 then some (S, v, q5.1) else none) (fun z => wJ Ks G sz (k + 1) z.1 z.2.2) := by
  rw [hr]
  show dc_wp (if q = r.2 then some (S, v, r.1) else none) _
  rw [if_pos e]
  refine ⟨_, rfl, ?_⟩
  show wJ Ks G sz (k + 1) S r.1
  rw [h1]
  exact wJ_l (fun e => hKs M e (wJ_K h)) h 0
theorem lw_t3_w (hKs : ∀ M e, Ks M → Ks (md_i M 0 e)) (h : wJ Ks G sz k S M) (hm : 6 * k + 6 ≤ L) (hL : L ≤ 3072) (hs : ∀ p q, dc_wp (mm_node_II M p q) (fun _ => True)) : dc_wp (lw_t3 G xs L sz S v M (Int32.ofNat (6 * k))) (fun z => wJ Ks G sz (k + 1) z.1 z.2.2) := by
  delta lw_t3
  refine wq_jx hm hL 1 il_1 (by omega) ?_
  refine wq_jx hm hL 2 il_2 (by omega) ?_
  refine wJ_o h ?_
  obtain ⟨r, hr, h1, h2⟩ := lk_node h (hs (xs (6 * k + 1)) (xs (6 * k + 2)))
  refine wq_call h2 (fun q eq => ?_)
  refine wq_jx hm hL 1 il_1 (by omega) ?_
  refine wq_jx hm hL 2 il_2 (by omega) ?_
  exact lk_g hKs h hr h1 eq
theorem lw_t4_w (hKs : ∀ M e, Ks M → Ks (md_i M 0 e)) (h : wJ Ks G sz k S M) (hm : 6 * k + 6 ≤ L) (hL : L ≤ 3072) (hs : ∀ p q, dc_wp (mm_piece_II M p q) (fun _ => True)) : dc_wp (lw_t4 G xs L sz S v M (Int32.ofNat (6 * k))) (fun z => wJ Ks G sz (k + 1) z.1 z.2.2) := by
  delta lw_t4
  refine wq_jx hm hL 1 il_1 (by omega) ?_
  refine wq_jx hm hL 2 il_2 (by omega) ?_
  refine wJ_o h ?_
  obtain ⟨r, hr, h1, h2⟩ := lk_piece h (hs (xs (6 * k + 1)) (xs (6 * k + 2)))
  refine wq_call h2 (fun q eq => ?_)
  refine wq_jx hm hL 1 il_1 (by omega) ?_
  refine wq_jx hm hL 2 il_2 (by omega) ?_
  exact lk_g hKs h hr h1 eq
theorem lw_t5_w (hKs : ∀ M e, Ks M → Ks (md_i M 0 e)) (h : wJ Ks G sz k S M) (hm : 6 * k + 6 ≤ L) (hL : L ≤ 3072) (hs : ∀ p q, dc_wp (mm_letter_II M p q) (fun _ => True)) : dc_wp (lw_t5 G xs L sz S v M (Int32.ofNat (6 * k))) (fun z => wJ Ks G sz (k + 1) z.1 z.2.2) := by
  delta lw_t5
  refine wq_jx hm hL 1 il_1 (by omega) ?_
  refine wq_jx hm hL 2 il_2 (by omega) ?_
  refine wJ_o h ?_
  obtain ⟨r, hr, h1, h2⟩ := lk_letter h (hs (xs (6 * k + 1)) (xs (6 * k + 2)))
  refine wq_call h2 (fun q eq => ?_)
  refine wq_jx hm hL 1 il_1 (by omega) ?_
  refine wq_jx hm hL 2 il_2 (by omega) ?_
  exact lk_g hKs h hr h1 eq
theorem lw_t8_w (hKs : ∀ M e, Ks M → Ks (md_i M 0 e)) (h : wJ Ks G sz k S M) (hm : 6 * k + 6 ≤ L) (hL : L ≤ 3072) (hs : ∀ p, dc_wp (mm_status M p) (fun _ => True)) : dc_wp (lw_t8 G xs L sz S v M (Int32.ofNat (6 * k))) (fun z => wJ Ks G sz (k + 1) z.1 z.2.2) := by
  delta lw_t8
  refine wq_jx hm hL 1 il_1 (by omega) ?_
  refine wJ_o h ?_
  obtain ⟨r, hr, h1, h2⟩ := lk_status h (hs (xs (6 * k + 1)))
  refine wq_call h2 (fun q eq => ?_)
  refine wq_jx hm hL 1 il_1 (by omega) ?_
  exact lk_g hKs h hr h1 eq
theorem lw_t9_w (hKs : ∀ M e, Ks M → Ks (md_i M 0 e)) (h : wJ Ks G sz k S M) (hm : 6 * k + 6 ≤ L) (hL : L ≤ 3072) (hs : ∀ p, dc_wp (mm_selected M p) (fun _ => True)) : dc_wp (lw_t9 G xs L sz S v M (Int32.ofNat (6 * k))) (fun z => wJ Ks G sz (k + 1) z.1 z.2.2) := by
  delta lw_t9
  refine wq_jx hm hL 1 il_1 (by omega) ?_
  refine wJ_o h ?_
  obtain ⟨r, hr, h1, h2⟩ := lk_selected h (hs (xs (6 * k + 1)))
  refine wq_call h2 (fun q eq => ?_)
  refine wq_jx hm hL 1 il_1 (by omega) ?_
  exact lk_g hKs h hr h1 eq
theorem lw_t12_w (hKs : ∀ M e, Ks M → Ks (md_i M 0 e)) (h : wJ Ks G sz k S M) (hm : 6 * k + 6 ≤ L) (hL : L ≤ 3072) (hs : ∀ p, dc_wp (mm_distance M p) (fun _ => True)) : dc_wp (lw_t12 G xs L sz S v M (Int32.ofNat (6 * k))) (fun z => wJ Ks G sz (k + 1) z.1 z.2.2) := by
  delta lw_t12
  refine wq_jx hm hL 1 il_1 (by omega) ?_
  refine wJ_o h ?_
  obtain ⟨r, hr, h1, h2⟩ := lk_distance h (hs (xs (6 * k + 1)))
  refine wq_call h2 (fun q eq => ?_)
  refine wq_jx hm hL 1 il_1 (by omega) ?_
  exact lk_g hKs h hr h1 eq
theorem lw_t16_w (hKs : ∀ M e, Ks M → Ks (md_i M 0 e)) (h : wJ Ks G sz k S M) (hm : 6 * k + 6 ≤ L) (hL : L ≤ 3072) (hs : ∀ p, dc_wp (mm_doubt M p) (fun _ => True)) : dc_wp (lw_t16 G xs L sz S v M (Int32.ofNat (6 * k))) (fun z => wJ Ks G sz (k + 1) z.1 z.2.2) := by
  delta lw_t16
  refine wq_jx hm hL 1 il_1 (by omega) ?_
  refine wJ_o h ?_
  obtain ⟨r, hr, h1, h2⟩ := lk_doubt h (hs (xs (6 * k + 1)))
  refine wq_call h2 (fun q eq => ?_)
  refine wq_jx hm hL 1 il_1 (by omega) ?_
  exact lk_g hKs h hr h1 eq
theorem lw_t17_w (hKs : ∀ M e, Ks M → Ks (md_i M 0 e)) (h : wJ Ks G sz k S M) (hm : 6 * k + 6 ≤ L) (hL : L ≤ 3072) (hs : ∀ p, dc_wp (mm_ever M p) (fun _ => True)) : dc_wp (lw_t17 G xs L sz S v M (Int32.ofNat (6 * k))) (fun z => wJ Ks G sz (k + 1) z.1 z.2.2) := by
  delta lw_t17
  refine wq_jx hm hL 1 il_1 (by omega) ?_
  refine wJ_o h ?_
  obtain ⟨r, hr, h1, h2⟩ := lk_ever h (hs (xs (6 * k + 1)))
  refine wq_call h2 (fun q eq => ?_)
  refine wq_jx hm hL 1 il_1 (by omega) ?_
  exact lk_g hKs h hr h1 eq
theorem lw_t18_w (hKs : ∀ M e, Ks M → Ks (md_i M 0 e)) (h : wJ Ks G sz k S M) (hm : 6 * k + 6 ≤ L) (hL : L ≤ 3072) (hs : ∀ p q, dc_wp (mm_together M p q) (fun _ => True)) : dc_wp (lw_t18 G xs L sz S v M (Int32.ofNat (6 * k))) (fun z => wJ Ks G sz (k + 1) z.1 z.2.2) := by
  delta lw_t18
  refine wq_jx hm hL 1 il_1 (by omega) ?_
  refine wq_jx hm hL 2 il_2 (by omega) ?_
  refine wJ_o h ?_
  obtain ⟨r, hr, h1, h2⟩ := lk_together h (hs (xs (6 * k + 1)) (xs (6 * k + 2)))
  refine wq_call h2 (fun q eq => ?_)
  refine wq_jx hm hL 1 il_1 (by omega) ?_
  refine wq_jx hm hL 2 il_2 (by omega) ?_
  exact lk_g hKs h hr h1 eq
theorem lw_t20_w (hKs : ∀ M e, Ks M → Ks (md_i M 0 e)) (h : wJ Ks G sz k S M) (hm : 6 * k + 6 ≤ L) (hL : L ≤ 3072) (hs : ∀ p, dc_wp (mm_alike M p) (fun _ => True)) : dc_wp (lw_t20 G xs L sz S v M (Int32.ofNat (6 * k))) (fun z => wJ Ks G sz (k + 1) z.1 z.2.2) := by
  delta lw_t20
  refine wq_jx hm hL 1 il_1 (by omega) ?_
  refine wJ_o h ?_
  obtain ⟨r, hr, h1, h2⟩ := lk_alike h (hs (xs (6 * k + 1)))
  refine wq_call h2 (fun q eq => ?_)
  refine wq_jx hm hL 1 il_1 (by omega) ?_
  exact lk_g hKs h hr h1 eq
theorem lw_t23_w (hKs : ∀ M e, Ks M → Ks (md_i M 0 e)) (h : wJ Ks G sz k S M) (hm : 6 * k + 6 ≤ L) (hL : L ≤ 3072) (hs : ∀ p, dc_wp (mm_level M p) (fun _ => True)) : dc_wp (lw_t23 G xs L sz S v M (Int32.ofNat (6 * k))) (fun z => wJ Ks G sz (k + 1) z.1 z.2.2) := by
  delta lw_t23
  refine wq_jx hm hL 1 il_1 (by omega) ?_
  refine wJ_o h ?_
  obtain ⟨r, hr, h1, h2⟩ := lk_level h (hs (xs (6 * k + 1)))
  refine wq_call h2 (fun q eq => ?_)
  refine wq_jx hm hL 1 il_1 (by omega) ?_
  exact lk_g hKs h hr h1 eq
theorem lw_t25_w (hKs : ∀ M e, Ks M → Ks (md_i M 0 e)) (h : wJ Ks G sz k S M) (hm : 6 * k + 6 ≤ L) (hL : L ≤ 3072) (hs : ∀ p, dc_wp (mm_count M p) (fun _ => True)) : dc_wp (lw_t25 G xs L sz S v M (Int32.ofNat (6 * k))) (fun z => wJ Ks G sz (k + 1) z.1 z.2.2) := by
  delta lw_t25
  refine wq_jx hm hL 1 il_1 (by omega) ?_
  refine wJ_o h ?_
  obtain ⟨r, hr, h1, h2⟩ := lk_count h (hs (xs (6 * k + 1)))
  refine wq_call h2 (fun q eq => ?_)
  refine wq_jx hm hL 1 il_1 (by omega) ?_
  exact lk_g hKs h hr h1 eq
theorem lw_t13_w (hKs : ∀ M e, Ks M → Ks (md_i M 0 e)) (h : wJ Ks G sz k S M) (hm : 6 * k + 6 ≤ L) (hL : L ≤ 3072) : dc_wp (lw_t13 G xs L sz S v M (Int32.ofNat (6 * k))) (fun z => wJ Ks G sz (k + 1) z.1 z.2.2) := by
  delta lw_t13
  refine wq_jx hm hL 1 il_1 (by omega) ?_
  refine wq_jx hm hL 2 il_2 (by omega) ?_
  refine wJ_o h ?_
  obtain ⟨r, hr, h1, h2⟩ := lk_path (p1 := xs (6 * k + 1)) (p2 := xs (6 * k + 2)) h path_u
  refine wq_call h2 (fun q eq => ?_)
  refine wq_jx hm hL 1 il_1 (by omega) ?_
  refine wq_jx hm hL 2 il_2 (by omega) ?_
  exact lk_g hKs h hr h1 eq
end LWC
