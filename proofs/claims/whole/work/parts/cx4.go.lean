/-! the law, out of what the reference's safety says -/
/-- the reference comes to its end at every call, Ks stays -/
def sfM (Ks : md_S → Prop) (M : md_S) : Prop :=
  dc_wp (mm_read M) (fun r => Ks r.1) ∧ (∀ p q, dc_wp (mm_node_II M p q) (fun _ => True)) ∧ (∀ p q, dc_wp (mm_piece_II M p q) (fun _ => True)) ∧ (∀ p q, dc_wp (mm_letter_II M p q) (fun _ => True)) ∧ dc_wp (mm_restart M) (fun r => Ks r.1) ∧ (∀ p, dc_wp (mm_instant M p) (fun r => Ks r.1)) ∧ (∀ p, dc_wp (mm_status M p) (fun _ => True)) ∧ (∀ p, dc_wp (mm_selected M p) (fun _ => True)) ∧ (∀ p, dc_wp (mm_go M p) (fun r => Ks r)) ∧ dc_wp (mm_explore M) (fun r => Ks r.1) ∧ (∀ p, dc_wp (mm_distance M p) (fun _ => True)) ∧ (∀ p q, dc_wp (mm_next M p q) (fun _ => True)) ∧ (∀ p q, dc_wp (mm_shows M p q) (fun _ => True)) ∧ (∀ p, dc_wp (mm_doubt M p) (fun _ => True)) ∧ (∀ p, dc_wp (mm_ever M p) (fun _ => True)) ∧ (∀ p q, dc_wp (mm_together M p q) (fun _ => True)) ∧ dc_wp (mm_classes M) (fun _ => True) ∧ (∀ p, dc_wp (mm_alike M p) (fun _ => True)) ∧ ((∀ r, mm_lay_0 M = some r → Ks r.1) ∧ (M.1 85 = 0 → dc_wp (mm_lay_0 M) (fun _ => True))) ∧ (∀ p, dc_wp (mm_pass M p) (fun _ => True)) ∧ (∀ p, dc_wp (mm_level M p) (fun _ => True)) ∧ (∀ p, dc_wp (mm_size M p) (fun r => Ks r.1)) ∧ ∀ p, dc_wp (mm_count M p) (fun _ => True)
theorem md_same (M : md_S) : md_i M 0 (M.1 0) = M := by
  refine Prod.ext (funext fun j => ?_) rfl
  rw [md_i1]
  by_cases c : j = 0
  · rw [if_pos c, c]
  · rw [if_neg c]
/-- one call of the law: with lw_goal_of (c39) and wJ_0 this is the law -/
theorem lw_step {Ks : md_S → Prop} (PS : prS) (hKs : ∀ M e, Ks M → Ks (md_i M 0 e)) (hKf : ∀ M M', Ks M → md_fr [0, 2, 3] [1] false false M M' → Ks M') (sf : ∀ G sz k S M, wJ Ks G sz k S M → sfM Ks M) (G : hg_E) (sz n L : Nat) (xs : Nat → Int32) (S : hg_S) (v : Int64) (M : md_S) (hok : lw_ok G sz) (h : wJ Ks G sz n S M) (hm : 6 * n + 6 ≤ L) (hL : L ≤ 3072) : dc_wp (lw_st G xs L sz S v M (Int32.ofNat (6 * n))) (fun z => wJ Ks G sz (n + 1) z.1 z.2.2) := by
  obtain ⟨s2, s3, s4, s5, s6, s7, s8, s9, s10, s11, s12, s14, s15, s16, s17, s18, s19, s20, ⟨s21, s21b⟩, s22, s23, s24, s25⟩ := sf G sz n S M h
  have ti : (Int32.ofNat (6 * n)).toInt = ((6 * n : Nat) : Int) := Int32.toInt_ofNat_of_lt (by omega)
  delta lw_st
  refine wq_ix (by omega) (by omega) ?_
  refine wq_let (fun kk _ => ?_)
  refine wq_if (fun _ => th_feed hKf h hm hL) (fun _ => ?_)
  refine wq_if (fun _ => th_end hKf h hm hL) (fun _ => ?_)
  refine wq_if (fun _ => lw_t2_w hok PS h hm hL s2) (fun _ => ?_)
  refine wq_if (fun _ => lw_t3_w hKs h hm hL s3) (fun _ => ?_)
  refine wq_if (fun _ => lw_t4_w hKs h hm hL s4) (fun _ => ?_)
  refine wq_if (fun _ => lw_t5_w hKs h hm hL s5) (fun _ => ?_)
  refine wq_if (fun _ => lw_t6_w hKs h hm hL s6) (fun _ => ?_)
  refine wq_if (fun _ => lw_t7_w hKs h hm hL s7) (fun _ => ?_)
  refine wq_if (fun _ => lw_t8_w hKs h hm hL s8) (fun _ => ?_)
  refine wq_if (fun _ => lw_t9_w hKs h hm hL s9) (fun _ => ?_)
  refine wq_if (fun _ => lw_t10_w hKs h hm hL s10) (fun _ => ?_)
  refine wq_if (fun _ => lw_t11_w hKs h hm hL s11) (fun _ => ?_)
  refine wq_if (fun _ => lw_t12_w hKs h hm hL s12) (fun _ => ?_)
  refine wq_if (fun _ => lw_t13_w hKs h hm hL) (fun _ => ?_)
  refine wq_if (fun _ => lw_t14_w hKs h hm hL s14) (fun _ => ?_)
  refine wq_if (fun _ => lw_t15_w hKs h hm hL s15) (fun _ => ?_)
  refine wq_if (fun _ => lw_t16_w hKs h hm hL s16) (fun _ => ?_)
  refine wq_if (fun _ => lw_t17_w hKs h hm hL s17) (fun _ => ?_)
  refine wq_if (fun _ => lw_t18_w hKs h hm hL s18) (fun _ => ?_)
  refine wq_if (fun _ => lw_t19_w hKs h hm hL s19) (fun _ => ?_)
  refine wq_if (fun _ => lw_t20_w hKs h hm hL s20) (fun _ => ?_)
  refine wq_if (fun _ => lw_t21_w hKs h hm hL s21 s21b) (fun _ => ?_)
  refine wq_if (fun _ => lw_t22_w hKs h hm hL s22) (fun _ => ?_)
  refine wq_if (fun _ => lw_t23_w hKs h hm hL s23) (fun _ => ?_)
  refine wq_if (fun _ => lw_t24_w hKs h hm hL s24) (fun _ => ?_)
  refine wq_if (fun _ => lw_t25_w hKs h hm hL s25) (fun _ => ⟨_, rfl, ?_⟩)
  have e := wJ_l (fun e => hKs M e (wJ_K h)) h (M.1 0)
  rw [md_same] at e
  exact e
