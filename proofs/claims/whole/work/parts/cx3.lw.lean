/-! the law's cases that may throw, and read, go, size -/
section LWD
variable {Ks : md_S → Prop} {G : hg_E} {S : hg_S} {M : md_S} {sz k L : Nat} {xs : Nat → Int32} {v : Int64}
theorem hH_f (v : Int64) : ∀ z : hg_X, (z.2.2 = true → false = true) → (fun z : hg_X => if z.2.2 = true then none else some (z.1, v, (1 : Int32))) z = some (z.1, v, if z.2.2 = true then 2 else 1) := fun z hz => by
  by_cases c : z.2.2 = true
  · exact absurd (hz c) (by decide)
  · show (if z.2.2 = true then none else some (z.1, v, (1 : Int32))) = _
    rw [if_neg c, if_neg c]
theorem hH_t (v : Int64) : ∀ z : hg_X, (z.2.2 = true → true = true) → (fun z : hg_X => if z.2.2 = true then some (z.1, v, (2 : Int32)) else some (z.1, v, (1 : Int32))) z = some (z.1, v, if z.2.2 = true then 2 else 1) := fun z hz => by
  show (if z.2.2 = true then some (z.1, v, (2 : Int32)) else some (z.1, v, (1 : Int32))) = _
  by_cases c : z.2.2 = true
  · rw [if_pos c, if_pos c]
  · rw [if_neg c, if_neg c]
theorem lw_t6_w (hKs : ∀ M e, Ks M → Ks (md_i M 0 e)) (h : wJ Ks G sz k S M) (hm : 6 * k + 6 ≤ L) (hL : L ≤ 3072) (hs : dc_wp (mm_restart M) (fun r => Ks r.1)) : dc_wp (lw_t6 G xs L sz S v M (Int32.ofNat (6 * k))) (fun z => wJ Ks G sz (k + 1) z.1 z.2.2) := by
  delta lw_t6 hl_restart
  obtain ⟨r, hr, hw⟩ := th_s (wd := Int32.toInt64) (th_restart  hKs h (by omega) hs) (hH_f v)
  refine wq_call (wJ_o h hw) (fun q hq => ?_)
  exact th_f (wd := Int32.toInt64) hr hq
theorem lw_t7_w (hKs : ∀ M e, Ks M → Ks (md_i M 0 e)) (h : wJ Ks G sz k S M) (hm : 6 * k + 6 ≤ L) (hL : L ≤ 3072) (hs : ∀ p, dc_wp (mm_instant M p) (fun r => Ks r.1)) : dc_wp (lw_t7 G xs L sz S v M (Int32.ofNat (6 * k))) (fun z => wJ Ks G sz (k + 1) z.1 z.2.2) := by
  delta lw_t7 hl_instant
  refine wq_jx hm hL 1 il_1 (by omega) ?_
  obtain ⟨r, hr, hw⟩ := th_s (wd := Int32.toInt64) (th_instant (p1 := xs (6 * k + 1)) hKs h (by omega) (hs (xs (6 * k + 1)))) (hH_t v)
  refine wq_call (wJ_o h hw) (fun q hq => ?_)
  refine wq_jx hm hL 1 il_1 (by omega) ?_
  exact th_f (wd := Int32.toInt64) hr hq
theorem lw_t11_w (hKs : ∀ M e, Ks M → Ks (md_i M 0 e)) (h : wJ Ks G sz k S M) (hm : 6 * k + 6 ≤ L) (hL : L ≤ 3072) (hs : dc_wp (mm_explore M) (fun r => Ks r.1)) : dc_wp (lw_t11 G xs L sz S v M (Int32.ofNat (6 * k))) (fun z => wJ Ks G sz (k + 1) z.1 z.2.2) := by
  delta lw_t11 hl_explore
  obtain ⟨r, hr, hw⟩ := th_s (wd := Int32.toInt64) (th_explore  hKs h (by omega) hs) (hH_f v)
  refine wq_call (wJ_o h hw) (fun q hq => ?_)
  exact th_f (wd := Int32.toInt64) hr hq
theorem lw_t14_w (hKs : ∀ M e, Ks M → Ks (md_i M 0 e)) (h : wJ Ks G sz k S M) (hm : 6 * k + 6 ≤ L) (hL : L ≤ 3072) (hs : ∀ p q, dc_wp (mm_next M p q) (fun _ => True)) : dc_wp (lw_t14 G xs L sz S v M (Int32.ofNat (6 * k))) (fun z => wJ Ks G sz (k + 1) z.1 z.2.2) := by
  delta lw_t14 hl_next
  refine wq_jx hm hL 1 il_1 (by omega) ?_
  refine wq_jx hm hL 2 il_2 (by omega) ?_
  obtain ⟨r, hr, hw⟩ := th_s (wd := Int32.toInt64) (th_next (p1 := xs (6 * k + 1)) (p2 := xs (6 * k + 2)) hKs h (by omega) (hs (xs (6 * k + 1)) (xs (6 * k + 2)))) (hH_f v)
  refine wq_call (wJ_o h hw) (fun q hq => ?_)
  refine wq_jx hm hL 1 il_1 (by omega) ?_
  refine wq_jx hm hL 2 il_2 (by omega) ?_
  exact th_f (wd := Int32.toInt64) hr hq
theorem lw_t15_w (hKs : ∀ M e, Ks M → Ks (md_i M 0 e)) (h : wJ Ks G sz k S M) (hm : 6 * k + 6 ≤ L) (hL : L ≤ 3072) (hs : ∀ p q, dc_wp (mm_shows M p q) (fun _ => True)) : dc_wp (lw_t15 G xs L sz S v M (Int32.ofNat (6 * k))) (fun z => wJ Ks G sz (k + 1) z.1 z.2.2) := by
  delta lw_t15 hl_shows
  refine wq_jx hm hL 1 il_1 (by omega) ?_
  refine wq_jx hm hL 2 il_2 (by omega) ?_
  obtain ⟨r, hr, hw⟩ := th_s (wd := Int32.toInt64) (th_shows (p1 := xs (6 * k + 1)) (p2 := xs (6 * k + 2)) hKs h (by omega) (hs (xs (6 * k + 1)) (xs (6 * k + 2)))) (hH_f v)
  refine wq_call (wJ_o h hw) (fun q hq => ?_)
  refine wq_jx hm hL 1 il_1 (by omega) ?_
  refine wq_jx hm hL 2 il_2 (by omega) ?_
  exact th_f (wd := Int32.toInt64) hr hq
theorem lw_t19_w (hKs : ∀ M e, Ks M → Ks (md_i M 0 e)) (h : wJ Ks G sz k S M) (hm : 6 * k + 6 ≤ L) (hL : L ≤ 3072) (hs : dc_wp (mm_classes M) (fun _ => True)) : dc_wp (lw_t19 G xs L sz S v M (Int32.ofNat (6 * k))) (fun z => wJ Ks G sz (k + 1) z.1 z.2.2) := by
  delta lw_t19 hl_classes
  obtain ⟨r, hr, hw⟩ := th_s (wd := Int32.toInt64) (th_classes  hKs h (by omega) hs) (hH_f v)
  refine wq_call (wJ_o h hw) (fun q hq => ?_)
  exact th_f (wd := Int32.toInt64) hr hq
theorem lw_t21_w (hKs : ∀ M e, Ks M → Ks (md_i M 0 e)) (h : wJ Ks G sz k S M) (hm : 6 * k + 6 ≤ L) (hL : L ≤ 3072) (hs : ∀ r, mm_lay_0 M = some r → Ks r.1) (hs0 : M.1 85 = 0 → dc_wp (mm_lay_0 M) (fun _ => True)) : dc_wp (lw_t21 G xs L sz S v M (Int32.ofNat (6 * k))) (fun z => wJ Ks G sz (k + 1) z.1 z.2.2) := by
  delta lw_t21 hl_lay
  obtain ⟨r, hr, hw⟩ := th_s (wd := Int32.toInt64) (th_lay  hKs h (by omega) hs hs0) (hH_f v)
  refine wq_call (wJ_o h hw) (fun q hq => ?_)
  exact th_f (wd := Int32.toInt64) hr hq
theorem lw_t22_w (hKs : ∀ M e, Ks M → Ks (md_i M 0 e)) (h : wJ Ks G sz k S M) (hm : 6 * k + 6 ≤ L) (hL : L ≤ 3072) (hs : ∀ p, dc_wp (mm_pass M p) (fun _ => True)) : dc_wp (lw_t22 G xs L sz S v M (Int32.ofNat (6 * k))) (fun z => wJ Ks G sz (k + 1) z.1 z.2.2) := by
  delta lw_t22 hl_pass
  refine wq_jx hm hL 1 il_1 (by omega) ?_
  obtain ⟨r, hr, hw⟩ := th_s (wd := (fun x => x)) (th_pass (p1 := xs (6 * k + 1)) hKs h (by omega) (hs (xs (6 * k + 1)))) (hH_t v)
  refine wq_call (wJ_o h hw) (fun q hq => ?_)
  refine wq_jx hm hL 1 il_1 (by omega) ?_
  exact th_f (wd := (fun x => x)) hr hq
theorem lw_t2_w (hok : lw_ok G sz) (PS : prS) (h : wJ Ks G sz k S M) (hm : 6 * k + 6 ≤ L) (hL : L ≤ 3072) (hs : dc_wp (mm_read M) (fun r => Ks r.1)) : dc_wp (lw_t2 G xs L sz S v M (Int32.ofNat (6 * k))) (fun z => wJ Ks G sz (k + 1) z.1 z.2.2) := by
  delta lw_t2
  obtain ⟨r, hr, hw⟩ := th_read hok PS h (by omega) hs
  refine wJ_o h (wq_call hw (fun q hq => ?_))
  rw [hr]
  show dc_wp (if q.2 = r.2 then some (q.1, v, r.1) else none) _
  rw [if_pos hq.1]
  exact ⟨_, rfl, hq.2⟩
theorem lw_t24_w (hKs : ∀ M e, Ks M → Ks (md_i M 0 e)) (h : wJ Ks G sz k S M) (hm : 6 * k + 6 ≤ L) (hL : L ≤ 3072) (hs : ∀ p, dc_wp (mm_size M p) (fun r => Ks r.1)) : dc_wp (lw_t24 G xs L sz S v M (Int32.ofNat (6 * k))) (fun z => wJ Ks G sz (k + 1) z.1 z.2.2) := by
  delta lw_t24
  refine wq_jx hm hL 1 il_1 (by omega) ?_
  obtain ⟨r, hr, hw⟩ := th_size hKs h (by omega) (hs (xs (6 * k + 1)))
  refine wJ_o h (wq_call hw (fun q hq => ?_))
  refine wq_jx hm hL 1 il_1 (by omega) ?_
  rw [hr]
  show dc_wp (if q.2 = r.2 then some (q.1, v, r.1) else none) _
  rw [if_pos hq.1]
  exact ⟨_, rfl, hq.2⟩
theorem lw_t10_w (hKs : ∀ M e, Ks M → Ks (md_i M 0 e)) (h : wJ Ks G sz k S M) (hm : 6 * k + 6 ≤ L) (hL : L ≤ 3072) (hs : ∀ p, dc_wp (mm_go M p) (fun r => Ks r)) : dc_wp (lw_t10 G xs L sz S v M (Int32.ofNat (6 * k))) (fun z => wJ Ks G sz (k + 1) z.1 z.2.2) := by
  delta lw_t10 hl_go
  refine wq_jx hm hL 1 il_1 (by omega) ?_
  obtain ⟨r, hr, hw⟩ := th_go hKs h (by omega) (hs (xs (6 * k + 1)))
  refine wq_call (P := fun q => q.2.2 = r.1 0 ∧ wJ Ks G sz (k + 1) q.1 r) (wJ_o h (wq_call hw (fun z hz => ?_))) (fun q hq => ?_)
  · rcases hz with ⟨S', ez, e0, hj⟩ | ⟨S', a, b, ez, e0, hj⟩
    · subst ez
      exact ⟨_, rfl, e0.symm, hj⟩
    · subst ez
      cases b
      · exact ⟨_, rfl, e0.symm, hj⟩
      · exact ⟨_, rfl, e0.symm, hj⟩
  · refine wq_jx hm hL 1 il_1 (by omega) ?_
    rw [hr]
    show dc_wp (if r.1 0 = q.2.2 then some (q.1, q.2.1, r) else none) _
    rw [if_pos hq.1.symm]
    exact ⟨_, rfl, hq.2⟩
end LWD
