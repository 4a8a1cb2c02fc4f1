/-! the class's reactor: what is begun and gone on with by starting, a kind at a time -/
section RBS
variable {G : hg_E} {E : rvP} {S : hg_S} {q : rsT} {x y : Int32}
theorem zb_s {v : Int32} {β : Type} {F : Unit → Option β} {Φ : β → Prop} (hv : v = 0 ∨ v = 1) (h : dc_wp (F ()) Φ) : dc_wp ((dc_zb v).bind F) Φ := wq_so (if_pos hv) h
theorem bs_0 (h : RV G E S q) (hx : rvN E x) (hk : vR E 0 x.toInt.toNat = 0) : dc_wp (hm_RE_beginStart G S (vO E) x) (fun r => r.2 = -1 ∧ RV G E r.1 (reAn q x.toInt.toNat 1 0)) := by
  delta hm_RE_beginStart
  refine rv_p h ?_
  refine rv_a h (j := 4) (by decide) rfl ?_
  refine rv_d h (by decide) (by decide) hx.1 (hx.2.1 4 (by decide)) ?_
  refine rv_p h ?_
  refine rv_a h (j := 0) (by decide) rfl ?_
  refine rv_d h (by decide) (by decide) hx.1 (hx.2.1 0 (by decide)) ?_
  rw [hk]
  refine wq_let (fun v ev => ?_)
  subst ev
  rw [if_pos rfl]
  refine rv_c h ?_
  exact wq_call (an_w h hx.1 ⟨hx.2.2 7 (by decide) (by decide), hx.2.2 8 (by decide) (by decide), hx.2.2 9 (by decide) (by decide)⟩) (fun S1 g => ⟨_, rfl, rfl, g⟩)
theorem reAn_n {k i : Nat} {cs c : Int32} (h : ¬ i = 7) (g : ¬ i = 8) : (reAn q k cs c).1 i = q.1 i := by
  unfold reAn
  rw [uX_n g, uX_n h]
theorem bs_1 (h : RV G E S q) (hx : rvN E x) (hk : vR E 0 x.toInt.toNat = 1) (h9 : q.1 9 x.toInt.toNat = 0 ∨ q.1 9 x.toInt.toNat = 1) (hp : 0 ≤ (vR E 4 x.toInt.toNat).toInt ∧ (vR E 4 x.toInt.toNat).toInt < (vL' E 11 : Int)) : dc_wp (hm_RE_beginStart G S (vO E) x) (fun r => r.2 = -1 ∧ RV G E r.1 (uX (reAn q x.toInt.toNat 2 1) 11 (vR E 4 x.toInt.toNat).toInt.toNat (q.1 9 x.toInt.toNat))) := by
  delta hm_RE_beginStart
  refine rv_p h ?_
  refine rv_a h (j := 4) (by decide) rfl ?_
  refine rv_d h (by decide) (by decide) hx.1 (hx.2.1 4 (by decide)) ?_
  refine rv_p h ?_
  refine rv_a h (j := 0) (by decide) rfl ?_
  refine rv_d h (by decide) (by decide) hx.1 (hx.2.1 0 (by decide)) ?_
  rw [hk]
  refine wq_let (fun v ev => ?_)
  subst ev
  rw [if_neg (by decide), if_pos rfl]
  refine rv_c h ?_
  refine wq_call (an_w h hx.1 ⟨hx.2.2 7 (by decide) (by decide), hx.2.2 8 (by decide) (by decide), hx.2.2 9 (by decide) (by decide)⟩) (fun S1 g => ?_)
  refine rv_g g (by decide) (by decide) ?_
  refine rv_g g (by decide) (by decide) ?_
  refine rv_l g (by decide) (by decide) rfl hx.1 (hx.2.2 9 (by decide) (by decide)) ?_
  rw [reAn_n (by decide) (by decide)]
  refine zb_s h9 ?_
  exact rv_s g (by decide) (by decide) rfl hp.1 hp.2 (fun S2 g2 => ⟨_, rfl, rfl, g2⟩)
theorem bs_2 (h : RV G E S q) (hx : rvN E x) (hk : vR E 0 x.toInt.toNat = 2) (hp : 0 ≤ (vR E 4 x.toInt.toNat).toInt ∧ (vR E 4 x.toInt.toNat).toInt < (vL' E 4 : Int)) (hl : 0 ≤ (q.1 4 (vR E 4 x.toInt.toNat).toInt.toNat).toInt ∧ (q.1 4 (vR E 4 x.toInt.toNat).toInt.toNat).toInt < (vL' E 1 : Int) ∧ (q.1 4 (vR E 4 x.toInt.toNat).toInt.toNat).toInt < (vL' E 2 : Int)) : dc_wp (hm_RE_beginStart G S (vO E) x) (fun r => r.2 = -1 ∧ RV G E r.1 (reEm (reAn q x.toInt.toNat 1 0) (q.1 4 (vR E 4 x.toInt.toNat).toInt.toNat).toInt.toNat (q.1 9 x.toInt.toNat))) := by
  delta hm_RE_beginStart
  refine rv_p h ?_
  refine rv_a h (j := 4) (by decide) rfl ?_
  refine rv_d h (by decide) (by decide) hx.1 (hx.2.1 4 (by decide)) ?_
  refine rv_p h ?_
  refine rv_a h (j := 0) (by decide) rfl ?_
  refine rv_d h (by decide) (by decide) hx.1 (hx.2.1 0 (by decide)) ?_
  rw [hk]
  refine wq_let (fun v ev => ?_)
  subst ev
  rw [if_neg (by decide), if_neg (by decide), if_pos rfl]
  refine rv_c h ?_
  refine wq_call (an_w h hx.1 ⟨hx.2.2 7 (by decide) (by decide), hx.2.2 8 (by decide) (by decide), hx.2.2 9 (by decide) (by decide)⟩) (fun S1 g => ?_)
  refine rv_g g (by decide) (by decide) ?_
  refine rv_l g (by decide) (by decide) rfl hp.1 hp.2 ?_
  refine rv_g g (by decide) (by decide) ?_
  refine rv_l g (by decide) (by decide) rfl hx.1 (hx.2.2 9 (by decide) (by decide)) ?_
  rw [reAn_n (by decide) (by decide), reAn_n (by decide) (by decide)]
  refine rv_c g ?_
  exact wq_call (em_w g hl.1 hl.2) (fun S2 g2 => ⟨_, rfl, rfl, g2⟩)
theorem bs_9 (h : RV G E S q) (hx : rvN E x) (hk : vR E 0 x.toInt.toNat = 9) : dc_wp (hm_RE_beginStart G S (vO E) x) (fun r => r.2 = -1 ∧ RV G E r.1 (reAn q x.toInt.toNat ((1 : Int32) <<< (vR E 4 x.toInt.toNat &&& (31 : Int32))) (vR E 4 x.toInt.toNat))) := by
  delta hm_RE_beginStart
  refine rv_p h ?_
  refine rv_a h (j := 4) (by decide) rfl ?_
  refine rv_d h (by decide) (by decide) hx.1 (hx.2.1 4 (by decide)) ?_
  refine rv_p h ?_
  refine rv_a h (j := 0) (by decide) rfl ?_
  refine rv_d h (by decide) (by decide) hx.1 (hx.2.1 0 (by decide)) ?_
  rw [hk]
  refine wq_let (fun v ev => ?_)
  subst ev
  rw [if_neg (by decide), if_neg (by decide), if_neg (by decide), if_neg (by decide), if_neg (by decide), if_neg (by decide), if_neg (by decide), if_neg (by decide), if_neg (by decide), if_pos rfl]
  refine rv_c h ?_
  exact wq_call (an_w h hx.1 ⟨hx.2.2 7 (by decide) (by decide), hx.2.2 8 (by decide) (by decide), hx.2.2 9 (by decide) (by decide)⟩) (fun S1 g => ⟨_, rfl, rfl, g⟩)
theorem bs_4 (h : RV G E S q) (hx : rvN E x) (hk : vR E 0 x.toInt.toNat = 4) (h9 : q.1 9 x.toInt.toNat = 0 ∨ q.1 9 x.toInt.toNat = 1) (ha : rvN E (vR E 1 x.toInt.toNat)) : dc_wp (hm_RE_beginStart G S (vO E) x) (fun r => r.2 = vR E 1 x.toInt.toNat ∧ RV G E r.1 (uX q 9 (vR E 1 x.toInt.toNat).toInt.toNat (q.1 9 x.toInt.toNat))) := by
  delta hm_RE_beginStart
  refine rv_p h ?_
  refine rv_a h (j := 4) (by decide) rfl ?_
  refine rv_d h (by decide) (by decide) hx.1 (hx.2.1 4 (by decide)) ?_
  refine rv_p h ?_
  refine rv_a h (j := 0) (by decide) rfl ?_
  refine rv_d h (by decide) (by decide) hx.1 (hx.2.1 0 (by decide)) ?_
  rw [hk]
  refine wq_let (fun v ev => ?_)
  subst ev
  rw [if_neg (by decide), if_neg (by decide), if_neg (by decide), if_neg (by decide), if_pos rfl]
  refine rv_p h ?_
  refine rv_a h (j := 1) (by decide) rfl ?_
  refine rv_d h (by decide) (by decide) hx.1 (hx.2.1 1 (by decide)) ?_
  refine rv_g h (by decide) (by decide) ?_
  refine rv_l h (by decide) (by decide) rfl hx.1 (hx.2.2 9 (by decide) (by decide)) ?_
  refine rv_c h ?_
  refine wq_call (wi_w h ha.1 (ha.2.2 9 (by decide) (by decide)) h9) (fun r g => ?_)
  exact ⟨_, rfl, g.1, g.2⟩
theorem bs_5 (h : RV G E S q) (hx : rvN E x) (hk : vR E 0 x.toInt.toNat = 5) (h9 : q.1 9 x.toInt.toNat = 0 ∨ q.1 9 x.toInt.toNat = 1) (ha : rvN E (vR E 1 x.toInt.toNat)) : dc_wp (hm_RE_beginStart G S (vO E) x) (fun r => r.2 = vR E 1 x.toInt.toNat ∧ RV G E r.1 (uX q 9 (vR E 1 x.toInt.toNat).toInt.toNat (q.1 9 x.toInt.toNat))) := by
  delta hm_RE_beginStart
  refine rv_p h ?_
  refine rv_a h (j := 4) (by decide) rfl ?_
  refine rv_d h (by decide) (by decide) hx.1 (hx.2.1 4 (by decide)) ?_
  refine rv_p h ?_
  refine rv_a h (j := 0) (by decide) rfl ?_
  refine rv_d h (by decide) (by decide) hx.1 (hx.2.1 0 (by decide)) ?_
  rw [hk]
  refine wq_let (fun v ev => ?_)
  subst ev
  rw [if_neg (by decide), if_neg (by decide), if_neg (by decide), if_neg (by decide), if_neg (by decide), if_pos rfl]
  refine rv_p h ?_
  refine rv_a h (j := 1) (by decide) rfl ?_
  refine rv_d h (by decide) (by decide) hx.1 (hx.2.1 1 (by decide)) ?_
  refine rv_g h (by decide) (by decide) ?_
  refine rv_l h (by decide) (by decide) rfl hx.1 (hx.2.2 9 (by decide) (by decide)) ?_
  refine rv_c h ?_
  refine wq_call (wi_w h ha.1 (ha.2.2 9 (by decide) (by decide)) h9) (fun r g => ?_)
  exact ⟨_, rfl, g.1, g.2⟩
theorem bs_6 (h : RV G E S q) (hx : rvN E x) (hk : vR E 0 x.toInt.toNat = 6) (h9 : q.1 9 x.toInt.toNat = 0 ∨ q.1 9 x.toInt.toNat = 1) (ha : rvN E (vR E 1 x.toInt.toNat)) : dc_wp (hm_RE_beginStart G S (vO E) x) (fun r => r.2 = vR E 1 x.toInt.toNat ∧ RV G E r.1 (uX q 9 (vR E 1 x.toInt.toNat).toInt.toNat (q.1 9 x.toInt.toNat))) := by
  delta hm_RE_beginStart
  refine rv_p h ?_
  refine rv_a h (j := 4) (by decide) rfl ?_
  refine rv_d h (by decide) (by decide) hx.1 (hx.2.1 4 (by decide)) ?_
  refine rv_p h ?_
  refine rv_a h (j := 0) (by decide) rfl ?_
  refine rv_d h (by decide) (by decide) hx.1 (hx.2.1 0 (by decide)) ?_
  rw [hk]
  refine wq_let (fun v ev => ?_)
  subst ev
  rw [if_neg (by decide), if_neg (by decide), if_neg (by decide), if_neg (by decide), if_neg (by decide), if_neg (by decide), if_pos rfl]
  refine rv_p h ?_
  refine rv_a h (j := 1) (by decide) rfl ?_
  refine rv_d h (by decide) (by decide) hx.1 (hx.2.1 1 (by decide)) ?_
  refine rv_g h (by decide) (by decide) ?_
  refine rv_l h (by decide) (by decide) rfl hx.1 (hx.2.2 9 (by decide) (by decide)) ?_
  refine rv_c h ?_
  refine wq_call (wi_w h ha.1 (ha.2.2 9 (by decide) (by decide)) h9) (fun r g => ?_)
  exact ⟨_, rfl, g.1, g.2⟩
theorem bs_7 (h : RV G E S q) (hx : rvN E x) (hk : vR E 0 x.toInt.toNat = 7) (h9 : q.1 9 x.toInt.toNat = 0 ∨ q.1 9 x.toInt.toNat = 1) (ha : rvN E (vR E 1 x.toInt.toNat)) : dc_wp (hm_RE_beginStart G S (vO E) x) (fun r => r.2 = vR E 1 x.toInt.toNat ∧ RV G E r.1 (uX q 9 (vR E 1 x.toInt.toNat).toInt.toNat (q.1 9 x.toInt.toNat))) := by
  delta hm_RE_beginStart
  refine rv_p h ?_
  refine rv_a h (j := 4) (by decide) rfl ?_
  refine rv_d h (by decide) (by decide) hx.1 (hx.2.1 4 (by decide)) ?_
  refine rv_p h ?_
  refine rv_a h (j := 0) (by decide) rfl ?_
  refine rv_d h (by decide) (by decide) hx.1 (hx.2.1 0 (by decide)) ?_
  rw [hk]
  refine wq_let (fun v ev => ?_)
  subst ev
  rw [if_neg (by decide), if_neg (by decide), if_neg (by decide), if_neg (by decide), if_neg (by decide), if_neg (by decide), if_neg (by decide), if_pos rfl]
  refine rv_p h ?_
  refine rv_a h (j := 1) (by decide) rfl ?_
  refine rv_d h (by decide) (by decide) hx.1 (hx.2.1 1 (by decide)) ?_
  refine rv_g h (by decide) (by decide) ?_
  refine rv_l h (by decide) (by decide) rfl hx.1 (hx.2.2 9 (by decide) (by decide)) ?_
  refine rv_c h ?_
  refine wq_call (wi_w h ha.1 (ha.2.2 9 (by decide) (by decide)) h9) (fun r g => ?_)
  exact ⟨_, rfl, g.1, g.2⟩
theorem bs_8 (h : RV G E S q) (hx : rvN E x) (hk : vR E 0 x.toInt.toNat = 8) (h9 : q.1 9 x.toInt.toNat = 0 ∨ q.1 9 x.toInt.toNat = 1) (ha : rvN E (vR E 1 x.toInt.toNat)) : dc_wp (hm_RE_beginStart G S (vO E) x) (fun r => r.2 = vR E 1 x.toInt.toNat ∧ RV G E r.1 (uX q 9 (vR E 1 x.toInt.toNat).toInt.toNat (q.1 9 x.toInt.toNat))) := by
  delta hm_RE_beginStart
  refine rv_p h ?_
  refine rv_a h (j := 4) (by decide) rfl ?_
  refine rv_d h (by decide) (by decide) hx.1 (hx.2.1 4 (by decide)) ?_
  refine rv_p h ?_
  refine rv_a h (j := 0) (by decide) rfl ?_
  refine rv_d h (by decide) (by decide) hx.1 (hx.2.1 0 (by decide)) ?_
  rw [hk]
  refine wq_let (fun v ev => ?_)
  subst ev
  rw [if_neg (by decide), if_neg (by decide), if_neg (by decide), if_neg (by decide), if_neg (by decide), if_neg (by decide), if_neg (by decide), if_neg (by decide), if_pos rfl]
  refine rv_p h ?_
  refine rv_a h (j := 1) (by decide) rfl ?_
  refine rv_d h (by decide) (by decide) hx.1 (hx.2.1 1 (by decide)) ?_
  refine rv_g h (by decide) (by decide) ?_
  refine rv_l h (by decide) (by decide) rfl hx.1 (hx.2.2 9 (by decide) (by decide)) ?_
  refine rv_c h ?_
  refine wq_call (wi_w h ha.1 (ha.2.2 9 (by decide) (by decide)) h9) (fun r g => ?_)
  exact ⟨_, rfl, g.1, g.2⟩
theorem bs_w (h : RV G E S q) (hx : rvN E x) (hk : vR E 0 x.toInt.toNat = 4 ∨ vR E 0 x.toInt.toNat = 5 ∨ vR E 0 x.toInt.toNat = 6 ∨ vR E 0 x.toInt.toNat = 7 ∨ vR E 0 x.toInt.toNat = 8) (h9 : q.1 9 x.toInt.toNat = 0 ∨ q.1 9 x.toInt.toNat = 1) (ha : rvN E (vR E 1 x.toInt.toNat)) : dc_wp (hm_RE_beginStart G S (vO E) x) (fun r => r.2 = vR E 1 x.toInt.toNat ∧ RV G E r.1 (uX q 9 (vR E 1 x.toInt.toNat).toInt.toNat (q.1 9 x.toInt.toNat))) := by
  rcases hk with e | e | e | e | e
  · exact bs_4 h hx e h9 ha
  · exact bs_5 h hx e h9 ha
  · exact bs_6 h hx e h9 ha
  · exact bs_7 h hx e h9 ha
  · exact bs_8 h hx e h9 ha
theorem bs_10 (h : RV G E S q) (hx : rvN E x) (hk : vR E 0 x.toInt.toNat = 10) (h9 : q.1 9 x.toInt.toNat = 0 ∨ q.1 9 x.toInt.toNat = 1) (ha : rvN E (vR E 1 x.toInt.toNat)) (hn : 0 ≤ (vR E 4 x.toInt.toNat).toInt ∧ (vR E 4 x.toInt.toNat).toInt < (vL' E 4 : Int) ∧ (vR E 4 x.toInt.toNat).toInt < (vL' E 3 : Int)) : dc_wp (hm_RE_beginStart G S (vO E) x) (fun r => r.2 = vR E 1 x.toInt.toNat ∧ RV G E r.1 (uX (uX q 4 (vR E 4 x.toInt.toNat).toInt.toNat (q.1 3 (vR E 4 x.toInt.toNat).toInt.toNat + q.2 17)) 9 (vR E 1 x.toInt.toNat).toInt.toNat (q.1 9 x.toInt.toNat))) := by
  delta hm_RE_beginStart
  refine rv_p h ?_
  refine rv_a h (j := 4) (by decide) rfl ?_
  refine rv_d h (by decide) (by decide) hx.1 (hx.2.1 4 (by decide)) ?_
  refine rv_p h ?_
  refine rv_a h (j := 0) (by decide) rfl ?_
  refine rv_d h (by decide) (by decide) hx.1 (hx.2.1 0 (by decide)) ?_
  rw [hk]
  refine wq_let (fun v ev => ?_)
  subst ev
  rw [if_neg (by decide), if_neg (by decide), if_neg (by decide), if_neg (by decide), if_neg (by decide), if_neg (by decide), if_neg (by decide), if_neg (by decide), if_neg (by decide), if_neg (by decide), if_pos rfl]
  refine rv_g h (by decide) (by decide) ?_
  refine rv_g h (by decide) (by decide) ?_
  refine rv_l h (by decide) (by decide) rfl hn.1 hn.2.2 ?_
  refine rv_i h (by decide) (by decide) ?_
  refine rv_s h (by decide) (by decide) rfl hn.1 hn.2.1 (fun S1 g => ?_)
  refine rv_p g ?_
  refine rv_a g (j := 1) (by decide) rfl ?_
  refine rv_d g (by decide) (by decide) hx.1 (hx.2.1 1 (by decide)) ?_
  refine rv_g g (by decide) (by decide) ?_
  refine rv_l g (by decide) (by decide) rfl hx.1 (hx.2.2 9 (by decide) (by decide)) ?_
  rw [uX_n (by decide)]
  refine rv_c g ?_
  refine wq_call (wi_w g ha.1 (ha.2.2 9 (by decide) (by decide)) h9) (fun r g2 => ?_)
  exact ⟨_, rfl, g2.1, g2.2⟩
/-- what a test leaves: truth changed, the test kept, the one taken made sure or not -/
def reT (q : rsT) (k : Nat) (f : Nat → Int32) (t : Int32) : rsT := uX (fX q 5 f) 6 k t
theorem reT_n {k i : Nat} {f : Nat → Int32} {t : Int32} (h : ¬ i = 5) (g : ¬ i = 6) : (reT q k f t).1 i = q.1 i := by
  unfold reT
  rw [uX_n g, fX_n h]
theorem reT_6 {k : Nat} {f : Nat → Int32} {t : Int32} : (reT q k f t).1 6 k = t := by
  unfold reT
  rw [uX_s, upd_s]
theorem bpr_w (h : RV G E S q) (hx : rvN E x) (h9 : q.1 9 x.toInt.toNat = 0 ∨ q.1 9 x.toInt.toNat = 1) (ha : rvN E (vR E 1 x.toInt.toNat)) (hb : rvN E (vR E 2 x.toInt.toNat)) {t : Int32} (hv : dc_wp (hm_RE_valueOf G S (vO E) (vR E 4 x.toInt.toNat)) (fun r => r.2 = t ∧ ∃ f, RV G E r.1 (fX q 5 f))) : dc_wp (hm_RE_beginPresent G S (vO E) x) (fun r => r.2 = (if t = 0 then vR E 2 x.toInt.toNat else vR E 1 x.toInt.toNat) ∧ ∃ f, RV G E r.1 (uX (reT q x.toInt.toNat f t) 9 (if t = 0 then vR E 2 x.toInt.toNat else vR E 1 x.toInt.toNat).toInt.toNat (if q.1 9 x.toInt.toNat = 0 then 0 else if t = 2 then 0 else 1))) := by
  delta hm_RE_beginPresent
  refine rv_g h (by decide) (by decide) ?_
  refine rv_p h ?_
  refine rv_a h (j := 4) (by decide) rfl ?_
  refine rv_d h (by decide) (by decide) hx.1 (hx.2.1 4 (by decide)) ?_
  refine rv_c h ?_
  refine wq_call hv ?_
  rintro ⟨S1, t1⟩ ⟨e1, f, g⟩
  have e1 : t1 = t := e1
  subst e1
  have g : RV G E S1 (fX q 5 f) := g
  refine rv_s g (by decide) (by decide) rfl hx.1 (hx.2.2 6 (by decide) (by decide)) (fun S2 k => ?_)
  have k : RV G E S2 (reT q x.toInt.toNat f t1) := k
  refine rv_g k (by decide) (by decide) ?_
  refine rv_l k (by decide) (by decide) rfl hx.1 (hx.2.2 6 (by decide) (by decide)) ?_
  rw [reT_6]
  have fin : ∀ c : Int32, rvN E c → dc_wp (hm_RE_beginPresent_L49 G S2 (vO E) x c) (fun r => r.2 = c ∧ ∃ f, RV G E r.1 (uX (reT q x.toInt.toNat f t1) 9 c.toInt.toNat (if q.1 9 x.toInt.toNat = 0 then 0 else if t1 = 2 then 0 else 1))) := by
    intro c hc
    have last : ∀ v : Int32, v = 0 ∨ v = 1 → v = (if q.1 9 x.toInt.toNat = 0 then 0 else if t1 = 2 then 0 else 1) → dc_wp (hm_RE_beginPresent_L76 G S2 (vO E) v c) (fun r => r.2 = c ∧ ∃ f, RV G E r.1 (uX (reT q x.toInt.toNat f t1) 9 c.toInt.toNat (if q.1 9 x.toInt.toNat = 0 then 0 else if t1 = 2 then 0 else 1))) := by
      intro v hv1 hv2
      delta hm_RE_beginPresent_L76
      refine rv_c k ?_
      refine wq_call (wi_w k hc.1 (hc.2.2 9 (by decide) (by decide)) hv1) (fun r g2 => ?_)
      refine ⟨_, rfl, g2.1, f, ?_⟩
      rw [← hv2]
      exact g2.2
    delta hm_RE_beginPresent_L49
    refine rv_g k (by decide) (by decide) ?_
    refine rv_l k (by decide) (by decide) rfl hx.1 (hx.2.2 9 (by decide) (by decide)) ?_
    rw [reT_n (by decide) (by decide)]
    refine wq_if (fun c9 => ?_) (fun c9 => ?_)
    · delta hm_RE_beginPresent_L75
      exact last 0 (Or.inl rfl) (by rw [if_pos c9])
    · refine rv_g k (by decide) (by decide) ?_
      refine rv_l k (by decide) (by decide) rfl hx.1 (hx.2.2 6 (by decide) (by decide)) ?_
      rw [reT_6]
      refine wq_if (fun c2 => ?_) (fun c2 => ?_)
      · delta hm_RE_beginPresent_L75
        exact last 0 (Or.inl rfl) (by rw [if_neg c9, if_pos c2])
      · exact last 1 (Or.inr rfl) (by rw [if_neg c9, if_neg c2])
  refine wq_if (fun c => ?_) (fun c => ?_)
  · refine rv_p k ?_
    refine rv_a k (j := 2) (by decide) rfl ?_
    refine rv_d k (by decide) (by decide) hx.1 (hx.2.1 2 (by decide)) ?_
    rw [if_pos c]
    exact fin _ hb
  · refine rv_p k ?_
    refine rv_a k (j := 1) (by decide) rfl ?_
    refine rv_d k (by decide) (by decide) hx.1 (hx.2.1 1 (by decide)) ?_
    rw [if_neg c]
    exact fin _ ha
theorem bs_3 (h : RV G E S q) (hx : rvN E x) (hk : vR E 0 x.toInt.toNat = 3) (h9 : q.1 9 x.toInt.toNat = 0 ∨ q.1 9 x.toInt.toNat = 1) (ha : rvN E (vR E 1 x.toInt.toNat)) (hb : rvN E (vR E 2 x.toInt.toNat)) {t : Int32} (hv : dc_wp (hm_RE_valueOf G S (vO E) (vR E 4 x.toInt.toNat)) (fun r => r.2 = t ∧ ∃ f, RV G E r.1 (fX q 5 f))) : dc_wp (hm_RE_beginStart G S (vO E) x) (fun r => r.2 = (if t = 0 then vR E 2 x.toInt.toNat else vR E 1 x.toInt.toNat) ∧ ∃ f, RV G E r.1 (uX (reT q x.toInt.toNat f t) 9 (if t = 0 then vR E 2 x.toInt.toNat else vR E 1 x.toInt.toNat).toInt.toNat (if q.1 9 x.toInt.toNat = 0 then 0 else if t = 2 then 0 else 1))) := by
  delta hm_RE_beginStart
  refine rv_p h ?_
  refine rv_a h (j := 4) (by decide) rfl ?_
  refine rv_d h (by decide) (by decide) hx.1 (hx.2.1 4 (by decide)) ?_
  refine rv_p h ?_
  refine rv_a h (j := 0) (by decide) rfl ?_
  refine rv_d h (by decide) (by decide) hx.1 (hx.2.1 0 (by decide)) ?_
  rw [hk]
  refine wq_let (fun v ev => ?_)
  subst ev
  rw [if_neg (by decide), if_neg (by decide), if_neg (by decide), if_pos rfl]
  refine rv_c h ?_
  exact wq_call (bpr_w h hx h9 ha hb hv) (fun r g => ⟨_, rfl, g⟩)
/-- goOnPresent -/
theorem gp_k (h : RV G E S q) (hx : rvN E x) (hy : rvN E y) (ht : ¬ q.1 6 x.toInt.toNat = 2) : dc_wp (hm_RE_goOnPresent G S (vO E) x y) (fun r => r.2 = -1 ∧ RV G E r.1 (reAn q x.toInt.toNat (q.1 7 y.toInt.toNat) (q.1 8 y.toInt.toNat))) := by
  delta hm_RE_goOnPresent
  refine rv_g h (by decide) (by decide) ?_
  refine rv_l h (by decide) (by decide) rfl hx.1 (hx.2.2 6 (by decide) (by decide)) ?_
  rw [if_neg ht]
  refine rv_g h (by decide) (by decide) ?_
  refine rv_l h (by decide) (by decide) rfl hy.1 (hy.2.2 7 (by decide) (by decide)) ?_
  refine rv_g h (by decide) (by decide) ?_
  refine rv_l h (by decide) (by decide) rfl hy.1 (hy.2.2 8 (by decide) (by decide)) ?_
  refine rv_c h ?_
  exact wq_call (an_w h hx.1 ⟨hx.2.2 7 (by decide) (by decide), hx.2.2 8 (by decide) (by decide), hx.2.2 9 (by decide) (by decide)⟩) (fun S1 g => ⟨_, rfl, rfl, g⟩)
theorem gp_a (h : RV G E S q) (hx : rvN E x) (hb : rvN E (vR E 2 x.toInt.toNat)) (ht : q.1 6 x.toInt.toNat = 2) (hy : y = vR E 1 x.toInt.toNat) : dc_wp (hm_RE_goOnPresent G S (vO E) x y) (fun r => r.2 = vR E 2 x.toInt.toNat ∧ RV G E r.1 (uX q 9 (vR E 2 x.toInt.toNat).toInt.toNat 0)) := by
  delta hm_RE_goOnPresent
  refine rv_g h (by decide) (by decide) ?_
  refine rv_l h (by decide) (by decide) rfl hx.1 (hx.2.2 6 (by decide) (by decide)) ?_
  rw [if_pos ht]
  refine rv_p h ?_
  refine rv_a h (j := 1) (by decide) rfl ?_
  refine rv_d h (by decide) (by decide) hx.1 (hx.2.1 1 (by decide)) ?_
  rw [if_pos hy]
  refine rv_p h ?_
  refine rv_a h (j := 2) (by decide) rfl ?_
  refine rv_d h (by decide) (by decide) hx.1 (hx.2.1 2 (by decide)) ?_
  refine rv_c h ?_
  refine wq_call (wi_w h hb.1 (hb.2.2 9 (by decide) (by decide)) (Or.inl rfl)) (fun r g => ?_)
  exact ⟨_, rfl, g.1, g.2⟩
theorem gp_b (h : RV G E S q) (hx : rvN E x) (hy : rvN E y) (ha : rvN E (vR E 1 x.toInt.toNat)) (ht : q.1 6 x.toInt.toNat = 2) (ny : ¬ y = vR E 1 x.toInt.toNat) : dc_wp (hm_RE_goOnPresent G S (vO E) x y) (fun r => r.2 = -1 ∧ RV G E r.1 (reAn q x.toInt.toNat (q.1 7 (vR E 1 x.toInt.toNat).toInt.toNat ||| q.1 7 y.toInt.toNat) (-1))) := by
  delta hm_RE_goOnPresent
  refine rv_g h (by decide) (by decide) ?_
  refine rv_l h (by decide) (by decide) rfl hx.1 (hx.2.2 6 (by decide) (by decide)) ?_
  rw [if_pos ht]
  refine rv_p h ?_
  refine rv_a h (j := 1) (by decide) rfl ?_
  refine rv_d h (by decide) (by decide) hx.1 (hx.2.1 1 (by decide)) ?_
  rw [if_neg ny]
  refine rv_g h (by decide) (by decide) ?_
  refine rv_p h ?_
  refine rv_a h (j := 1) (by decide) rfl ?_
  refine rv_d h (by decide) (by decide) hx.1 (hx.2.1 1 (by decide)) ?_
  refine rv_l h (by decide) (by decide) rfl ha.1 (ha.2.2 7 (by decide) (by decide)) ?_
  refine rv_g h (by decide) (by decide) ?_
  refine rv_l h (by decide) (by decide) rfl hy.1 (hy.2.2 7 (by decide) (by decide)) ?_
  refine rv_c h ?_
  exact wq_call (an_w h hx.1 ⟨hx.2.2 7 (by decide) (by decide), hx.2.2 8 (by decide) (by decide), hx.2.2 9 (by decide) (by decide)⟩) (fun S1 g => ⟨_, rfl, rfl, g⟩)
theorem gs_3 (h : RV G E S q) (hx : rvN E x) (hk : vR E 0 x.toInt.toNat = 3) {Φ : hg_S × Int32 → Prop} (hg : dc_wp (hm_RE_goOnPresent G S (vO E) x y) Φ) : dc_wp (hm_RE_goOnStart G S (vO E) x y) Φ := by
  delta hm_RE_goOnStart
  refine rv_p h ?_
  refine rv_a h (j := 2) (by decide) rfl ?_
  refine rv_d h (by decide) (by decide) hx.1 (hx.2.1 2 (by decide)) ?_
  refine rv_p h ?_
  refine rv_a h (j := 0) (by decide) rfl ?_
  refine rv_d h (by decide) (by decide) hx.1 (hx.2.1 0 (by decide)) ?_
  rw [hk]
  refine wq_let (fun v ev => ?_)
  subst ev
  rw [if_pos rfl]
  refine rv_c h ?_
  exact wq_call hg (fun r g => ⟨_, rfl, g⟩)
theorem gs_4 (h : RV G E S q) (hx : rvN E x) (hk : vR E 0 x.toInt.toNat = 4) (hcs : dc_wp (hm_RE_closeSingle G S (vO E) x y) (fun S' => RV G E S' (reCs E q x.toInt.toNat y.toInt.toNat))) : dc_wp (hm_RE_goOnStart G S (vO E) x y) (fun r => r.2 = -1 ∧ RV G E r.1 (reCs E q x.toInt.toNat y.toInt.toNat)) := by
  delta hm_RE_goOnStart
  refine rv_p h ?_
  refine rv_a h (j := 2) (by decide) rfl ?_
  refine rv_d h (by decide) (by decide) hx.1 (hx.2.1 2 (by decide)) ?_
  refine rv_p h ?_
  refine rv_a h (j := 0) (by decide) rfl ?_
  refine rv_d h (by decide) (by decide) hx.1 (hx.2.1 0 (by decide)) ?_
  rw [hk]
  refine wq_let (fun v ev => ?_)
  subst ev
  rw [if_neg (by decide), if_pos rfl]
  refine rv_c h ?_
  exact wq_call hcs (fun S1 g => ⟨_, rfl, rfl, g⟩)
theorem gs_6 (h : RV G E S q) (hx : rvN E x) (hk : vR E 0 x.toInt.toNat = 6) (hcs : dc_wp (hm_RE_closeSingle G S (vO E) x y) (fun S' => RV G E S' (reCs E q x.toInt.toNat y.toInt.toNat))) : dc_wp (hm_RE_goOnStart G S (vO E) x y) (fun r => r.2 = -1 ∧ RV G E r.1 (reCs E q x.toInt.toNat y.toInt.toNat)) := by
  delta hm_RE_goOnStart
  refine rv_p h ?_
  refine rv_a h (j := 2) (by decide) rfl ?_
  refine rv_d h (by decide) (by decide) hx.1 (hx.2.1 2 (by decide)) ?_
  refine rv_p h ?_
  refine rv_a h (j := 0) (by decide) rfl ?_
  refine rv_d h (by decide) (by decide) hx.1 (hx.2.1 0 (by decide)) ?_
  rw [hk]
  refine wq_let (fun v ev => ?_)
  subst ev
  rw [if_neg (by decide), if_neg (by decide), if_neg (by decide), if_pos rfl]
  refine rv_c h ?_
  exact wq_call hcs (fun S1 g => ⟨_, rfl, rfl, g⟩)
theorem gs_8 (h : RV G E S q) (hx : rvN E x) (hk : vR E 0 x.toInt.toNat = 8) (hcs : dc_wp (hm_RE_closeSingle G S (vO E) x y) (fun S' => RV G E S' (reCs E q x.toInt.toNat y.toInt.toNat))) : dc_wp (hm_RE_goOnStart G S (vO E) x y) (fun r => r.2 = -1 ∧ RV G E r.1 (reCs E q x.toInt.toNat y.toInt.toNat)) := by
  delta hm_RE_goOnStart
  refine rv_p h ?_
  refine rv_a h (j := 2) (by decide) rfl ?_
  refine rv_d h (by decide) (by decide) hx.1 (hx.2.1 2 (by decide)) ?_
  refine rv_p h ?_
  refine rv_a h (j := 0) (by decide) rfl ?_
  refine rv_d h (by decide) (by decide) hx.1 (hx.2.1 0 (by decide)) ?_
  rw [hk]
  refine wq_let (fun v ev => ?_)
  subst ev
  rw [if_neg (by decide), if_neg (by decide), if_neg (by decide), if_neg (by decide), if_neg (by decide)]
  refine rv_c h ?_
  exact wq_call hcs (fun S1 g => ⟨_, rfl, rfl, g⟩)
theorem gs_10 (h : RV G E S q) (hx : rvN E x) (hk : vR E 0 x.toInt.toNat = 10) (hcs : dc_wp (hm_RE_closeSingle G S (vO E) x y) (fun S' => RV G E S' (reCs E q x.toInt.toNat y.toInt.toNat))) : dc_wp (hm_RE_goOnStart G S (vO E) x y) (fun r => r.2 = -1 ∧ RV G E r.1 (reCs E q x.toInt.toNat y.toInt.toNat)) := by
  delta hm_RE_goOnStart
  refine rv_p h ?_
  refine rv_a h (j := 2) (by decide) rfl ?_
  refine rv_d h (by decide) (by decide) hx.1 (hx.2.1 2 (by decide)) ?_
  refine rv_p h ?_
  refine rv_a h (j := 0) (by decide) rfl ?_
  refine rv_d h (by decide) (by decide) hx.1 (hx.2.1 0 (by decide)) ?_
  rw [hk]
  refine wq_let (fun v ev => ?_)
  subst ev
  rw [if_neg (by decide), if_neg (by decide), if_neg (by decide), if_neg (by decide), if_neg (by decide)]
  refine rv_c h ?_
  exact wq_call hcs (fun S1 g => ⟨_, rfl, rfl, g⟩)
theorem gs_5b (h : RV G E S q) (hx : rvN E x) (hk : vR E 0 x.toInt.toNat = 5) (hy : rvN E y) (ey : y = vR E 2 x.toInt.toNat) : dc_wp (hm_RE_goOnStart G S (vO E) x y) (fun r => r.2 = -1 ∧ RV G E r.1 (rePb q x.toInt.toNat y.toInt.toNat)) := by
  delta hm_RE_goOnStart
  refine rv_p h ?_
  refine rv_a h (j := 2) (by decide) rfl ?_
  refine rv_d h (by decide) (by decide) hx.1 (hx.2.1 2 (by decide)) ?_
  refine rv_p h ?_
  refine rv_a h (j := 0) (by decide) rfl ?_
  refine rv_d h (by decide) (by decide) hx.1 (hx.2.1 0 (by decide)) ?_
  rw [hk]
  refine wq_let (fun v ev => ?_)
  subst ev
  rw [if_neg (by decide), if_neg (by decide), if_pos rfl]
  rw [if_pos ey]
  refine rv_c h ?_
  exact wq_call (pb_w h hx.1 ⟨hx.2.2 7 (by decide) (by decide), hx.2.2 8 (by decide) (by decide), hx.2.2 9 (by decide) (by decide)⟩ hy.1 ⟨hy.2.2 7 (by decide) (by decide), hy.2.2 8 (by decide) (by decide)⟩) (fun S1 g => ⟨_, rfl, rfl, g⟩)
def reS1 (q : rsT) (k d : Nat) : rsT := reAn q k (q.1 7 d) (q.1 8 d)
theorem reAn_7 {k : Nat} {cs c : Int32} : (reAn q k cs c).1 7 k = cs := by
  unfold reAn
  rw [uX_n (by decide), uX_s, upd_s]
theorem reAn_8 {k : Nat} {cs c : Int32} : (reAn q k cs c).1 8 k = if q.1 9 k = 0 then -1 else c := by
  unfold reAn
  rw [uX_s, upd_s]
theorem gs_5a (h : RV G E S q) (hx : rvN E x) (hk : vR E 0 x.toInt.toNat = 5) (hy : rvN E y) (ny : ¬ y = vR E 2 x.toInt.toNat) (hb : rvN E (vR E 2 x.toInt.toNat)) : dc_wp (hm_RE_goOnStart G S (vO E) x y) (fun r => (q.1 7 y.toInt.toNat &&& 1 = 0 ∧ r.2 = -1 ∧ RV G E r.1 (reS1 q x.toInt.toNat y.toInt.toNat)) ∨ (¬ q.1 7 y.toInt.toNat &&& 1 = 0 ∧ r.2 = vR E 2 x.toInt.toNat ∧ RV G E r.1 (uX (reS1 q x.toInt.toNat y.toInt.toNat) 9 (vR E 2 x.toInt.toNat).toInt.toNat (if (reS1 q x.toInt.toNat y.toInt.toNat).1 8 x.toInt.toNat = 0 then 1 else 0)))) := by
  delta hm_RE_goOnStart
  refine rv_p h ?_
  refine rv_a h (j := 2) (by decide) rfl ?_
  refine rv_d h (by decide) (by decide) hx.1 (hx.2.1 2 (by decide)) ?_
  refine rv_p h ?_
  refine rv_a h (j := 0) (by decide) rfl ?_
  refine rv_d h (by decide) (by decide) hx.1 (hx.2.1 0 (by decide)) ?_
  rw [hk]
  refine wq_let (fun v ev => ?_)
  subst ev
  rw [if_neg (by decide), if_neg (by decide), if_pos rfl]
  rw [if_neg ny]
  refine rv_g h (by decide) (by decide) ?_
  refine rv_l h (by decide) (by decide) rfl hy.1 (hy.2.2 7 (by decide) (by decide)) ?_
  refine rv_g h (by decide) (by decide) ?_
  refine rv_l h (by decide) (by decide) rfl hy.1 (hy.2.2 8 (by decide) (by decide)) ?_
  refine rv_c h ?_
  refine wq_call (an_w h hx.1 ⟨hx.2.2 7 (by decide) (by decide), hx.2.2 8 (by decide) (by decide), hx.2.2 9 (by decide) (by decide)⟩) (fun S1 g => ?_)
  have g : RV G E S1 (reS1 q x.toInt.toNat y.toInt.toNat) := g
  refine rv_g g (by decide) (by decide) ?_
  refine rv_l g (by decide) (by decide) rfl hx.1 (hx.2.2 7 (by decide) (by decide)) ?_
  have e7 : (reS1 q x.toInt.toNat y.toInt.toNat).1 7 x.toInt.toNat = q.1 7 y.toInt.toNat := reAn_7
  rw [e7]
  refine wq_if (fun c => ?_) (fun c => ?_)
  · delta hm_RE_goOnStart_L123
    exact ⟨_, rfl, Or.inl ⟨c, rfl, g⟩⟩
  · refine rv_g g (by decide) (by decide) ?_
    refine rv_l g (by decide) (by decide) rfl hx.1 (hx.2.2 8 (by decide) (by decide)) ?_
    refine wq_if (fun d => ?_) (fun d => ?_)
    · delta hm_RE_goOnStart_L120
      refine rv_c g ?_
      refine wq_call (wi_w g hb.1 (hb.2.2 9 (by decide) (by decide)) (Or.inr rfl)) (fun r g2 => ?_)
      delta hm_RE_goOnStart_L123
      refine ⟨_, rfl, Or.inr ⟨c, g2.1, ?_⟩⟩
      rw [if_pos d]; exact g2.2
    · delta hm_RE_goOnStart_L120
      refine rv_c g ?_
      refine wq_call (wi_w g hb.1 (hb.2.2 9 (by decide) (by decide)) (Or.inl rfl)) (fun r g2 => ?_)
      delta hm_RE_goOnStart_L123
      refine ⟨_, rfl, Or.inr ⟨c, g2.1, ?_⟩⟩
      rw [if_neg d]; exact g2.2
theorem gs_7b (h : RV G E S q) (hx : rvN E x) (hk : vR E 0 x.toInt.toNat = 7) (ha : rvN E (vR E 1 x.toInt.toNat)) (hb : rvN E (vR E 2 x.toInt.toNat)) (ey : y = vR E 2 x.toInt.toNat) : dc_wp (hm_RE_goOnStart G S (vO E) x y) (fun r => r.2 = -1 ∧ RV G E r.1 (reCb q x.toInt.toNat (vR E 1 x.toInt.toNat).toInt.toNat (vR E 2 x.toInt.toNat).toInt.toNat)) := by
  delta hm_RE_goOnStart
  refine rv_p h ?_
  refine rv_a h (j := 2) (by decide) rfl ?_
  refine rv_d h (by decide) (by decide) hx.1 (hx.2.1 2 (by decide)) ?_
  refine rv_p h ?_
  refine rv_a h (j := 0) (by decide) rfl ?_
  refine rv_d h (by decide) (by decide) hx.1 (hx.2.1 0 (by decide)) ?_
  rw [hk]
  refine wq_let (fun v ev => ?_)
  subst ev
  rw [if_neg (by decide), if_neg (by decide), if_neg (by decide), if_neg (by decide), if_pos rfl]
  rw [if_pos ey]
  refine rv_c h ?_
  exact wq_call (cb_r h hx ha hb) (fun S1 g => ⟨_, rfl, rfl, g⟩)
theorem gs_7a (h : RV G E S q) (hx : rvN E x) (hk : vR E 0 x.toInt.toNat = 7) (h9 : q.1 9 x.toInt.toNat = 0 ∨ q.1 9 x.toInt.toNat = 1) (hb : rvN E (vR E 2 x.toInt.toNat)) (ny : ¬ y = vR E 2 x.toInt.toNat) : dc_wp (hm_RE_goOnStart G S (vO E) x y) (fun r => r.2 = vR E 2 x.toInt.toNat ∧ RV G E r.1 (uX q 9 (vR E 2 x.toInt.toNat).toInt.toNat (q.1 9 x.toInt.toNat))) := by
  delta hm_RE_goOnStart
  refine rv_p h ?_
  refine rv_a h (j := 2) (by decide) rfl ?_
  refine rv_d h (by decide) (by decide) hx.1 (hx.2.1 2 (by decide)) ?_
  refine rv_p h ?_
  refine rv_a h (j := 0) (by decide) rfl ?_
  refine rv_d h (by decide) (by decide) hx.1 (hx.2.1 0 (by decide)) ?_
  rw [hk]
  refine wq_let (fun v ev => ?_)
  subst ev
  rw [if_neg (by decide), if_neg (by decide), if_neg (by decide), if_neg (by decide), if_pos rfl]
  rw [if_neg ny]
  refine rv_g h (by decide) (by decide) ?_
  refine rv_l h (by decide) (by decide) rfl hx.1 (hx.2.2 9 (by decide) (by decide)) ?_
  refine rv_c h ?_
  refine wq_call (wi_w h hb.1 (hb.2.2 9 (by decide) (by decide)) h9) (fun r g => ?_)
  exact ⟨_, rfl, g.1, g.2⟩
end RBS
