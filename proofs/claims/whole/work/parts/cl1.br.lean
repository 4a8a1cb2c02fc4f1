/-! the class's reactor: what is begun and gone on with by resuming, a kind at a time -/
section RBR
variable {G : hg_E} {E : rvP} {S : hg_S} {q : rsT} {x y : Int32}
theorem wq_w {β : Type} {o : Option β} {P Q : β → Prop} (h : dc_wp o P) (f : ∀ r, P r → Q r) : dc_wp o Q := by
  obtain ⟨r, e, p⟩ := h
  exact ⟨r, e, f r p⟩
theorem br_1 (h : RV G E S q) (hx : rvN E x) (hk : vR E 0 x.toInt.toNat = 1) : dc_wp (hm_RE_beginResume G S (vO E) x) (fun r => r.2 = -1 ∧ RV G E r.1 (reAn q x.toInt.toNat 1 0)) := by
  delta hm_RE_beginResume
  refine rv_p h ?_
  refine rv_a h (j := 1) (by decide) rfl ?_
  refine rv_d h (by decide) (by decide) hx.1 (hx.2.1 1 (by decide)) ?_
  refine rv_p h ?_
  refine rv_a h (j := 0) (by decide) rfl ?_
  refine rv_d h (by decide) (by decide) hx.1 (hx.2.1 0 (by decide)) ?_
  rw [hk]
  refine wq_let (fun v ev => ?_)
  subst ev
  rw [if_pos rfl]
  refine rv_c h ?_
  exact wq_call (an_w h hx.1 ⟨hx.2.2 7 (by decide) (by decide), hx.2.2 8 (by decide) (by decide), hx.2.2 9 (by decide) (by decide)⟩) (fun S1 g => ⟨_, rfl, rfl, g⟩)
theorem br_6 (h : RV G E S q) (hx : rvN E x) (hk : vR E 0 x.toInt.toNat = 6) (h9 : q.1 9 x.toInt.toNat = 0 ∨ q.1 9 x.toInt.toNat = 1) (ha : rvN E (vR E 1 x.toInt.toNat)) : dc_wp (hm_RE_beginResume G S (vO E) x) (fun r => r.2 = vR E 1 x.toInt.toNat ∧ RV G E r.1 (uX q 9 (vR E 1 x.toInt.toNat).toInt.toNat (q.1 9 x.toInt.toNat))) := by
  delta hm_RE_beginResume
  refine rv_p h ?_
  refine rv_a h (j := 1) (by decide) rfl ?_
  refine rv_d h (by decide) (by decide) hx.1 (hx.2.1 1 (by decide)) ?_
  refine rv_p h ?_
  refine rv_a h (j := 0) (by decide) rfl ?_
  refine rv_d h (by decide) (by decide) hx.1 (hx.2.1 0 (by decide)) ?_
  rw [hk]
  refine wq_let (fun v ev => ?_)
  subst ev
  rw [if_neg (by decide), if_neg (by decide), if_neg (by decide), if_neg (by decide), if_neg (by decide), if_pos rfl]
  refine rv_g h (by decide) (by decide) ?_
  refine rv_l h (by decide) (by decide) rfl hx.1 (hx.2.2 9 (by decide) (by decide)) ?_
  refine rv_c h ?_
  refine wq_call (wi_w h ha.1 (ha.2.2 9 (by decide) (by decide)) h9) (fun r g => ?_)
  exact ⟨_, rfl, g.1, g.2⟩
theorem br_8 (h : RV G E S q) (hx : rvN E x) (hk : vR E 0 x.toInt.toNat = 8) (h9 : q.1 9 x.toInt.toNat = 0 ∨ q.1 9 x.toInt.toNat = 1) (ha : rvN E (vR E 1 x.toInt.toNat)) : dc_wp (hm_RE_beginResume G S (vO E) x) (fun r => r.2 = vR E 1 x.toInt.toNat ∧ RV G E r.1 (uX q 9 (vR E 1 x.toInt.toNat).toInt.toNat (q.1 9 x.toInt.toNat))) := by
  delta hm_RE_beginResume
  refine rv_p h ?_
  refine rv_a h (j := 1) (by decide) rfl ?_
  refine rv_d h (by decide) (by decide) hx.1 (hx.2.1 1 (by decide)) ?_
  refine rv_p h ?_
  refine rv_a h (j := 0) (by decide) rfl ?_
  refine rv_d h (by decide) (by decide) hx.1 (hx.2.1 0 (by decide)) ?_
  rw [hk]
  refine wq_let (fun v ev => ?_)
  subst ev
  rw [if_neg (by decide), if_neg (by decide), if_neg (by decide), if_neg (by decide), if_neg (by decide), if_neg (by decide), if_neg (by decide), if_pos rfl]
  refine rv_g h (by decide) (by decide) ?_
  refine rv_l h (by decide) (by decide) rfl hx.1 (hx.2.2 9 (by decide) (by decide)) ?_
  refine rv_c h ?_
  refine wq_call (wi_w h ha.1 (ha.2.2 9 (by decide) (by decide)) h9) (fun r g => ?_)
  exact ⟨_, rfl, g.1, g.2⟩
theorem br_L159 (h : RV G E S q) (hx : rvN E x) (h9 : q.1 9 x.toInt.toNat = 0 ∨ q.1 9 x.toInt.toNat = 1) {c : Int32} (hc : rvN E c) : dc_wp (hm_RE_beginResume_L159 G S (vO E) x c) (fun r => r.2 = c ∧ RV G E r.1 (uX q 9 c.toInt.toNat (q.1 9 x.toInt.toNat))) := by
  delta hm_RE_beginResume_L159
  refine rv_g h (by decide) (by decide) ?_
  refine rv_l h (by decide) (by decide) rfl hx.1 (hx.2.2 9 (by decide) (by decide)) ?_
  refine rv_c h ?_
  refine wq_call (wi_w h hc.1 (hc.2.2 9 (by decide) (by decide)) h9) (fun r g => ?_)
  exact ⟨_, rfl, g.1, g.2⟩
theorem br_L127 (h : RV G E S q) (hx : rvN E x) (h9 : q.1 9 x.toInt.toNat = 0 ∨ q.1 9 x.toInt.toNat = 1) {c : Int32} (hc : rvN E c) : dc_wp (hm_RE_beginResume_L127 G S (vO E) x c) (fun r => r.2 = c ∧ RV G E r.1 (uX q 9 c.toInt.toNat (q.1 9 x.toInt.toNat))) := by
  delta hm_RE_beginResume_L127
  refine rv_g h (by decide) (by decide) ?_
  refine rv_l h (by decide) (by decide) rfl hx.1 (hx.2.2 9 (by decide) (by decide)) ?_
  refine rv_c h ?_
  refine wq_call (wi_w h hc.1 (hc.2.2 9 (by decide) (by decide)) h9) (fun r g => ?_)
  exact ⟨_, rfl, g.1, g.2⟩
theorem br_3 (h : RV G E S q) (hx : rvN E x) (hk : vR E 0 x.toInt.toNat = 3) (h9 : q.1 9 x.toInt.toNat = 0 ∨ q.1 9 x.toInt.toNat = 1) (ha : rvN E (vR E 1 x.toInt.toNat)) (hb : rvN E (vR E 2 x.toInt.toNat)) (hh : dc_wp (hm_RE_isHeld G S (vO E) (vR E 1 x.toInt.toNat)) (fun r => (hdC E q (vR E 1 x.toInt.toNat).toInt.toNat ∧ r = 1) ∨ (¬ hdC E q (vR E 1 x.toInt.toNat).toInt.toNat ∧ r = 0))) : dc_wp (hm_RE_beginResume G S (vO E) x) (fun r => (hdC E q (vR E 1 x.toInt.toNat).toInt.toNat ∧ r.2 = vR E 1 x.toInt.toNat ∧ RV G E r.1 (uX q 9 (vR E 1 x.toInt.toNat).toInt.toNat (q.1 9 x.toInt.toNat))) ∨ (¬ hdC E q (vR E 1 x.toInt.toNat).toInt.toNat ∧ r.2 = vR E 2 x.toInt.toNat ∧ RV G E r.1 (uX q 9 (vR E 2 x.toInt.toNat).toInt.toNat (q.1 9 x.toInt.toNat)))) := by
  delta hm_RE_beginResume
  refine rv_p h ?_
  refine rv_a h (j := 1) (by decide) rfl ?_
  refine rv_d h (by decide) (by decide) hx.1 (hx.2.1 1 (by decide)) ?_
  refine rv_p h ?_
  refine rv_a h (j := 0) (by decide) rfl ?_
  refine rv_d h (by decide) (by decide) hx.1 (hx.2.1 0 (by decide)) ?_
  rw [hk]
  refine wq_let (fun v ev => ?_)
  subst ev
  rw [if_neg (by decide), if_neg (by decide), if_pos rfl]
  refine rv_c h ?_
  refine wq_call hh (fun r hr => ?_)
  rcases hr with ⟨hd, e⟩ | ⟨hd, e⟩
  · rw [if_neg (by rw [e]; decide)]
    exact wq_w (br_L159 h hx h9 ha) (fun r z => Or.inl ⟨hd, z.1, z.2⟩)
  · rw [if_pos e]
    refine rv_p h ?_
    refine rv_a h (j := 2) (by decide) rfl ?_
    refine rv_d h (by decide) (by decide) hx.1 (hx.2.1 2 (by decide)) ?_
    exact wq_w (br_L159 h hx h9 hb) (fun r z => Or.inr ⟨hd, z.1, z.2⟩)
theorem br_5 (h : RV G E S q) (hx : rvN E x) (hk : vR E 0 x.toInt.toNat = 5) (h9 : q.1 9 x.toInt.toNat = 0 ∨ q.1 9 x.toInt.toNat = 1) (ha : rvN E (vR E 1 x.toInt.toNat)) (hb : rvN E (vR E 2 x.toInt.toNat)) (hh : dc_wp (hm_RE_isHeld G S (vO E) (vR E 1 x.toInt.toNat)) (fun r => (hdC E q (vR E 1 x.toInt.toNat).toInt.toNat ∧ r = 1) ∨ (¬ hdC E q (vR E 1 x.toInt.toNat).toInt.toNat ∧ r = 0))) : dc_wp (hm_RE_beginResume G S (vO E) x) (fun r => (hdC E q (vR E 1 x.toInt.toNat).toInt.toNat ∧ r.2 = vR E 1 x.toInt.toNat ∧ RV G E r.1 (uX q 9 (vR E 1 x.toInt.toNat).toInt.toNat (q.1 9 x.toInt.toNat))) ∨ (¬ hdC E q (vR E 1 x.toInt.toNat).toInt.toNat ∧ r.2 = vR E 2 x.toInt.toNat ∧ RV G E r.1 (uX q 9 (vR E 2 x.toInt.toNat).toInt.toNat (q.1 9 x.toInt.toNat)))) := by
  delta hm_RE_beginResume
  refine rv_p h ?_
  refine rv_a h (j := 1) (by decide) rfl ?_
  refine rv_d h (by decide) (by decide) hx.1 (hx.2.1 1 (by decide)) ?_
  refine rv_p h ?_
  refine rv_a h (j := 0) (by decide) rfl ?_
  refine rv_d h (by decide) (by decide) hx.1 (hx.2.1 0 (by decide)) ?_
  rw [hk]
  refine wq_let (fun v ev => ?_)
  subst ev
  rw [if_neg (by decide), if_neg (by decide), if_neg (by decide), if_neg (by decide), if_pos rfl]
  refine rv_c h ?_
  refine wq_call hh (fun r hr => ?_)
  rcases hr with ⟨hd, e⟩ | ⟨hd, e⟩
  · rw [if_neg (by rw [e]; decide)]
    exact wq_w (br_L159 h hx h9 ha) (fun r z => Or.inl ⟨hd, z.1, z.2⟩)
  · rw [if_pos e]
    refine rv_p h ?_
    refine rv_a h (j := 2) (by decide) rfl ?_
    refine rv_d h (by decide) (by decide) hx.1 (hx.2.1 2 (by decide)) ?_
    exact wq_w (br_L159 h hx h9 hb) (fun r z => Or.inr ⟨hd, z.1, z.2⟩)
/-- both are taken as ended before one is resumed -/
def reE2 (q : rsT) (a b : Nat) : rsT := reEn (reEn q a) b
theorem reE2_n {a b i : Nat} (h : ¬ i = 7) (g : ¬ i = 8) : (reE2 q a b).1 i = q.1 i := by
  unfold reE2 reEn
  rw [uX_n g, uX_n h, uX_n g, uX_n h]
theorem br_7 (h : RV G E S q) (hx : rvN E x) (hk : vR E 0 x.toInt.toNat = 7) (h9 : q.1 9 x.toInt.toNat = 0 ∨ q.1 9 x.toInt.toNat = 1) (ha : rvN E (vR E 1 x.toInt.toNat)) (hb : rvN E (vR E 2 x.toInt.toNat)) (hh : ∀ S' q', RV G E S' q' → (∀ i, ¬ i = 7 → ¬ i = 8 → q'.1 i = q.1 i) → dc_wp (hm_RE_isHeld G S' (vO E) (vR E 1 x.toInt.toNat)) (fun r => (hdC E q (vR E 1 x.toInt.toNat).toInt.toNat ∧ r = 1) ∨ (¬ hdC E q (vR E 1 x.toInt.toNat).toInt.toNat ∧ r = 0))) : dc_wp (hm_RE_beginResume G S (vO E) x) (fun r => (hdC E q (vR E 1 x.toInt.toNat).toInt.toNat ∧ r.2 = vR E 1 x.toInt.toNat ∧ RV G E r.1 (uX (reE2 q (vR E 1 x.toInt.toNat).toInt.toNat (vR E 2 x.toInt.toNat).toInt.toNat) 9 (vR E 1 x.toInt.toNat).toInt.toNat (q.1 9 x.toInt.toNat))) ∨ (¬ hdC E q (vR E 1 x.toInt.toNat).toInt.toNat ∧ r.2 = vR E 2 x.toInt.toNat ∧ RV G E r.1 (uX (reE2 q (vR E 1 x.toInt.toNat).toInt.toNat (vR E 2 x.toInt.toNat).toInt.toNat) 9 (vR E 2 x.toInt.toNat).toInt.toNat (q.1 9 x.toInt.toNat)))) := by
  delta hm_RE_beginResume
  refine rv_p h ?_
  refine rv_a h (j := 1) (by decide) rfl ?_
  refine rv_d h (by decide) (by decide) hx.1 (hx.2.1 1 (by decide)) ?_
  refine rv_p h ?_
  refine rv_a h (j := 0) (by decide) rfl ?_
  refine rv_d h (by decide) (by decide) hx.1 (hx.2.1 0 (by decide)) ?_
  rw [hk]
  refine wq_let (fun v ev => ?_)
  subst ev
  rw [if_neg (by decide), if_neg (by decide), if_neg (by decide), if_neg (by decide), if_neg (by decide), if_neg (by decide), if_pos rfl]
  refine rv_c h ?_
  refine wq_call (en_w h ha.1 ⟨ha.2.2 7 (by decide) (by decide), ha.2.2 8 (by decide) (by decide)⟩) (fun S1 g => ?_)
  refine rv_p g ?_
  refine rv_a g (j := 2) (by decide) rfl ?_
  refine rv_d g (by decide) (by decide) hx.1 (hx.2.1 2 (by decide)) ?_
  refine rv_c g ?_
  refine wq_call (en_w g hb.1 ⟨hb.2.2 7 (by decide) (by decide), hb.2.2 8 (by decide) (by decide)⟩) (fun S2 g2 => ?_)
  have g2 : RV G E S2 (reE2 q (vR E 1 x.toInt.toNat).toInt.toNat (vR E 2 x.toInt.toNat).toInt.toNat) := g2
  refine rv_c g2 ?_
  have e9 : (reE2 q (vR E 1 x.toInt.toNat).toInt.toNat (vR E 2 x.toInt.toNat).toInt.toNat).1 9 = q.1 9 := reE2_n (by decide) (by decide)
  have h9' : (reE2 q (vR E 1 x.toInt.toNat).toInt.toNat (vR E 2 x.toInt.toNat).toInt.toNat).1 9 x.toInt.toNat = 0 ∨ (reE2 q (vR E 1 x.toInt.toNat).toInt.toNat (vR E 2 x.toInt.toNat).toInt.toNat).1 9 x.toInt.toNat = 1 := by rw [e9]; exact h9
  refine wq_call (hh _ _ g2 (fun i => reE2_n)) (fun r hr => ?_)
  rcases hr with ⟨hd, e⟩ | ⟨hd, e⟩
  · rw [if_neg (by rw [e]; decide)]
    exact wq_w (br_L127 g2 hx h9' ha) (fun r z => Or.inl ⟨hd, z.1, by rw [← e9]; exact z.2⟩)
  · rw [if_pos e]
    refine rv_p g2 ?_
    refine rv_a g2 (j := 2) (by decide) rfl ?_
    refine rv_d g2 (by decide) (by decide) hx.1 (hx.2.1 2 (by decide)) ?_
    exact wq_w (br_L127 g2 hx h9' hb) (fun r z => Or.inr ⟨hd, z.1, by rw [← e9]; exact z.2⟩)
theorem br_10 (h : RV G E S q) (hx : rvN E x) (hk : vR E 0 x.toInt.toNat = 10) (h9 : q.1 9 x.toInt.toNat = 0 ∨ q.1 9 x.toInt.toNat = 1) (ha : rvN E (vR E 1 x.toInt.toNat)) (hn : 0 ≤ (vR E 4 x.toInt.toNat).toInt ∧ (vR E 4 x.toInt.toNat).toInt < (vL' E 4 : Int) ∧ (vR E 4 x.toInt.toNat).toInt < (vL' E 3 : Int)) : dc_wp (hm_RE_beginResume G S (vO E) x) (fun r => r.2 = vR E 1 x.toInt.toNat ∧ RV G E r.1 (uX (uX q 4 (vR E 4 x.toInt.toNat).toInt.toNat (q.1 3 (vR E 4 x.toInt.toNat).toInt.toNat)) 9 (vR E 1 x.toInt.toNat).toInt.toNat (q.1 9 x.toInt.toNat))) := by
  delta hm_RE_beginResume
  refine rv_p h ?_
  refine rv_a h (j := 1) (by decide) rfl ?_
  refine rv_d h (by decide) (by decide) hx.1 (hx.2.1 1 (by decide)) ?_
  refine rv_p h ?_
  refine rv_a h (j := 0) (by decide) rfl ?_
  refine rv_d h (by decide) (by decide) hx.1 (hx.2.1 0 (by decide)) ?_
  rw [hk]
  refine wq_let (fun v ev => ?_)
  subst ev
  rw [if_neg (by decide), if_neg (by decide), if_neg (by decide), if_neg (by decide), if_neg (by decide), if_neg (by decide), if_neg (by decide), if_neg (by decide), if_neg (by decide), if_pos rfl]
  refine rv_g h (by decide) (by decide) ?_
  refine rv_p h ?_
  refine rv_a h (j := 4) (by decide) rfl ?_
  refine rv_d h (by decide) (by decide) hx.1 (hx.2.1 4 (by decide)) ?_
  refine rv_g h (by decide) (by decide) ?_
  refine rv_p h ?_
  refine rv_a h (j := 4) (by decide) rfl ?_
  refine rv_d h (by decide) (by decide) hx.1 (hx.2.1 4 (by decide)) ?_
  refine rv_l h (by decide) (by decide) rfl hn.1 hn.2.2 ?_
  refine rv_s h (by decide) (by decide) rfl hn.1 hn.2.1 (fun S1 g => ?_)
  refine rv_g g (by decide) (by decide) ?_
  refine rv_l g (by decide) (by decide) rfl hx.1 (hx.2.2 9 (by decide) (by decide)) ?_
  rw [uX_n (by decide)]
  refine rv_c g ?_
  refine wq_call (wi_w g ha.1 (ha.2.2 9 (by decide) (by decide)) h9) (fun r g2 => ?_)
  exact ⟨_, rfl, g2.1, g2.2⟩
/-- the pauses of a row that stay -/
def reKp (E : rvP) (q : rsT) (n : Nat) : rsT := fX q 11 (fun k => if (vR E 8 n).toInt.toNat ≤ k ∧ k < (vR E 9 n).toInt.toNat then (if q.1 9 n = 0 then 0 else if (q.1 10 k).toInt < (q.1 10 (k + 1)).toInt then 1 else 0) else q.1 11 k)
theorem bsu_f (h : RV G E S q) (hx : rvN E x) (h9 : q.1 9 x.toInt.toNat = 0 ∨ q.1 9 x.toInt.toNat = 1) (ha : rvN E (vR E 1 x.toInt.toNat)) {t : Int32} (hv : dc_wp (hm_RE_valueOf G S (vO E) (vR E 4 x.toInt.toNat)) (fun r => r.2 = t ∧ ∃ f, RV G E r.1 (fX q 5 f))) (ht : ¬ t = 1) : dc_wp (hm_RE_beginSuspend G S (vO E) x) (fun r => r.2 = vR E 1 x.toInt.toNat ∧ ∃ f, RV G E r.1 (uX (reT q x.toInt.toNat f t) 9 (vR E 1 x.toInt.toNat).toInt.toNat (if q.1 9 x.toInt.toNat = 0 then 0 else if t = 0 then 1 else 0))) := by
  delta hm_RE_beginSuspend
  refine rv_g h (by decide) (by decide) ?_
  refine rv_p h ?_
  refine rv_a h (j := 4) (by decide) rfl ?_
  refine rv_d h (by decide) (by decide) hx.1 (hx.2.1 4 (by decide)) ?_
  refine rv_c h ?_
  refine wq_call hv ?_
  rintro ⟨S1, t1⟩ ⟨e1, f, g⟩
  have e1 : t1 = t := e1
  subst e1
  have g : RV G E S1 (fX q 5 f) := g
  refine rv_s g (by decide) (by decide) rfl hx.1 (hx.2.2 6 (by decide) (by decide)) (fun S2 k => ?_)
  have k : RV G E S2 (reT q x.toInt.toNat f t1) := k
  refine rv_g k (by decide) (by decide) ?_
  refine rv_l k (by decide) (by decide) rfl hx.1 (hx.2.2 6 (by decide) (by decide)) ?_
  rw [reT_6, if_neg ht]
  have last : ∀ v : Int32, v = 0 ∨ v = 1 → v = (if q.1 9 x.toInt.toNat = 0 then 0 else if t1 = 0 then 1 else 0) → dc_wp (hm_RE_beginSuspend_L62 G S2 (vO E) v (vR E 1 x.toInt.toNat)) (fun r => r.2 = vR E 1 x.toInt.toNat ∧ ∃ f, RV G E r.1 (uX (reT q x.toInt.toNat f t1) 9 (vR E 1 x.toInt.toNat).toInt.toNat (if q.1 9 x.toInt.toNat = 0 then 0 else if t1 = 0 then 1 else 0))) := by
    intro v hv1 hv2
    delta hm_RE_beginSuspend_L62
    refine rv_c k ?_
    refine wq_call (wi_w k ha.1 (ha.2.2 9 (by decide) (by decide)) hv1) (fun r g2 => ?_)
    refine ⟨_, rfl, g2.1, f, ?_⟩
    rw [← hv2]
    exact g2.2
  refine rv_p k ?_
  refine rv_a k (j := 1) (by decide) rfl ?_
  refine rv_d k (by decide) (by decide) hx.1 (hx.2.1 1 (by decide)) ?_
  refine rv_g k (by decide) (by decide) ?_
  refine rv_l k (by decide) (by decide) rfl hx.1 (hx.2.2 9 (by decide) (by decide)) ?_
  rw [reT_n (by decide) (by decide)]
  refine wq_if (fun c9 => ?_) (fun c9 => ?_)
  · delta hm_RE_beginSuspend_L61
    exact last 0 (Or.inl rfl) (by rw [if_pos c9])
  · refine rv_g k (by decide) (by decide) ?_
    refine rv_l k (by decide) (by decide) rfl hx.1 (hx.2.2 6 (by decide) (by decide)) ?_
    rw [reT_6]
    refine wq_if (fun c2 => ?_) (fun c2 => ?_)
    · exact last 1 (Or.inr rfl) (by rw [if_neg c9, if_pos c2])
    · delta hm_RE_beginSuspend_L61
      exact last 0 (Or.inl rfl) (by rw [if_neg c9, if_neg c2])
theorem bsu_t (h : RV G E S q) (hx : rvN E x) {f t : Nat} (hf : vR E 8 x.toInt.toNat = Int32.ofNat f) (hp : vR E 9 x.toInt.toNat = Int32.ofNat t) (hft : f ≤ t) (hL : t ≤ vL' E 11) (hL' : t < vL' E 10) (hb : t ≤ 100000) (hv : dc_wp (hm_RE_valueOf G S (vO E) (vR E 4 x.toInt.toNat)) (fun r => r.2 = 1 ∧ ∃ f, RV G E r.1 (fX q 5 f))) : dc_wp (hm_RE_beginSuspend G S (vO E) x) (fun r => r.2 = -1 ∧ ∃ f, RV G E r.1 (reAn (reKp E (reT q x.toInt.toNat f 1) x.toInt.toNat) x.toInt.toNat 2 1)) := by
  have tt : (Int32.ofNat t).toInt = (t : Int) := Int32.toInt_ofNat_of_lt (by omega)
  have tf : (Int32.ofNat f).toInt = (f : Int) := Int32.toInt_ofNat_of_lt (by omega)
  delta hm_RE_beginSuspend
  refine rv_g h (by decide) (by decide) ?_
  refine rv_p h ?_
  refine rv_a h (j := 4) (by decide) rfl ?_
  refine rv_d h (by decide) (by decide) hx.1 (hx.2.1 4 (by decide)) ?_
  refine rv_c h ?_
  refine wq_call hv ?_
  rintro ⟨S1, t1⟩ ⟨e1, g0, g⟩
  have e1 : t1 = 1 := e1
  subst e1
  have g : RV G E S1 (fX q 5 g0) := g
  refine rv_s g (by decide) (by decide) rfl hx.1 (hx.2.2 6 (by decide) (by decide)) (fun S2 k => ?_)
  have k : RV G E S2 (reT q x.toInt.toNat g0 1) := k
  refine rv_g k (by decide) (by decide) ?_
  refine rv_l k (by decide) (by decide) rfl hx.1 (hx.2.2 6 (by decide) (by decide)) ?_
  rw [reT_6, if_pos rfl]
  refine rv_p k ?_
  refine rv_a k (j := 8) (by decide) rfl ?_
  refine rv_d k (by decide) (by decide) hx.1 (hx.2.1 8 (by decide)) ?_
  rw [hf]
  delta hm_RE_beginSuspend_L76
  generalize hp0 : reT q x.toInt.toNat g0 1 = p at k
  have key := dc_itK (step := hm_RE_beginSuspend_s76 G (vO E) x) (fun d (y : hg_S × Int32) => ∃ i, y.2 = Int32.ofNat i ∧ f ≤ i ∧ i ≤ t ∧ d = t - i ∧ RV G E y.1 (fX p 11 (fun j => if f ≤ j ∧ j < i then (if p.1 9 x.toInt.toNat = 0 then 0 else if (p.1 10 j).toInt < (p.1 10 (j + 1)).toInt then 1 else 0) else p.1 11 j))) (F := fun S' => RV G E S' (reKp E p x.toInt.toNat)) (by
    rintro d ⟨Y, v⟩ ⟨i, ev, k1, k2, ed, g⟩
    have ev : v = Int32.ofNat i := ev
    have g : RV G E Y (fX p 11 (fun j => if f ≤ j ∧ j < i then (if p.1 9 x.toInt.toNat = 0 then 0 else if (p.1 10 j).toInt < (p.1 10 (j + 1)).toInt then 1 else 0) else p.1 11 j)) := g
    subst ev
    have tk : (Int32.ofNat i).toInt = (i : Int) := Int32.toInt_ofNat_of_lt (by omega)
    have tkn : (Int32.ofNat i).toInt.toNat = i := by omega
    show dc_wp (hm_RE_beginSuspend_b76 G Y (vO E) x (Int32.ofNat i)) _
    delta hm_RE_beginSuspend_b76
    refine rv_p g ?_
    refine rv_a g (j := 9) (by decide) rfl ?_
    refine rv_d g (by decide) (by decide) hx.1 (hx.2.1 9 (by decide)) ?_
    rw [hp]
    refine wq_if (fun c => ?_) (fun c => ?_)
    · have c := i_lt.mp c
      rw [tk, tt] at c
      have last : ∀ v : Int32, v = 0 ∨ v = 1 → v = (if p.1 9 x.toInt.toNat = 0 then 0 else if (p.1 10 i).toInt < (p.1 10 (i + 1)).toInt then 1 else 0) → dc_wp (hm_RE_beginSuspend_L125 G Y (vO E) x (Int32.ofNat i) v (Int32.ofNat i) (some (vB E 11))) (Sum.elim (fun y => ∃ k', k' < d ∧ ∃ i, y.2 = Int32.ofNat i ∧ f ≤ i ∧ i ≤ t ∧ k' = t - i ∧ RV G E y.1 (fX p 11 (fun j => if f ≤ j ∧ j < i then (if p.1 9 x.toInt.toNat = 0 then 0 else if (p.1 10 j).toInt < (p.1 10 (j + 1)).toInt then 1 else 0) else p.1 11 j))) (fun S' => RV G E S' (reKp E p x.toInt.toNat))) := by
        intro v v1 v2
        delta hm_RE_beginSuspend_L125
        refine zb_s v1 ?_
        refine rv_s g (by decide) (by decide) rfl (by omega) (by omega) (fun S' g' => ?_)
        refine ⟨_, rfl, t - (i + 1), by omega, i + 1, ad_m (by omega), by omega, by omega, rfl, ?_⟩
        show RV G E S' _
        rw [tkn, uX_fX] at g'
        have e : upd (fun j => if f ≤ j ∧ j < i then (if p.1 9 x.toInt.toNat = 0 then 0 else if (p.1 10 j).toInt < (p.1 10 (j + 1)).toInt then 1 else 0) else p.1 11 j) i v = (fun j => if f ≤ j ∧ j < i + 1 then (if p.1 9 x.toInt.toNat = 0 then 0 else if (p.1 10 j).toInt < (p.1 10 (j + 1)).toInt then 1 else 0) else p.1 11 j) := by
          funext j
          by_cases ej : j = i
          · subst ej
            rw [upd_s, if_pos ⟨k1, by omega⟩, v2]
          · rw [upd_n ej]
            by_cases c1 : f ≤ j ∧ j < i
            · have c2 : f ≤ j ∧ j < i + 1 := ⟨c1.1, by omega⟩
              rw [if_pos c1]
              exact (if_pos c2).symm
            · rw [if_neg c1, if_neg (fun z => c1 ⟨z.1, by omega⟩)]
        rw [e] at g'
        exact g'
      refine rv_g g (by decide) (by decide) ?_
      refine rv_g g (by decide) (by decide) ?_
      refine rv_l g (by decide) (by decide) rfl hx.1 (hx.2.2 9 (by decide) (by decide)) ?_
      rw [fX_n (by decide)]
      refine wq_if (fun c9 => ?_) (fun c9 => ?_)
      · delta hm_RE_beginSuspend_L124
        exact last 0 (Or.inl rfl) (by rw [if_pos c9])
      · have t1 : (Int32.ofNat i + 1).toInt = (i : Int) + 1 := by
          have : Int32.ofNat i + 1 = Int32.ofNat (i + 1) := ad_m (by omega)
          rw [this, Int32.toInt_ofNat_of_lt (by omega)]
          omega
        have t1n : (Int32.ofNat i + 1).toInt.toNat = i + 1 := by omega
        refine rv_g g (by decide) (by decide) ?_
        refine rv_l g (by decide) (by decide) rfl (by omega) (by omega) ?_
        refine rv_g g (by decide) (by decide) ?_
        refine rv_l g (by decide) (by decide) rfl (by omega) (by omega) ?_
        rw [fX_n (by decide), tkn, t1n]
        refine wq_if (fun c2 => ?_) (fun c2 => ?_)
        · exact last 1 (Or.inr rfl) (by rw [if_neg c9, if_pos (i_lt.mp c2)])
        · delta hm_RE_beginSuspend_L124
          exact last 0 (Or.inl rfl) (by rw [if_neg c9, if_neg (fun z => c2 (i_lt.mpr z))])
    · have c : ¬ (Int32.ofNat i).toInt < (Int32.ofNat t).toInt := fun z => c (i_lt.mpr z)
      rw [tk, tt] at c
      have : i = t := by omega
      subst this
      refine ⟨_, rfl, ?_⟩
      show RV G E Y (reKp E p x.toInt.toNat)
      unfold reKp
      rw [hf, hp, tt, tf]
      exact g)
  refine wq_call (key (t - f) (S2, Int32.ofNat f) ⟨f, rfl, Nat.le_refl _, hft, rfl, ?_⟩) ?_
  · show RV G E S2 _
    rw [fX_id]
    · exact k
    · funext j
      rw [if_neg (by omega)]
  · intro S3 g
    delta hm_RE_beginSuspend_L132
    refine rv_c g ?_
    exact wq_call (an_w g hx.1 ⟨hx.2.2 7 (by decide) (by decide), hx.2.2 8 (by decide) (by decide), hx.2.2 9 (by decide) (by decide)⟩) (fun S4 g4 => ⟨_, rfl, rfl, g0, by rw [hp0]; exact g4⟩)
theorem br_4 (h : RV G E S q) (hx : rvN E x) (hk : vR E 0 x.toInt.toNat = 4) {Φ : hg_S × Int32 → Prop} (hg : dc_wp (hm_RE_beginSuspend G S (vO E) x) Φ) : dc_wp (hm_RE_beginResume G S (vO E) x) Φ := by
  delta hm_RE_beginResume
  refine rv_p h ?_
  refine rv_a h (j := 1) (by decide) rfl ?_
  refine rv_d h (by decide) (by decide) hx.1 (hx.2.1 1 (by decide)) ?_
  refine rv_p h ?_
  refine rv_a h (j := 0) (by decide) rfl ?_
  refine rv_d h (by decide) (by decide) hx.1 (hx.2.1 0 (by decide)) ?_
  rw [hk]
  refine wq_let (fun v ev => ?_)
  subst ev
  rw [if_neg (by decide), if_neg (by decide), if_neg (by decide), if_pos rfl]
  refine rv_c h ?_
  exact wq_call hg (fun r g => ⟨_, rfl, g⟩)
/-- what startBehind leaves -/
def reSB (E : rvP) (q : rsT) (n : Nat) (c : Int32) : rsT := uX (uC (uC (uC q 15 1) 16 c) 17 (vR E 7 n)) 9 c.toInt.toNat (if q.1 8 n = 0 then 1 else 0)
theorem stb_w (h : RV G E S q) (hx : rvN E x) (hy : rvN E y) : dc_wp (hm_RE_startBehind G S (vO E) x y) (fun r => (q.1 7 x.toInt.toNat &&& 1 = 0 ∧ r.2 = -1 ∧ RV G E r.1 q) ∨ (¬ q.1 7 x.toInt.toNat &&& 1 = 0 ∧ r.2 = y ∧ RV G E r.1 (reSB E q x.toInt.toNat y))) := by
  delta hm_RE_startBehind
  refine rv_g h (by decide) (by decide) ?_
  refine rv_l h (by decide) (by decide) rfl hx.1 (hx.2.2 7 (by decide) (by decide)) ?_
  refine wq_if (fun c => ⟨_, rfl, Or.inl ⟨c, rfl, h⟩⟩) (fun c => ?_)
  refine rv_f h (by decide) (by decide) (fun S1 g1 => ?_)
  refine rv_f g1 (by decide) (by decide) (fun S2 g2 => ?_)
  refine rv_p g2 ?_
  refine rv_a g2 (j := 7) (by decide) rfl ?_
  refine rv_d g2 (by decide) (by decide) hx.1 (hx.2.1 7 (by decide)) ?_
  refine rv_f g2 (by decide) (by decide) (fun S3 g3 => ?_)
  refine rv_g g3 (by decide) (by decide) ?_
  refine rv_l g3 (by decide) (by decide) rfl hx.1 (hx.2.2 8 (by decide) (by decide)) ?_
  refine wq_if (fun d => ?_) (fun d => ?_)
  · delta hm_RE_startBehind_L52
    refine rv_c g3 ?_
    refine wq_call (wi_w g3 hy.1 (hy.2.2 9 (by decide) (by decide)) (Or.inr rfl)) (fun r g => ?_)
    refine ⟨_, rfl, Or.inr ⟨c, g.1, ?_⟩⟩
    unfold reSB
    have d : q.1 8 x.toInt.toNat = 0 := d
    rw [if_pos d]; exact g.2
  · delta hm_RE_startBehind_L52
    refine rv_c g3 ?_
    refine wq_call (wi_w g3 hy.1 (hy.2.2 9 (by decide) (by decide)) (Or.inl rfl)) (fun r g => ?_)
    refine ⟨_, rfl, Or.inr ⟨c, g.1, ?_⟩⟩
    unfold reSB
    have d : ¬ q.1 8 x.toInt.toNat = 0 := d
    rw [if_neg d]; exact g.2
def reCB (q : rsT) (n d : Nat) : rsT := rePb (uC (uC (uC q 15 0) 16 (-1)) 17 0) n d
theorem cmb_w (h : RV G E S q) (hx : rvN E x) (hy : rvN E y) : dc_wp (hm_RE_comeBack G S (vO E) x y) (fun r => r.2 = -1 ∧ RV G E r.1 (reCB q x.toInt.toNat y.toInt.toNat)) := by
  delta hm_RE_comeBack
  refine rv_f h (by decide) (by decide) (fun S1 g1 => ?_)
  refine rv_f g1 (by decide) (by decide) (fun S2 g2 => ?_)
  refine rv_f g2 (by decide) (by decide) (fun S3 g3 => ?_)
  refine rv_c g3 ?_
  exact wq_call (pb_w g3 hx.1 ⟨hx.2.2 7 (by decide) (by decide), hx.2.2 8 (by decide) (by decide), hx.2.2 9 (by decide) (by decide)⟩ hy.1 ⟨hy.2.2 7 (by decide) (by decide), hy.2.2 8 (by decide) (by decide)⟩) (fun S4 g => ⟨_, rfl, rfl, g⟩)
theorem gr_4 (h : RV G E S q) (hx : rvN E x) (hk : vR E 0 x.toInt.toNat = 4) (hy : rvN E y) : dc_wp (hm_RE_goOnResume G S (vO E) x y) (fun r => r.2 = -1 ∧ RV G E r.1 (reAn q x.toInt.toNat (q.1 7 y.toInt.toNat ||| (if q.1 6 x.toInt.toNat = 2 then 2 else 0)) (q.1 8 y.toInt.toNat))) := by
  delta hm_RE_goOnResume
  refine rv_p h ?_
  refine rv_a h (j := 2) (by decide) rfl ?_
  refine rv_d h (by decide) (by decide) hx.1 (hx.2.1 2 (by decide)) ?_
  refine rv_p h ?_
  refine rv_a h (j := 0) (by decide) rfl ?_
  refine rv_d h (by decide) (by decide) hx.1 (hx.2.1 0 (by decide)) ?_
  rw [hk]
  refine wq_let (fun v ev => ?_)
  subst ev
  rw [if_pos rfl]
  refine rv_g h (by decide) (by decide) ?_
  refine rv_l h (by decide) (by decide) rfl hy.1 (hy.2.2 7 (by decide) (by decide)) ?_
  refine rv_g h (by decide) (by decide) ?_
  refine rv_l h (by decide) (by decide) rfl hx.1 (hx.2.2 6 (by decide) (by decide)) ?_
  refine wq_if (fun c => ?_) (fun c => ?_)
  · delta hm_RE_goOnResume_L160
    refine rv_g h (by decide) (by decide) ?_
    refine rv_l h (by decide) (by decide) rfl hy.1 (hy.2.2 8 (by decide) (by decide)) ?_
    refine rv_c h ?_
    rw [if_pos c]
    exact wq_call (an_w h hx.1 ⟨hx.2.2 7 (by decide) (by decide), hx.2.2 8 (by decide) (by decide), hx.2.2 9 (by decide) (by decide)⟩) (fun S1 g => ⟨_, rfl, rfl, g⟩)
  · delta hm_RE_goOnResume_L160
    refine rv_g h (by decide) (by decide) ?_
    refine rv_l h (by decide) (by decide) rfl hy.1 (hy.2.2 8 (by decide) (by decide)) ?_
    refine rv_c h ?_
    rw [if_neg c]
    exact wq_call (an_w h hx.1 ⟨hx.2.2 7 (by decide) (by decide), hx.2.2 8 (by decide) (by decide), hx.2.2 9 (by decide) (by decide)⟩) (fun S1 g => ⟨_, rfl, rfl, g⟩)
theorem gr_5b (h : RV G E S q) (hx : rvN E x) (hk : vR E 0 x.toInt.toNat = 5) (hy : rvN E y) (ey : y = vR E 2 x.toInt.toNat) : dc_wp (hm_RE_goOnResume G S (vO E) x y) (fun r => r.2 = -1 ∧ RV G E r.1 (reS1 q x.toInt.toNat y.toInt.toNat)) := by
  delta hm_RE_goOnResume
  refine rv_p h ?_
  refine rv_a h (j := 2) (by decide) rfl ?_
  refine rv_d h (by decide) (by decide) hx.1 (hx.2.1 2 (by decide)) ?_
  refine rv_p h ?_
  refine rv_a h (j := 0) (by decide) rfl ?_
  refine rv_d h (by decide) (by decide) hx.1 (hx.2.1 0 (by decide)) ?_
  rw [hk]
  refine wq_let (fun v ev => ?_)
  subst ev
  rw [if_neg (by decide), if_pos rfl]
  refine rv_g h (by decide) (by decide) ?_
  refine rv_l h (by decide) (by decide) rfl hy.1 (hy.2.2 7 (by decide) (by decide)) ?_
  refine rv_g h (by decide) (by decide) ?_
  refine rv_l h (by decide) (by decide) rfl hy.1 (hy.2.2 8 (by decide) (by decide)) ?_
  refine rv_c h ?_
  refine wq_call (an_w h hx.1 ⟨hx.2.2 7 (by decide) (by decide), hx.2.2 8 (by decide) (by decide), hx.2.2 9 (by decide) (by decide)⟩) (fun S1 g => ?_)
  have g : RV G E S1 (reS1 q x.toInt.toNat y.toInt.toNat) := g
  rw [if_pos ey]
  delta hm_RE_goOnResume_L80
  exact ⟨_, rfl, rfl, g⟩
theorem gr_5a (h : RV G E S q) (hx : rvN E x) (hk : vR E 0 x.toInt.toNat = 5) (hy : rvN E y) (hb : rvN E (vR E 2 x.toInt.toNat)) (ny : ¬ y = vR E 2 x.toInt.toNat) : dc_wp (hm_RE_goOnResume G S (vO E) x y) (fun r => ((reS1 q x.toInt.toNat y.toInt.toNat).1 7 x.toInt.toNat &&& 1 = 0 ∧ r.2 = -1 ∧ RV G E r.1 (reS1 q x.toInt.toNat y.toInt.toNat)) ∨ (¬ (reS1 q x.toInt.toNat y.toInt.toNat).1 7 x.toInt.toNat &&& 1 = 0 ∧ r.2 = (vR E 2 x.toInt.toNat) ∧ RV G E r.1 (reSB E (reS1 q x.toInt.toNat y.toInt.toNat) x.toInt.toNat (vR E 2 x.toInt.toNat)))) := by
  delta hm_RE_goOnResume
  refine rv_p h ?_
  refine rv_a h (j := 2) (by decide) rfl ?_
  refine rv_d h (by decide) (by decide) hx.1 (hx.2.1 2 (by decide)) ?_
  refine rv_p h ?_
  refine rv_a h (j := 0) (by decide) rfl ?_
  refine rv_d h (by decide) (by decide) hx.1 (hx.2.1 0 (by decide)) ?_
  rw [hk]
  refine wq_let (fun v ev => ?_)
  subst ev
  rw [if_neg (by decide), if_pos rfl]
  refine rv_g h (by decide) (by decide) ?_
  refine rv_l h (by decide) (by decide) rfl hy.1 (hy.2.2 7 (by decide) (by decide)) ?_
  refine rv_g h (by decide) (by decide) ?_
  refine rv_l h (by decide) (by decide) rfl hy.1 (hy.2.2 8 (by decide) (by decide)) ?_
  refine rv_c h ?_
  refine wq_call (an_w h hx.1 ⟨hx.2.2 7 (by decide) (by decide), hx.2.2 8 (by decide) (by decide), hx.2.2 9 (by decide) (by decide)⟩) (fun S1 g => ?_)
  have g : RV G E S1 (reS1 q x.toInt.toNat y.toInt.toNat) := g
  rw [if_neg ny]
  refine rv_c g ?_
  refine wq_call (stb_w g hx hb) (fun r hr => ?_)
  delta hm_RE_goOnResume_L80
  exact ⟨_, rfl, hr⟩
theorem gr_6 (h : RV G E S q) (hx : rvN E x) (hk : vR E 0 x.toInt.toNat = 6) (hy : rvN E y) : dc_wp (hm_RE_goOnResume G S (vO E) x y) (fun r => ((reS1 q x.toInt.toNat y.toInt.toNat).1 7 x.toInt.toNat &&& 1 = 0 ∧ r.2 = -1 ∧ RV G E r.1 (reS1 q x.toInt.toNat y.toInt.toNat)) ∨ (¬ (reS1 q x.toInt.toNat y.toInt.toNat).1 7 x.toInt.toNat &&& 1 = 0 ∧ r.2 = y ∧ RV G E r.1 (reSB E (reS1 q x.toInt.toNat y.toInt.toNat) x.toInt.toNat y))) := by
  delta hm_RE_goOnResume
  refine rv_p h ?_
  refine rv_a h (j := 2) (by decide) rfl ?_
  refine rv_d h (by decide) (by decide) hx.1 (hx.2.1 2 (by decide)) ?_
  refine rv_p h ?_
  refine rv_a h (j := 0) (by decide) rfl ?_
  refine rv_d h (by decide) (by decide) hx.1 (hx.2.1 0 (by decide)) ?_
  rw [hk]
  refine wq_let (fun v ev => ?_)
  subst ev
  rw [if_neg (by decide), if_neg (by decide), if_pos rfl]
  refine rv_g h (by decide) (by decide) ?_
  refine rv_l h (by decide) (by decide) rfl hy.1 (hy.2.2 7 (by decide) (by decide)) ?_
  refine rv_g h (by decide) (by decide) ?_
  refine rv_l h (by decide) (by decide) rfl hy.1 (hy.2.2 8 (by decide) (by decide)) ?_
  refine rv_c h ?_
  refine wq_call (an_w h hx.1 ⟨hx.2.2 7 (by decide) (by decide), hx.2.2 8 (by decide) (by decide), hx.2.2 9 (by decide) (by decide)⟩) (fun S1 g => ?_)
  have g : RV G E S1 (reS1 q x.toInt.toNat y.toInt.toNat) := g
  refine rv_c g ?_
  exact wq_call (stb_w g hx hy) (fun r hr => ⟨_, rfl, hr⟩)
theorem gr_7b (h : RV G E S q) (hx : rvN E x) (hk : vR E 0 x.toInt.toNat = 7) (ha : rvN E (vR E 1 x.toInt.toNat)) (hb : rvN E (vR E 2 x.toInt.toNat)) (ey : y = vR E 2 x.toInt.toNat) : dc_wp (hm_RE_goOnResume G S (vO E) x y) (fun r => r.2 = -1 ∧ RV G E r.1 (reCb q x.toInt.toNat (vR E 1 x.toInt.toNat).toInt.toNat (vR E 2 x.toInt.toNat).toInt.toNat)) := by
  delta hm_RE_goOnResume
  refine rv_p h ?_
  refine rv_a h (j := 2) (by decide) rfl ?_
  refine rv_d h (by decide) (by decide) hx.1 (hx.2.1 2 (by decide)) ?_
  refine rv_p h ?_
  refine rv_a h (j := 0) (by decide) rfl ?_
  refine rv_d h (by decide) (by decide) hx.1 (hx.2.1 0 (by decide)) ?_
  rw [hk]
  refine wq_let (fun v ev => ?_)
  subst ev
  rw [if_neg (by decide), if_neg (by decide), if_neg (by decide), if_pos rfl]
  rw [if_pos ey]
  delta hm_RE_goOnResume_L130
  refine rv_c h ?_
  exact wq_call (cb_r h hx ha hb) (fun S1 g => ⟨_, rfl, rfl, g⟩)
theorem gr_7a (h : RV G E S q) (hx : rvN E x) (hk : vR E 0 x.toInt.toNat = 7) (h9 : q.1 9 x.toInt.toNat = 0 ∨ q.1 9 x.toInt.toNat = 1) (ha : rvN E (vR E 1 x.toInt.toNat)) (hb : rvN E (vR E 2 x.toInt.toNat)) (hh : dc_wp (hm_RE_isHeld G S (vO E) (vR E 2 x.toInt.toNat)) (fun r => (hdC E q (vR E 2 x.toInt.toNat).toInt.toNat ∧ r = 1) ∨ (¬ hdC E q (vR E 2 x.toInt.toNat).toInt.toNat ∧ r = 0))) (ny : ¬ y = vR E 2 x.toInt.toNat) : dc_wp (hm_RE_goOnResume G S (vO E) x y) (fun r => (hdC E q (vR E 2 x.toInt.toNat).toInt.toNat ∧ r.2 = vR E 2 x.toInt.toNat ∧ RV G E r.1 (uX q 9 (vR E 2 x.toInt.toNat).toInt.toNat (q.1 9 x.toInt.toNat))) ∨ (¬ hdC E q (vR E 2 x.toInt.toNat).toInt.toNat ∧ r.2 = -1 ∧ RV G E r.1 (reCb q x.toInt.toNat (vR E 1 x.toInt.toNat).toInt.toNat (vR E 2 x.toInt.toNat).toInt.toNat))) := by
  delta hm_RE_goOnResume
  refine rv_p h ?_
  refine rv_a h (j := 2) (by decide) rfl ?_
  refine rv_d h (by decide) (by decide) hx.1 (hx.2.1 2 (by decide)) ?_
  refine rv_p h ?_
  refine rv_a h (j := 0) (by decide) rfl ?_
  refine rv_d h (by decide) (by decide) hx.1 (hx.2.1 0 (by decide)) ?_
  rw [hk]
  refine wq_let (fun v ev => ?_)
  subst ev
  rw [if_neg (by decide), if_neg (by decide), if_neg (by decide), if_pos rfl]
  rw [if_neg ny]
  refine rv_c h ?_
  refine wq_call hh (fun r hr => ?_)
  rcases hr with ⟨hd, e⟩ | ⟨hd, e⟩
  · rw [if_neg (by rw [e]; decide)]
    refine rv_g h (by decide) (by decide) ?_
    refine rv_l h (by decide) (by decide) rfl hx.1 (hx.2.2 9 (by decide) (by decide)) ?_
    refine rv_c h ?_
    refine wq_call (wi_w h hb.1 (hb.2.2 9 (by decide) (by decide)) h9) (fun r g => ?_)
    exact ⟨_, rfl, Or.inl ⟨hd, g.1, g.2⟩⟩
  · rw [if_pos e]
    delta hm_RE_goOnResume_L130
    refine rv_c h ?_
    exact wq_call (cb_r h hx ha hb) (fun S1 g => ⟨_, rfl, Or.inr ⟨hd, rfl, g⟩⟩)
theorem gr_3 (h : RV G E S q) (hx : rvN E x) (hk : vR E 0 x.toInt.toNat = 3) (hcs : dc_wp (hm_RE_closeSingle G S (vO E) x y) (fun S' => RV G E S' (reCs E q x.toInt.toNat y.toInt.toNat))) : dc_wp (hm_RE_goOnResume G S (vO E) x y) (fun r => r.2 = -1 ∧ RV G E r.1 (reCs E q x.toInt.toNat y.toInt.toNat)) := by
  delta hm_RE_goOnResume
  refine rv_p h ?_
  refine rv_a h (j := 2) (by decide) rfl ?_
  refine rv_d h (by decide) (by decide) hx.1 (hx.2.1 2 (by decide)) ?_
  refine rv_p h ?_
  refine rv_a h (j := 0) (by decide) rfl ?_
  refine rv_d h (by decide) (by decide) hx.1 (hx.2.1 0 (by decide)) ?_
  rw [hk]
  refine wq_let (fun v ev => ?_)
  subst ev
  rw [if_neg (by decide), if_neg (by decide), if_neg (by decide), if_neg (by decide)]
  refine rv_c h ?_
  exact wq_call hcs (fun S1 g => ⟨_, rfl, rfl, g⟩)
theorem gr_8 (h : RV G E S q) (hx : rvN E x) (hk : vR E 0 x.toInt.toNat = 8) (hcs : dc_wp (hm_RE_closeSingle G S (vO E) x y) (fun S' => RV G E S' (reCs E q x.toInt.toNat y.toInt.toNat))) : dc_wp (hm_RE_goOnResume G S (vO E) x y) (fun r => r.2 = -1 ∧ RV G E r.1 (reCs E q x.toInt.toNat y.toInt.toNat)) := by
  delta hm_RE_goOnResume
  refine rv_p h ?_
  refine rv_a h (j := 2) (by decide) rfl ?_
  refine rv_d h (by decide) (by decide) hx.1 (hx.2.1 2 (by decide)) ?_
  refine rv_p h ?_
  refine rv_a h (j := 0) (by decide) rfl ?_
  refine rv_d h (by decide) (by decide) hx.1 (hx.2.1 0 (by decide)) ?_
  rw [hk]
  refine wq_let (fun v ev => ?_)
  subst ev
  rw [if_neg (by decide), if_neg (by decide), if_neg (by decide), if_neg (by decide)]
  refine rv_c h ?_
  exact wq_call hcs (fun S1 g => ⟨_, rfl, rfl, g⟩)
theorem gr_10 (h : RV G E S q) (hx : rvN E x) (hk : vR E 0 x.toInt.toNat = 10) (hcs : dc_wp (hm_RE_closeSingle G S (vO E) x y) (fun S' => RV G E S' (reCs E q x.toInt.toNat y.toInt.toNat))) : dc_wp (hm_RE_goOnResume G S (vO E) x y) (fun r => r.2 = -1 ∧ RV G E r.1 (reCs E q x.toInt.toNat y.toInt.toNat)) := by
  delta hm_RE_goOnResume
  refine rv_p h ?_
  refine rv_a h (j := 2) (by decide) rfl ?_
  refine rv_d h (by decide) (by decide) hx.1 (hx.2.1 2 (by decide)) ?_
  refine rv_p h ?_
  refine rv_a h (j := 0) (by decide) rfl ?_
  refine rv_d h (by decide) (by decide) hx.1 (hx.2.1 0 (by decide)) ?_
  rw [hk]
  refine wq_let (fun v ev => ?_)
  subst ev
  rw [if_neg (by decide), if_neg (by decide), if_neg (by decide), if_neg (by decide)]
  refine rv_c h ?_
  exact wq_call hcs (fun S1 g => ⟨_, rfl, rfl, g⟩)
end RBR
