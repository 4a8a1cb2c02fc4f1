/-! the class's reactor: the steps of goThrough -/
theorem itq_1 {α β : Type} {step : α → Option (α ⊕ β)} {x : α} {F : β → Prop} (h : dc_wp (step x) (Sum.elim (fun y => dc_wp (dc_it step y) F) F)) : dc_wp (dc_it step x) F := by
  rw [dc_it_eq]
  obtain ⟨r, e, p⟩ := h
  rw [e]
  cases r with
  | inl y => exact p
  | inr z => exact ⟨_, rfl, p⟩
/-- the bound of steps -/
def gtK (E : rvP) (N : Nat) : Prop := ∃ W : Nat, vC E 4 = Int32.ofNat W ∧ N = 4 * W ∧ N ≤ 1000000
section GTS
variable {G : hg_E} {E : rvP} {S : hg_S} {q : rsT} {x2 x3 : Int32} {n N : Nat} {F : hg_S ⊕ hg_S → Prop}
theorem gt_lt (h : gtK E N) (hn : n < N) : Int32.ofNat n < 4 * vC E 4 := by
  obtain ⟨W, e, eN, hN⟩ := h
  rw [e]
  have e4 : (4 : Int32) * Int32.ofNat W = Int32.ofNat N := by
    rw [eN, Int32.ofNat_mul]
    rfl
  rw [e4]
  refine i_lt.mpr ?_
  rw [Int32.toInt_ofNat_of_lt (by omega), Int32.toInt_ofNat_of_lt (by omega)]
  omega
noncomputable abbrev gtS (G : hg_E) (E : rvP) : hg_S × Int32 × Int32 × Int32 → Option ((hg_S × Int32 × Int32 × Int32) ⊕ (hg_S ⊕ hg_S)) := hm_RE_goThrough_s40 G (vO E)

theorem gt_bs (h : RV G E S q) (hK : gtK E N) (hn : n < N) (hc : ¬ x3 = -1) (hs : ¬ q.2 15 = 0) (hb : dc_wp (hm_RE_beginStart G S (vO E) x3) (fun r => dc_wp (dc_it (gtS G E) (r.1, x3, r.2, Int32.ofNat (n + 1))) F)) : dc_wp (dc_it (gtS G E) (S, x2, x3, Int32.ofNat n)) F := by
  refine itq_1 ?_
  show dc_wp (hm_RE_goThrough_b40 G S (vO E) x2 x3 (Int32.ofNat n)) _
  delta hm_RE_goThrough_b40
  refine rv_p h ?_
  refine rv_n h (j := 4) (by decide) (by decide) ?_
  rw [if_pos (gt_lt hK hn)]
  rw [if_neg hc]
  refine rv_i h (by decide) (by decide) ?_
  rw [if_neg hs]
  refine rv_c h ?_
  refine wq_call hb (fun r hr => ?_)
  refine ⟨_, rfl, ?_⟩
  show dc_wp (dc_it (gtS G E) (r.1, x3, r.2, Int32.ofNat n + 1)) F
  rw [ad_m (by obtain ⟨W, e, eN, hN⟩ := hK; omega)]
  exact hr

theorem gt_br (h : RV G E S q) (hK : gtK E N) (hn : n < N) (hc : ¬ x3 = -1) (hs : q.2 15 = 0) (hb : dc_wp (hm_RE_beginResume G S (vO E) x3) (fun r => dc_wp (dc_it (gtS G E) (r.1, x3, r.2, Int32.ofNat (n + 1))) F)) : dc_wp (dc_it (gtS G E) (S, x2, x3, Int32.ofNat n)) F := by
  refine itq_1 ?_
  show dc_wp (hm_RE_goThrough_b40 G S (vO E) x2 x3 (Int32.ofNat n)) _
  delta hm_RE_goThrough_b40
  refine rv_p h ?_
  refine rv_n h (j := 4) (by decide) (by decide) ?_
  rw [if_pos (gt_lt hK hn)]
  rw [if_neg hc]
  refine rv_i h (by decide) (by decide) ?_
  rw [if_pos hs]
  refine rv_c h ?_
  refine wq_call hb (fun r hr => ?_)
  refine ⟨_, rfl, ?_⟩
  show dc_wp (dc_it (gtS G E) (r.1, x3, r.2, Int32.ofNat n + 1)) F
  rw [ad_m (by obtain ⟨W, e, eN, hN⟩ := hK; omega)]
  exact hr

theorem gt_cb (h : RV G E S q) (hK : gtK E N) (hn : n < N) (hx : rvN E x2) (hc : x3 = -1) (h0 : ¬ x2 = 0) (h6 : x2 = q.2 16) (hb : dc_wp (hm_RE_comeBack G S (vO E) (vR E 3 x2.toInt.toNat) x2) (fun r => dc_wp (dc_it (gtS G E) (r.1, vR E 3 x2.toInt.toNat, r.2, Int32.ofNat (n + 1))) F)) : dc_wp (dc_it (gtS G E) (S, x2, x3, Int32.ofNat n)) F := by
  refine itq_1 ?_
  show dc_wp (hm_RE_goThrough_b40 G S (vO E) x2 x3 (Int32.ofNat n)) _
  delta hm_RE_goThrough_b40
  refine rv_p h ?_
  refine rv_n h (j := 4) (by decide) (by decide) ?_
  rw [if_pos (gt_lt hK hn)]
  rw [if_pos hc, if_neg h0]
  refine rv_p h ?_
  refine rv_a h (j := 3) (by decide) rfl ?_
  refine rv_d h (by decide) (by decide) hx.1 (hx.2.1 3 (by decide)) ?_
  refine rv_i h (by decide) (by decide) ?_
  rw [if_pos h6]
  refine rv_c h ?_
  refine wq_call hb (fun r hr => ?_)
  refine ⟨_, rfl, ?_⟩
  show dc_wp (dc_it (gtS G E) (r.1, vR E 3 x2.toInt.toNat, r.2, Int32.ofNat n + 1)) F
  rw [ad_m (by obtain ⟨W, e, eN, hN⟩ := hK; omega)]
  exact hr

theorem gt_gs (h : RV G E S q) (hK : gtK E N) (hn : n < N) (hx : rvN E x2) (hc : x3 = -1) (h0 : ¬ x2 = 0) (h6 : ¬ x2 = q.2 16) (hs : ¬ q.2 15 = 0) (hb : dc_wp (hm_RE_goOnStart G S (vO E) (vR E 3 x2.toInt.toNat) x2) (fun r => dc_wp (dc_it (gtS G E) (r.1, vR E 3 x2.toInt.toNat, r.2, Int32.ofNat (n + 1))) F)) : dc_wp (dc_it (gtS G E) (S, x2, x3, Int32.ofNat n)) F := by
  refine itq_1 ?_
  show dc_wp (hm_RE_goThrough_b40 G S (vO E) x2 x3 (Int32.ofNat n)) _
  delta hm_RE_goThrough_b40
  refine rv_p h ?_
  refine rv_n h (j := 4) (by decide) (by decide) ?_
  rw [if_pos (gt_lt hK hn)]
  rw [if_pos hc, if_neg h0]
  refine rv_p h ?_
  refine rv_a h (j := 3) (by decide) rfl ?_
  refine rv_d h (by decide) (by decide) hx.1 (hx.2.1 3 (by decide)) ?_
  refine rv_i h (by decide) (by decide) ?_
  rw [if_neg h6]
  refine rv_i h (by decide) (by decide) ?_
  rw [if_neg hs]
  refine rv_c h ?_
  refine wq_call hb (fun r hr => ?_)
  refine ⟨_, rfl, ?_⟩
  show dc_wp (dc_it (gtS G E) (r.1, vR E 3 x2.toInt.toNat, r.2, Int32.ofNat n + 1)) F
  rw [ad_m (by obtain ⟨W, e, eN, hN⟩ := hK; omega)]
  exact hr

theorem gt_gr (h : RV G E S q) (hK : gtK E N) (hn : n < N) (hx : rvN E x2) (hc : x3 = -1) (h0 : ¬ x2 = 0) (h6 : ¬ x2 = q.2 16) (hs : q.2 15 = 0) (hb : dc_wp (hm_RE_goOnResume G S (vO E) (vR E 3 x2.toInt.toNat) x2) (fun r => dc_wp (dc_it (gtS G E) (r.1, vR E 3 x2.toInt.toNat, r.2, Int32.ofNat (n + 1))) F)) : dc_wp (dc_it (gtS G E) (S, x2, x3, Int32.ofNat n)) F := by
  refine itq_1 ?_
  show dc_wp (hm_RE_goThrough_b40 G S (vO E) x2 x3 (Int32.ofNat n)) _
  delta hm_RE_goThrough_b40
  refine rv_p h ?_
  refine rv_n h (j := 4) (by decide) (by decide) ?_
  rw [if_pos (gt_lt hK hn)]
  rw [if_pos hc, if_neg h0]
  refine rv_p h ?_
  refine rv_a h (j := 3) (by decide) rfl ?_
  refine rv_d h (by decide) (by decide) hx.1 (hx.2.1 3 (by decide)) ?_
  refine rv_i h (by decide) (by decide) ?_
  rw [if_neg h6]
  refine rv_i h (by decide) (by decide) ?_
  rw [if_pos hs]
  refine rv_c h ?_
  refine wq_call hb (fun r hr => ?_)
  refine ⟨_, rfl, ?_⟩
  show dc_wp (dc_it (gtS G E) (r.1, vR E 3 x2.toInt.toNat, r.2, Int32.ofNat n + 1)) F
  rw [ad_m (by obtain ⟨W, e, eN, hN⟩ := hK; omega)]
  exact hr

theorem gt_en (h : RV G E S q) (hK : gtK E N) (hn : n < N) (hc : x3 = -1) (h0 : x2 = 0) (hF : F (.inl S)) : dc_wp (dc_it (gtS G E) (S, x2, x3, Int32.ofNat n)) F := by
  refine itq_1 ?_
  show dc_wp (hm_RE_goThrough_b40 G S (vO E) x2 x3 (Int32.ofNat n)) _
  delta hm_RE_goThrough_b40
  refine rv_p h ?_
  refine rv_n h (j := 4) (by decide) (by decide) ?_
  rw [if_pos (gt_lt hK hn)]
  rw [if_pos hc, if_pos h0]
  exact ⟨_, rfl, hF⟩
end GTS
