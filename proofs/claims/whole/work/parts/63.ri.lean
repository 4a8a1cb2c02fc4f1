/-! what holds while the reference reads; written by wip/gen/spec_md.py -/
def sb_nm (n tp : Int32) (na ns : Nat → Int32) : Prop := ∀ i : Nat, (i : Int) < n.toInt → 0 ≤ (na i).toInt ∧ 0 ≤ (ns i).toInt ∧ (ns i).toInt ≤ 31 ∧ (na i).toInt + (ns i).toInt ≤ tp.toInt
def sb_sc (c n : Int32) (sp : Nat → Int32) : Prop := ∀ i : Nat, (i : Int) < c.toInt → 0 ≤ (sp i).toInt ∧ (sp i).toInt < n.toInt
def sb_RI (tp at_ ln so fr lo fa op nm sc ts bu pi : Int32) (na ns sp ta tz : Nat → Int32) : Prop :=
  ((0 ≤ fr ∧ fr ≤ at_ ∧ at_ ≤ tp ∧ tp ≤ 32768) ∧ (¬ so = 0 → fr < at_) ∧ (so = 1 → at_ - fr ≤ 31) ∧ (1 ≤ ln ∧ ln ≤ at_ + 1 ∧ 1 ≤ lo ∧ lo ≤ 32769)) ∧
  ((0 ≤ nm ∧ nm ≤ 16385 ∧ 2 * nm ≤ fr + 1 ∧ 0 ≤ sc ∧ sc ≤ nm) ∧ sb_nm nm tp na ns ∧ sb_sc sc nm sp) ∧
  ((0 ≤ fa ∧ 0 ≤ ts ∧ ts ≤ op ∧ op ≤ 25) ∧ (fa = 0 → op ≤ 24) ∧ sb_nm ts tp ta tz) ∧ (0 ≤ bu ∧ bu ≤ 1200 ∧ 0 ≤ pi ∧ pi ≤ 1000)
section SBRI
variable {tp at_ ln so fr lo fa op nm sc ts bu pi : Int32} {na ns sp ta tz : Nat → Int32}
theorem sb_RI_adv {at2 ln2 so2 fr2 lo2 : Int32} (h : sb_RI tp at_ ln so fr lo fa op nm sc ts bu pi na ns sp ta tz) (a0 : at_ ≤ fr2) (a1 : fr2 ≤ at2) (a2 : at2 ≤ tp) (a3 : ¬ so2 = 0 → fr2 < at2) (a4 : so2 = 1 → at2 - fr2 ≤ 31) (a5 : 1 ≤ ln2) (a6 : ln2 ≤ at2 + 1) (a7 : 1 ≤ lo2) (a8 : lo2 ≤ 32769) : sb_RI tp at2 ln2 so2 fr2 lo2 fa op nm sc ts bu pi na ns sp ta tz := by
  obtain ⟨⟨⟨b0, b1, b2, b3⟩, b4, b5, b6, b7, b8, b9⟩, ⟨⟨c0, c1, c2, c3, c4⟩, c5, c6⟩, d, e⟩ := h
  refine ⟨⟨⟨?_, a1, a2, b3⟩, a3, a4, a5, a6, a7, a8⟩, ⟨⟨c0, c1, ?_, c3, c4⟩, c5, c6⟩, d, e⟩
  · simp only [i_le, i_lt, i_eq, a_add, a_sub, a_mul, il_0] at *; omega
  · simp only [i_le, i_lt, i_eq, a_add, a_sub, a_mul, il_0, il_1, il_2, il_16385, il_32768] at *; omega
theorem sb_RI_fa {fa2 : Int32} (h : sb_RI tp at_ ln so fr lo fa op nm sc ts bu pi na ns sp ta tz) (a : 0 < fa2) : sb_RI tp at_ ln so fr lo fa2 op nm sc ts bu pi na ns sp ta tz := by
  obtain ⟨b, c, ⟨⟨d0, d1, d2, d3⟩, d4, d5⟩, e⟩ := h
  exact ⟨b, c, ⟨⟨Int32.le_of_lt a, d1, d2, d3⟩, fun h => by rw [h] at a; exact absurd a (by decide), d5⟩, e⟩
theorem sb_RI_op {op2 : Int32} (h : sb_RI tp at_ ln so fr lo fa op nm sc ts bu pi na ns sp ta tz) (a : ts ≤ op2) (b : op2 ≤ 25) (c : fa = 0 → op2 ≤ 24) : sb_RI tp at_ ln so fr lo fa op2 nm sc ts bu pi na ns sp ta tz := by
  obtain ⟨b', c', ⟨⟨d0, d1, d2, d3⟩, d4, d5⟩, e⟩ := h
  exact ⟨b', c', ⟨⟨d0, d1, a, b⟩, c, d5⟩, e⟩
theorem sb_RI_bp {bu2 pi2 : Int32} (h : sb_RI tp at_ ln so fr lo fa op nm sc ts bu pi na ns sp ta tz) (a : 0 ≤ bu2) (b : bu2 ≤ 1200) (c : 0 ≤ pi2) (d : pi2 ≤ 1000) : sb_RI tp at_ ln so fr lo fa op nm sc ts bu2 pi2 na ns sp ta tz :=
  ⟨h.1, h.2.1, h.2.2.1, a, b, c, d⟩
theorem sb_RI_sc {sc2 : Int32} (h : sb_RI tp at_ ln so fr lo fa op nm sc ts bu pi na ns sp ta tz) (a : 0 ≤ sc2) (b : sc2 ≤ sc) : sb_RI tp at_ ln so fr lo fa op nm sc2 ts bu pi na ns sp ta tz := by
  obtain ⟨b', ⟨⟨c0, c1, c2, c3, c4⟩, c5, c6⟩, d, e⟩ := h
  exact ⟨b', ⟨⟨c0, c1, c2, a, Int32.le_trans b c4⟩, c5, fun i hi => c6 i (by have := i_le.mp b; omega)⟩, d, e⟩
theorem sb_RI_ts {ts2 : Int32} (h : sb_RI tp at_ ln so fr lo fa op nm sc ts bu pi na ns sp ta tz) (a : 0 ≤ ts2) (b : ts2 ≤ ts) : sb_RI tp at_ ln so fr lo fa op nm sc ts2 bu pi na ns sp ta tz := by
  obtain ⟨b', c', ⟨⟨d0, d1, d2, d3⟩, d4, d5⟩, e⟩ := h
  exact ⟨b', c', ⟨⟨d0, a, Int32.le_trans b d2, d3⟩, d4, fun i hi => d5 i (by have := i_le.mp b; omega)⟩, e⟩
theorem sb_RI_lex (h : sb_RI tp at_ ln so fr lo fa op nm sc ts bu pi na ns sp ta tz) : 0 ≤ fr ∧ fr ≤ at_ ∧ at_ ≤ tp ∧ tp ≤ 32768 ∧ (¬ so = 0 → fr < at_) ∧ (so = 1 → at_ - fr ≤ 31) ∧ 1 ≤ ln ∧ ln ≤ at_ + 1 ∧ 1 ≤ lo ∧ lo ≤ 32769 :=
  ⟨h.1.1.1, h.1.1.2.1, h.1.1.2.2.1, h.1.1.2.2.2, h.1.2.1, h.1.2.2.1, h.1.2.2.2⟩
theorem sb_RI_num (h : sb_RI tp at_ ln so fr lo fa op nm sc ts bu pi na ns sp ta tz) : 0 ≤ fr ∧ fr ≤ 32768 ∧ 0 ≤ nm ∧ nm ≤ 16385 ∧ 2 * nm ≤ fr + 1 ∧ 0 ≤ sc ∧ sc ≤ nm := ⟨h.1.1.1, Int32.le_trans h.1.1.2.1 (Int32.le_trans h.1.1.2.2.1 h.1.1.2.2.2), h.2.1.1⟩
theorem sb_RI_opn (h : sb_RI tp at_ ln so fr lo fa op nm sc ts bu pi na ns sp ta tz) : 0 ≤ fa ∧ 0 ≤ ts ∧ ts ≤ op ∧ op ≤ 25 ∧ (fa = 0 → op ≤ 24) := ⟨h.2.2.1.1.1, h.2.2.1.1.2.1, h.2.2.1.1.2.2.1, h.2.2.1.1.2.2.2, h.2.2.1.2.1⟩
theorem sb_RI_bld (h : sb_RI tp at_ ln so fr lo fa op nm sc ts bu pi na ns sp ta tz) : 0 ≤ bu ∧ bu ≤ 1200 ∧ 0 ≤ pi ∧ pi ≤ 1000 := h.2.2.2
theorem sb_nm_at {n x : Int32} {j : Nat} (h : sb_nm n tp na ns) (h0 : 0 ≤ x) (h1 : x < n) (hj : j = x.toNatClampNeg) : 0 ≤ (na j).toInt ∧ 0 ≤ (ns j).toInt ∧ (ns j).toInt ≤ 31 ∧ (na j).toInt + (ns j).toInt ≤ tp.toInt := by
  have a := i_nat (i_le.mp h0); have b := i_lt.mp h1
  exact h j (by omega)
theorem sb_sc_at {c n x : Int32} {j : Nat} (h : sb_sc c n sp) (h0 : 0 ≤ x) (h1 : x < c) (hj : j = x.toNatClampNeg) : 0 ≤ sp j ∧ sp j < n := by
  have a := i_nat (i_le.mp h0); have b := i_lt.mp h1
  have := h j (by omega)
  exact ⟨i_le.mpr this.1, i_lt.mpr this.2⟩
theorem sb_nm_new {n x y : Int32} {j : Nat} (h : sb_nm n tp na ns) (hn : 0 ≤ n) (hn2 : n ≤ 100000) (hj : j = n.toNatClampNeg) (h0 : 0 ≤ x.toInt) (h1 : 0 ≤ y.toInt) (h2 : y.toInt ≤ 31) (h3 : x.toInt + y.toInt ≤ tp.toInt) : sb_nm (n + 1) tp (upd na j x) (upd ns j y) := by
  have a := i_nat (i_le.mp hn); have b := i_le.mp hn2; have b3 := i_le.mp hn
  rw [il_100000] at b; rw [il_0] at b3
  have e : (n + 1).toInt = n.toInt + 1 := by rw [a_add, il_1]; omega
  intro i hi
  unfold upd
  by_cases c : i = j
  · simp only [if_pos c]; exact ⟨h0, h1, h2, h3⟩
  · simp only [if_neg c]; exact h i (by omega)
theorem sb_sc_new {c n : Int32} {j : Nat} (h : sb_sc c n sp) (hc : 0 ≤ c) (hcn : c ≤ n) (hn2 : n ≤ 100000) (hj : j = c.toNatClampNeg) : sb_sc (c + 1) (n + 1) (upd sp j n) := by
  have a := i_nat (i_le.mp hc); have b := i_le.mp hn2; have b2 := i_le.mp hcn; have b3 := i_le.mp hc
  rw [il_100000] at b; rw [il_0] at b3
  have e : (n + 1).toInt = n.toInt + 1 := by rw [a_add, il_1]; omega
  have e2 : (c + 1).toInt = c.toInt + 1 := by rw [a_add, il_1]; omega
  intro i hi
  unfold upd
  by_cases d : i = j
  · simp only [if_pos d]; omega
  · simp only [if_neg d]; have := h i (by omega); omega
end SBRI
theorem mm_advance_R (S0 : md_S) (h : sb_RI (S0.1 2) (S0.1 4) (S0.1 5) (S0.1 6) (S0.1 7) (S0.1 8) (S0.1 10) (S0.1 11) (S0.1 15) (S0.1 18) (S0.1 19) (S0.1 27) (S0.1 28) (S0.2.1 21) (S0.2.1 22) (S0.2.1 23) (S0.2.1 24) (S0.2.1 25)) : dc_wp (mm_advance S0) (fun q => (sb_RI (q.1 2) (q.1 4) (q.1 5) (q.1 6) (q.1 7) (q.1 8) (q.1 10) (q.1 11) (q.1 15) (q.1 18) (q.1 19) (q.1 27) (q.1 28) (q.2.1 21) (q.2.1 22) (q.2.1 23) (q.2.1 24) (q.2.1 25)) ∧ S0.1 7 ≤ q.1 7 ∧ (¬ S0.1 6 = 0 → S0.1 7 < q.1 7)) := by
  obtain ⟨b0, b1, b2, b3, b4, b5, b6, b7, b8, b9⟩ := sb_RI_lex h
  refine dc_mono (dc_wpw (mm_advance_s S0 (Int32.le_trans b0 b1) b2 b3 b6 b7) (mm_advance_fr S0)) ?_
  rintro q ⟨⟨c0, c1, c2, c3, c4, c5, c6, c7, c8⟩, hf⟩
  have e := fun k (hk : k ∉ [4, 5, 6, 7, 8]) => hf.1 k hk
  refine ⟨?_, ?_, ?_⟩
  · rw [e 2 (by decide), e 10 (by decide), e 11 (by decide), e 15 (by decide), e 18 (by decide), e 19 (by decide), e 27 (by decide), e 28 (by decide), hf.2.1 21 (by decide), hf.2.1 22 (by decide), hf.2.1 23 (by decide), hf.2.1 24 (by decide), hf.2.1 25 (by decide)]
    exact sb_RI_adv h c0 c1 c2 c3 c4 c5 c6 c7 c8
  · exact Int32.le_trans b1 c0
  · intro d
    have := b4 d
    simp only [i_le, i_lt] at *
    omega

