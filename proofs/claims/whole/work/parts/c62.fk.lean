/-! the reference's reader: a fault once set stays; written by wip/gen/fk.py -/
section MDFK
variable {c : Int32} {S : md_S} {τ : Type} {F : τ → Prop} {f : md_S → Option τ}
theorem pwK_i {k : Nat} {v : Int32} (hk : ¬ 10 = k) (hf : S.1 10 = c) (kk : ∀ S1 : md_S, S1.1 10 = c → dc_pw (f S1) F) : dc_pw (dc_let (md_i S k v) f) F :=
  kk (md_i S k v) ((if_neg hk).trans hf)
theorem pwK_a {k i : Nat} {v : Int32} (hf : S.1 10 = c) (kk : ∀ S1 : md_S, S1.1 10 = c → dc_pw (f S1) F) : dc_pw (dc_let (md_a S k i v) f) F := kk (md_a S k i v) hf
theorem pwK_w {v : Int64} (hf : S.1 10 = c) (kk : ∀ S1 : md_S, S1.1 10 = c → dc_pw (f S1) F) : dc_pw (dc_let (md_w S v) f) F := kk (md_w S v) hf
theorem pwK_t {i : Nat} {v : Int64} (hf : S.1 10 = c) (kk : ∀ S1 : md_S, S1.1 10 = c → dc_pw (f S1) F) : dc_pw (dc_let (md_t S i v) f) F := kk (md_t S i v) hf
theorem pwK_call {ρ : Type} {E : Option (md_S × ρ)} {g : md_S × ρ → Option τ} (h : dc_pw E (fun q => q.1.1 10 = c)) (kk : ∀ q : md_S × ρ, q.1.1 10 = c → dc_pw (g q) F) : dc_pw (E.bind g) F := pw_bind h kk
theorem pwK_callv {E : Option md_S} {g : md_S → Option τ} (h : dc_pw E (fun q => q.1 10 = c)) (kk : ∀ q : md_S, q.1 10 = c → dc_pw (g q) F) : dc_pw (E.bind g) F := pw_bind h kk
end MDFK
theorem mm_fail_fk {c : Int32} (hc : ¬ c = 0) (S : md_S) (p1 p2 : Int32) (hf : S.1 10 = c) : dc_pw (mm_fail S p1 p2) (fun q => q.1 10 = c) := by
  delta mm_fail
  rw [if_neg (fun z => hc (hf.symm.trans z))]
  delta mm_fail_L17
  exact pw_some hf

theorem mm_advance_L371_fk {c : Int32} (hc : ¬ c = 0) (S : md_S) (y0 : Int64) (hf : S.1 10 = c) : dc_pw (mm_advance_L371 S y0) (fun q => q.1 10 = c) := by
  delta mm_advance_L371
  refine pwK_w hf ?_
  intro S1 hf
  exact pw_some hf
theorem mm_advance_L345_fk {c : Int32} (hc : ¬ c = 0) (S : md_S) (x2 : Int32) (y0 : Int32) (y1 : Int32) (hf : S.1 10 = c) : dc_pw (mm_advance_L345 S x2 y0 y1) (fun q => q.1 10 = c) := by
  delta mm_advance_L345
  refine pwK_i (by decide) hf ?_
  intro S2 hf
  refine pw_if ?_ ?_
  · exact mm_advance_L371_fk hc S2 256 hf
  · exact mm_advance_L371_fk hc S2 (Int32.toInt64 x2) hf
theorem mm_advance_L344_fk {c : Int32} (hc : ¬ c = 0) (S : md_S) (x2 : Int32) (y0 : Int32) (hf : S.1 10 = c) : dc_pw (mm_advance_L344 S x2 y0) (fun q => q.1 10 = c) := by
  delta mm_advance_L344
  exact mm_advance_L345_fk hc S x2 1 y0 hf
theorem mm_advance_L310_fk {c : Int32} (hc : ¬ c = 0) (S : md_S) (y0 : Int32) (hf : S.1 10 = c) : dc_pw (mm_advance_L310 S y0) (fun q => q.1 10 = c) := by
  delta mm_advance_L310
  refine pwK_i (by decide) hf ?_
  intro S3 hf
  exact pw_some hf
theorem mm_advance_L290_fk {c : Int32} (hc : ¬ c = 0) (S : md_S) (hf : S.1 10 = c) : dc_pw (mm_advance_L290 S) (fun q => q.1 10 = c) := by
  delta mm_advance_L290
  refine pw_if ?_ ?_
  · exact mm_advance_L310_fk hc S 3 hf
  · exact mm_advance_L310_fk hc S 1 hf
theorem mm_advance_L274_fk {c : Int32} (hc : ¬ c = 0) (S : md_S) (y0 : Int64) (hf : S.1 10 = c) : dc_pw (mm_advance_L274 S y0) (Sum.elim (fun (q : md_S) => q.1 10 = c) (fun (q : md_S) => q.1 10 = c)) := by
  delta mm_advance_L274
  refine pwK_w hf ?_
  intro S4 hf
  refine pwK_i (by decide) hf ?_
  intro S5 hf
  exact pw_some hf
theorem mm_advance_b222_fk {c : Int32} (hc : ¬ c = 0) (S : md_S) (hf : S.1 10 = c) : dc_pw (mm_advance_b222 S) (Sum.elim (fun (q : md_S) => q.1 10 = c) (fun (q : md_S) => q.1 10 = c)) := by
  delta mm_advance_b222
  refine pw_any ?_
  intro q6
  refine pw_any ?_
  intro q7
  refine pw_if ?_ ?_
  · exact pw_some hf
  · refine pw_if ?_ ?_
    · refine pw_any ?_
      intro q8
      exact mm_advance_L274_fk hc S ((S.2.2.1 <<< (Int32.toInt64 8 &&& 63)) ||| (Int32.toInt64 q8)) hf
    · exact mm_advance_L274_fk hc S (-1) hf
theorem mm_advance_L222_fk {c : Int32} (hc : ¬ c = 0) (S : md_S) (hf : S.1 10 = c) : dc_pw (mm_advance_L222 S) (fun q => q.1 10 = c) := by
  delta mm_advance_L222
  refine pw_loop (fun (q : md_S) => q.1 10 = c) (fun (q : md_S) => q.1 10 = c) hf ?_ ?_
  · rintro S hf
    exact mm_advance_b222_fk hc S hf
  · rintro Sz hf
    exact mm_advance_L290_fk hc Sz hf
theorem mm_advance_L198_fk {c : Int32} (hc : ¬ c = 0) (S : md_S) (x2 : Int32) (y0 : Int32) (hf : S.1 10 = c) : dc_pw (mm_advance_L198 S x2 y0) (fun q => q.1 10 = c) := by
  delta mm_advance_L198
  refine pwK_i (by decide) hf ?_
  intro S9 hf
  refine pwK_w hf ?_
  intro S10 hf
  refine pw_if ?_ ?_
  · exact pw_some hf
  · refine pw_if ?_ ?_
    · exact mm_advance_L222_fk hc S10 hf
    · refine pw_if ?_ ?_
      · refine pw_any ?_
        intro q11
        refine pw_if ?_ ?_
        · exact mm_advance_L345_fk hc S10 x2 2 (S10.1 4) hf
        · exact mm_advance_L344_fk hc S10 x2 (S10.1 4) hf
      · exact mm_advance_L344_fk hc S10 x2 (S10.1 4) hf
theorem mm_advance_L145_fk {c : Int32} (hc : ¬ c = 0) (S : md_S) (hf : S.1 10 = c) : dc_pw (mm_advance_L145 S) (fun q => q.1 10 = c) := by
  delta mm_advance_L145
  refine pwK_i (by decide) hf ?_
  intro S12 hf
  refine pwK_i (by decide) hf ?_
  intro S13 hf
  refine pw_any ?_
  intro q14
  refine pw_if ?_ ?_
  · exact mm_advance_L198_fk hc S13 q14 0 hf
  · refine pw_any ?_
    intro q15
    refine pw_if ?_ ?_
    · exact mm_advance_L198_fk hc S13 q14 2 hf
    · exact mm_advance_L198_fk hc S13 q14 1 hf
theorem mm_advance_L128_fk {c : Int32} (hc : ¬ c = 0) (S : md_S) (x1 : Int32) (y0 : Int32) (y1 : Int32) (hf : S.1 10 = c) : dc_pw (mm_advance_L128 S x1 y0 y1) (Sum.elim (fun (q : md_S × Int32) => q.1.1 10 = c) (fun (q : md_S) => q.1 10 = c)) := by
  delta mm_advance_L128
  refine pwK_i (by decide) hf ?_
  intro S16 hf
  refine pwK_i (by decide) hf ?_
  intro S17 hf
  exact pw_some hf
theorem mm_advance_L104_fk {c : Int32} (hc : ¬ c = 0) (S : md_S) (y0 : Int32) (hf : S.1 10 = c) : dc_pw (mm_advance_L104 S y0) (Sum.elim (fun (q : md_S × Int32) => q.1.1 10 = c) (fun (q : md_S) => q.1 10 = c)) := by
  delta mm_advance_L104
  refine pw_any ?_
  intro q18
  refine pw_if ?_ ?_
  · exact mm_advance_L128_fk hc S y0 1 (S.1 5) hf
  · exact mm_advance_L128_fk hc S y0 0 (S.1 5) hf
theorem mm_advance_L103_fk {c : Int32} (hc : ¬ c = 0) (S : md_S) (hf : S.1 10 = c) : dc_pw (mm_advance_L103 S) (Sum.elim (fun (q : md_S × Int32) => q.1.1 10 = c) (fun (q : md_S) => q.1 10 = c)) := by
  delta mm_advance_L103
  exact mm_advance_L104_fk hc S 0 hf
theorem mm_advance_L99_fk {c : Int32} (hc : ¬ c = 0) (S : md_S) (hf : S.1 10 = c) : dc_pw (mm_advance_L99 S) (Sum.elim (fun (q : md_S × Int32) => q.1.1 10 = c) (fun (q : md_S) => q.1 10 = c)) := by
  delta mm_advance_L99
  exact mm_advance_L104_fk hc S 1 hf
theorem mm_advance_L69_fk {c : Int32} (hc : ¬ c = 0) (S : md_S) (x1 : Int32) (hf : S.1 10 = c) : dc_pw (mm_advance_L69 S x1) (Sum.elim (fun (q : md_S × Int32) => q.1.1 10 = c) (fun (q : md_S) => q.1 10 = c)) := by
  delta mm_advance_L69
  refine pw_any ?_
  intro q19
  refine pw_if ?_ ?_
  · exact mm_advance_L103_fk hc S hf
  · refine pw_if ?_ ?_
    · refine pw_any ?_
      intro q20
      refine pw_if ?_ ?_
      · exact mm_advance_L99_fk hc S hf
      · exact mm_advance_L103_fk hc S hf
    · exact mm_advance_L99_fk hc S hf
theorem mm_advance_b2_fk {c : Int32} (hc : ¬ c = 0) (S : md_S) (x1 : Int32) (hf : S.1 10 = c) : dc_pw (mm_advance_b2 S x1) (Sum.elim (fun (q : md_S × Int32) => q.1.1 10 = c) (fun (q : md_S) => q.1 10 = c)) := by
  delta mm_advance_b2
  refine pw_if ?_ ?_
  · refine pw_if ?_ ?_
    · refine pw_any ?_
      intro q21
      refine pw_if ?_ ?_
      · exact mm_advance_L69_fk hc S x1 hf
      · refine pw_any ?_
        intro q22
        refine pw_if ?_ ?_
        · exact mm_advance_L69_fk hc S x1 hf
        · refine pw_any ?_
          intro q23
          refine pw_if ?_ ?_
          · exact mm_advance_L69_fk hc S x1 hf
          · refine pw_any ?_
            intro q24
            refine pw_if ?_ ?_
            · exact mm_advance_L69_fk hc S x1 hf
            · exact pw_some hf
    · exact mm_advance_L69_fk hc S x1 hf
  · exact pw_some hf
theorem mm_advance_L2_fk {c : Int32} (hc : ¬ c = 0) (S : md_S) (x1 : Int32) (hf : S.1 10 = c) : dc_pw (mm_advance_L2 S x1) (fun q => q.1 10 = c) := by
  delta mm_advance_L2
  refine pw_loop (fun (q : md_S × Int32) => q.1.1 10 = c) (fun (q : md_S) => q.1 10 = c) hf ?_ ?_
  · rintro ⟨S, x1⟩ hf
    exact mm_advance_b2_fk hc S x1 hf
  · rintro Sz hf
    exact mm_advance_L145_fk hc Sz hf
theorem mm_advance_fk {c : Int32} (hc : ¬ c = 0) (S : md_S) (hf : S.1 10 = c) : dc_pw (mm_advance S) (fun q => q.1 10 = c) := by
  delta mm_advance
  exact mm_advance_L2_fk hc S 0 hf
theorem mm_meetsWord_L15_fk {c : Int32} (hc : ¬ c = 0) (S : md_S) (hf : S.1 10 = c) : dc_pw (mm_meetsWord_L15 S) (fun q => q.1.1 10 = c) := by
  delta mm_meetsWord_L15
  exact pw_some hf
theorem mm_meetsWord_fk {c : Int32} (hc : ¬ c = 0) (S : md_S) (p1 : Int64) (hf : S.1 10 = c) : dc_pw (mm_meetsWord S p1) (fun q => q.1.1 10 = c) := by
  delta mm_meetsWord
  refine pw_if ?_ ?_
  · exact mm_meetsWord_L15_fk hc S hf
  · refine pw_any ?_
    intro q1
    refine pw_if ?_ ?_
    · exact mm_meetsWord_L15_fk hc S hf
    · refine pwK_callv (mm_advance_fk hc S hf) ?_
      intro q2 hf
      exact pw_some hf
theorem mm_meetsSign_L15_fk {c : Int32} (hc : ¬ c = 0) (S : md_S) (hf : S.1 10 = c) : dc_pw (mm_meetsSign_L15 S) (fun q => q.1.1 10 = c) := by
  delta mm_meetsSign_L15
  exact pw_some hf
theorem mm_meetsSign_fk {c : Int32} (hc : ¬ c = 0) (S : md_S) (p1 : Int32) (hf : S.1 10 = c) : dc_pw (mm_meetsSign S p1) (fun q => q.1.1 10 = c) := by
  delta mm_meetsSign
  refine pw_if ?_ ?_
  · exact mm_meetsSign_L15_fk hc S hf
  · refine pw_any ?_
    intro q1
    refine pw_if ?_ ?_
    · exact mm_meetsSign_L15_fk hc S hf
    · refine pwK_callv (mm_advance_fk hc S hf) ?_
      intro q2 hf
      exact pw_some hf
theorem mm_list_L136_fk {c : Int32} (hc : ¬ c = 0) (S : md_S) (hf : S.1 10 = c) : dc_pw (mm_list_L136 S) (fun q => q.1 10 = c) := by
  delta mm_list_L136
  exact pw_some hf
theorem mm_list_L57_fk {c : Int32} (hc : ¬ c = 0) (S : md_S) (hf : S.1 10 = c) : dc_pw (mm_list_L57 S) (fun q => q.1 10 = c) := by
  delta mm_list_L57
  exact pw_some hf
theorem mm_list_L50_fk {c : Int32} (hc : ¬ c = 0) (S : md_S) (x1 : Int32) (hf : S.1 10 = c) : dc_pw (mm_list_L50 S x1) (Sum.elim (fun (q : md_S × Int32) => q.1.1 10 = c) (Sum.elim (fun (q : md_S) => q.1 10 = c) (fun (q : md_S) => q.1 10 = c))) := by
  delta mm_list_L50
  refine pw_if ?_ ?_
  · exact pw_some hf
  · refine pw_any ?_
    intro j1
    refine pwK_a hf ?_
    intro S2 hf
    refine pw_any ?_
    intro j3
    refine pwK_a hf ?_
    intro S4 hf
    refine pw_any ?_
    intro j5
    refine pwK_a hf ?_
    intro S6 hf
    refine pwK_i (by decide) hf ?_
    intro S7 hf
    refine pwK_i (by decide) hf ?_
    intro S8 hf
    refine pwK_callv (mm_advance_fk hc S8 hf) ?_
    intro q9 hf
    refine pwK_call (mm_meetsSign_fk hc q9 44 hf) ?_
    intro q10 hf
    exact pw_some hf
theorem mm_list_b2_fk {c : Int32} (hc : ¬ c = 0) (S : md_S) (x1 : Int32) (x2 : Int32) (hf : S.1 10 = c) : dc_pw (mm_list_b2 S x1 x2) (Sum.elim (fun (q : md_S × Int32) => q.1.1 10 = c) (Sum.elim (fun (q : md_S) => q.1 10 = c) (fun (q : md_S) => q.1 10 = c))) := by
  delta mm_list_b2
  refine pw_if ?_ ?_
  · exact pw_some hf
  · refine pw_if ?_ ?_
    · refine pw_any ?_
      intro q11
      refine pw_if ?_ ?_
      · refine pwK_callv (mm_fail_fk hc S 1 (S.1 8) hf) ?_
        intro q12 hf
        exact mm_list_L50_fk hc q12 x1 hf
      · refine pw_any ?_
        intro q13
        refine pw_if ?_ ?_
        · exact mm_list_L50_fk hc S x1 hf
        · refine pwK_callv (mm_fail_fk hc S 3 (S.1 8) hf) ?_
          intro q14 hf
          exact mm_list_L50_fk hc q14 x1 hf
    · exact pw_some hf
theorem mm_list_L2_fk {c : Int32} (hc : ¬ c = 0) (S : md_S) (x1 : Int32) (x2 : Int32) (hf : S.1 10 = c) : dc_pw (mm_list_L2 S x1 x2) (fun q => q.1 10 = c) := by
  delta mm_list_L2
  refine pw_loop (fun (q : md_S × Int32) => q.1.1 10 = c) (Sum.elim (fun (q : md_S) => q.1 10 = c) (fun (q : md_S) => q.1 10 = c)) hf ?_ ?_
  · rintro ⟨S, x2⟩ hf
    exact mm_list_b2_fk hc S x1 x2 hf
  · rintro (Sz | Sz) hf
    · exact mm_list_L57_fk hc Sz hf
    · exact mm_list_L136_fk hc Sz hf
theorem mm_list_fk {c : Int32} (hc : ¬ c = 0) (S : md_S) (p1 : Int32) (hf : S.1 10 = c) : dc_pw (mm_list S p1) (fun q => q.1 10 = c) := by
  delta mm_list
  exact mm_list_L2_fk hc S p1 1 hf
theorem mm_deeper_L18_fk {c : Int32} (hc : ¬ c = 0) (S : md_S) (hf : S.1 10 = c) : dc_pw (mm_deeper_L18 S) (fun q => q.1 10 = c) := by
  delta mm_deeper_L18
  refine pwK_i (by decide) hf ?_
  intro S1 hf
  exact pw_some hf
theorem mm_deeper_fk {c : Int32} (hc : ¬ c = 0) (S : md_S) (hf : S.1 10 = c) : dc_pw (mm_deeper S) (fun q => q.1 10 = c) := by
  delta mm_deeper
  refine pw_if ?_ ?_
  · refine pwK_callv (mm_fail_fk hc S 5 (S.1 8) hf) ?_
    intro q2 hf
    exact mm_deeper_L18_fk hc q2 hf
  · exact mm_deeper_L18_fk hc S hf
theorem mm_named_L57_fk {c : Int32} (hc : ¬ c = 0) (S : md_S) (x2 : Int32) (hf : S.1 10 = c) : dc_pw (mm_named_L57 S x2) (fun q => q.1.1 10 = c) := by
  delta mm_named_L57
  refine pw_if ?_ ?_
  · exact pw_some hf
  · refine pwK_callv (mm_advance_fk hc S hf) ?_
    intro q1 hf
    exact pw_some hf
theorem mm_named_L48_fk {c : Int32} (hc : ¬ c = 0) (S : md_S) (x2 : Int32) (hf : S.1 10 = c) : dc_pw (mm_named_L48 S x2) (fun q => q.1.1 10 = c) := by
  delta mm_named_L48
  refine pwK_callv (mm_fail_fk hc S 2 (S.1 8) hf) ?_
  intro q2 hf
  exact mm_named_L57_fk hc q2 x2 hf
theorem mm_named_L16_fk {c : Int32} (hc : ¬ c = 0) (S : md_S) (x1 : Int32) (hf : S.1 10 = c) : dc_pw (mm_named_L16 S x1) (fun q => q.1.1 10 = c) := by
  delta mm_named_L16
  refine pw_if ?_ ?_
  · exact pw_some hf
  · refine pw_any ?_
    intro q3
    refine pw_if ?_ ?_
    · exact mm_named_L48_fk hc S q3 hf
    · refine pw_if ?_ ?_
      · exact mm_named_L57_fk hc S q3 hf
      · refine pw_if ?_ ?_
        · exact mm_named_L48_fk hc S q3 hf
        · exact mm_named_L57_fk hc S q3 hf
theorem mm_named_fk {c : Int32} (hc : ¬ c = 0) (S : md_S) (p1 : Int32) (hf : S.1 10 = c) : dc_pw (mm_named S p1) (fun q => q.1.1 10 = c) := by
  delta mm_named
  refine pw_any ?_
  intro q4
  refine pw_if ?_ ?_
  · refine pwK_callv (mm_fail_fk hc S 1 (S.1 8) hf) ?_
    intro q5 hf
    exact mm_named_L16_fk hc q5 p1 hf
  · exact mm_named_L16_fk hc S p1 hf
theorem mm_piece_III_fk {c : Int32} (hc : ¬ c = 0) (S : md_S) (p1 : Int32) (p2 : Int32) (p3 : Int32) (hf : S.1 10 = c) : dc_pw (mm_piece_III S p1 p2 p3) (fun q => q.1.1 10 = c) := by
  delta mm_piece_III
  refine pw_if ?_ ?_
  · refine pwK_i (by decide) hf ?_
    intro S1 hf
    exact pw_some hf
  · refine pw_any ?_
    intro j2
    refine pwK_a hf ?_
    intro S3 hf
    refine pw_any ?_
    intro j4
    refine pwK_a hf ?_
    intro S5 hf
    refine pw_any ?_
    intro j6
    refine pwK_a hf ?_
    intro S7 hf
    refine pwK_i (by decide) hf ?_
    intro S8 hf
    exact pw_some hf
def mm_FK1 (c : Int32) (T : mm_T1) : Prop := (∀ (S : md_S) (_ : S.1 10 = c), dc_pw (T.1 S) (fun q => q.1.1 10 = c)) ∧ (∀ (S : md_S) (_ : S.1 10 = c), dc_pw (T.2.1 S) (fun q => q.1.1 10 = c)) ∧ (∀ (S : md_S) (_ : S.1 10 = c), dc_pw (T.2.2 S) (fun q => q.1.1 10 = c))
theorem mm_asked_L29_fk {c : Int32} (hc : ¬ c = 0) (T : mm_T1) (hT : mm_FK1 c T) (S : md_S) (x1 : Int32) (hf : S.1 10 = c) : dc_pw (mm_asked_L29 T S x1) (fun q => q.1.1 10 = c) := by
  delta mm_asked_L29
  exact pw_some hf
theorem mm_asked_b5_fk {c : Int32} (hc : ¬ c = 0) (T : mm_T1) (hT : mm_FK1 c T) (S : md_S) (x1 : Int32) (hf : S.1 10 = c) : dc_pw (mm_asked_b5 T S x1) (Sum.elim (fun (q : md_S × Int32) => q.1.1 10 = c) (fun (q : md_S × Int32) => q.1.1 10 = c)) := by
  delta mm_asked_b5
  refine pwK_call (mm_meetsWord_fk hc S 28530 hf) ?_
  intro q1 hf
  refine pw_if ?_ ?_
  · exact pw_some hf
  · refine pwK_call (hT.2.1 q1.1 hf) ?_
    intro q2 hf
    refine pwK_call (mm_piece_III_fk hc q2.1 3 x1 q2.2 hf) ?_
    intro q3 hf
    exact pw_some hf
theorem mm_asked_L5_fk {c : Int32} (hc : ¬ c = 0) (T : mm_T1) (hT : mm_FK1 c T) (S : md_S) (x1 : Int32) (hf : S.1 10 = c) : dc_pw (mm_asked_L5 T S x1) (fun q => q.1.1 10 = c) := by
  delta mm_asked_L5
  refine pw_loop (fun (q : md_S × Int32) => q.1.1 10 = c) (fun (q : md_S × Int32) => q.1.1 10 = c) hf ?_ ?_
  · rintro ⟨S, x1⟩ hf
    exact mm_asked_b5_fk hc T hT S x1 hf
  · rintro ⟨Sz, z0⟩ hf
    exact mm_asked_L29_fk hc T hT Sz z0 hf
theorem mm_asked_fk {c : Int32} (hc : ¬ c = 0) (T : mm_T1) (hT : mm_FK1 c T) (S : md_S) (hf : S.1 10 = c) : dc_pw (mm_asked T S) (fun q => q.1.1 10 = c) := by
  delta mm_asked
  refine pwK_call (hT.2.1 S hf) ?_
  intro q4 hf
  exact mm_asked_L5_fk hc T hT q4.1 q4.2 hf
theorem mm_clause_L29_fk {c : Int32} (hc : ¬ c = 0) (T : mm_T1) (hT : mm_FK1 c T) (S : md_S) (x1 : Int32) (hf : S.1 10 = c) : dc_pw (mm_clause_L29 T S x1) (fun q => q.1.1 10 = c) := by
  delta mm_clause_L29
  exact pw_some hf
theorem mm_clause_b5_fk {c : Int32} (hc : ¬ c = 0) (T : mm_T1) (hT : mm_FK1 c T) (S : md_S) (x1 : Int32) (hf : S.1 10 = c) : dc_pw (mm_clause_b5 T S x1) (Sum.elim (fun (q : md_S × Int32) => q.1.1 10 = c) (fun (q : md_S × Int32) => q.1.1 10 = c)) := by
  delta mm_clause_b5
  refine pwK_call (mm_meetsWord_fk hc S 6385252 hf) ?_
  intro q1 hf
  refine pw_if ?_ ?_
  · exact pw_some hf
  · refine pwK_call (hT.2.2 q1.1 hf) ?_
    intro q2 hf
    refine pwK_call (mm_piece_III_fk hc q2.1 2 x1 q2.2 hf) ?_
    intro q3 hf
    exact pw_some hf
theorem mm_clause_L5_fk {c : Int32} (hc : ¬ c = 0) (T : mm_T1) (hT : mm_FK1 c T) (S : md_S) (x1 : Int32) (hf : S.1 10 = c) : dc_pw (mm_clause_L5 T S x1) (fun q => q.1.1 10 = c) := by
  delta mm_clause_L5
  refine pw_loop (fun (q : md_S × Int32) => q.1.1 10 = c) (fun (q : md_S × Int32) => q.1.1 10 = c) hf ?_ ?_
  · rintro ⟨S, x1⟩ hf
    exact mm_clause_b5_fk hc T hT S x1 hf
  · rintro ⟨Sz, z0⟩ hf
    exact mm_clause_L29_fk hc T hT Sz z0 hf
theorem mm_clause_fk {c : Int32} (hc : ¬ c = 0) (T : mm_T1) (hT : mm_FK1 c T) (S : md_S) (hf : S.1 10 = c) : dc_pw (mm_clause T S) (fun q => q.1.1 10 = c) := by
  delta mm_clause
  refine pwK_call (hT.2.2 S hf) ?_
  intro q4 hf
  exact mm_clause_L5_fk hc T hT q4.1 q4.2 hf
theorem mm_part_L94_fk {c : Int32} (hc : ¬ c = 0) (T : mm_T1) (hT : mm_FK1 c T) (S : md_S) (x2 : Int32) (hf : S.1 10 = c) : dc_pw (mm_part_L94 T S x2) (fun q => q.1.1 10 = c) := by
  delta mm_part_L94
  refine pwK_i (by decide) hf ?_
  intro S1 hf
  exact pw_some hf
theorem mm_part_L71_fk {c : Int32} (hc : ¬ c = 0) (T : mm_T1) (hT : mm_FK1 c T) (S : md_S) (x1 : Int32) (y0 : Int32) (hf : S.1 10 = c) : dc_pw (mm_part_L71 T S x1 y0) (fun q => q.1.1 10 = c) := by
  delta mm_part_L71
  refine pw_if ?_ ?_
  · refine pwK_call (mm_meetsSign_fk hc S 41 hf) ?_
    intro q2 hf
    refine pw_if ?_ ?_
    · refine pwK_callv (mm_fail_fk hc q2.1 1 (q2.1.1 8) hf) ?_
      intro q3 hf
      exact mm_part_L94_fk hc T hT q3 y0 hf
    · exact mm_part_L94_fk hc T hT q2.1 y0 hf
  · exact mm_part_L94_fk hc T hT S y0 hf
theorem mm_part_L33_fk {c : Int32} (hc : ¬ c = 0) (T : mm_T1) (hT : mm_FK1 c T) (S : md_S) (x1 : Int32) (hf : S.1 10 = c) : dc_pw (mm_part_L33 T S x1) (fun q => q.1.1 10 = c) := by
  delta mm_part_L33
  refine pwK_callv (mm_deeper_fk hc S hf) ?_
  intro q4 hf
  refine pw_if ?_ ?_
  · exact pw_some hf
  · refine pwK_callv (mm_advance_fk hc q4 hf) ?_
    intro q5 hf
    refine pw_if ?_ ?_
    · refine pwK_call (hT.1 q5 hf) ?_
      intro q6 hf
      exact mm_part_L71_fk hc T hT q6.1 x1 q6.2 hf
    · refine pwK_call (hT.2.2 q5 hf) ?_
      intro q7 hf
      refine pwK_call (mm_piece_III_fk hc q7.1 1 q7.2 (-1) hf) ?_
      intro q8 hf
      exact mm_part_L71_fk hc T hT q8.1 x1 q8.2 hf
theorem mm_part_fk {c : Int32} (hc : ¬ c = 0) (T : mm_T1) (hT : mm_FK1 c T) (S : md_S) (hf : S.1 10 = c) : dc_pw (mm_part T S) (fun q => q.1.1 10 = c) := by
  delta mm_part
  refine pw_any ?_
  intro q9
  refine pw_if ?_ ?_
  · refine pw_any ?_
    intro q10
    refine pw_if ?_ ?_
    · refine pwK_call (mm_named_fk hc S 0 hf) ?_
      intro q11 hf
      refine pwK_call (mm_piece_III_fk hc q11.1 0 q11.2 (-1) hf) ?_
      intro q12 hf
      exact pw_some hf
    · exact mm_part_L33_fk hc T hT S q9 hf
  · exact mm_part_L33_fk hc T hT S q9 hf
theorem mm_P1_fk {c : Int32} (hc : ¬ c = 0) : ∀ d : Nat, mm_FK1 c (mm_P1 d)
  | 0 => ⟨fun _ _ => pw_none, fun _ _ => pw_none, fun _ _ => pw_none⟩
  | d + 1 => ⟨mm_asked_fk hc (mm_P1 d) (mm_P1_fk hc d), mm_clause_fk hc (mm_P1 d) (mm_P1_fk hc d), mm_part_fk hc (mm_P1 d) (mm_P1_fk hc d)⟩
theorem mm_asked_r_fk {c : Int32} (hc : ¬ c = 0) (S : md_S) (hf : S.1 10 = c) : dc_pw (mm_asked_r S) (fun q => q.1.1 10 = c) := (mm_P1_fk hc mm_d1).1 S hf
theorem mm_clause_r_fk {c : Int32} (hc : ¬ c = 0) (S : md_S) (hf : S.1 10 = c) : dc_pw (mm_clause_r S) (fun q => q.1.1 10 = c) := (mm_P1_fk hc mm_d1).2.1 S hf
theorem mm_part_r_fk {c : Int32} (hc : ¬ c = 0) (S : md_S) (hf : S.1 10 = c) : dc_pw (mm_part_r S) (fun q => q.1.1 10 = c) := (mm_P1_fk hc mm_d1).2.2 S hf
theorem mm_mustWord_L17_fk {c : Int32} (hc : ¬ c = 0) (S : md_S) (hf : S.1 10 = c) : dc_pw (mm_mustWord_L17 S) (fun q => q.1 10 = c) := by
  delta mm_mustWord_L17
  exact pw_some hf
theorem mm_mustWord_fk {c : Int32} (hc : ¬ c = 0) (S : md_S) (p1 : Int64) (hf : S.1 10 = c) : dc_pw (mm_mustWord S p1) (fun q => q.1 10 = c) := by
  delta mm_mustWord
  refine pwK_call (mm_meetsWord_fk hc S p1 hf) ?_
  intro q1 hf
  refine pw_if ?_ ?_
  · refine pwK_callv (mm_fail_fk hc q1.1 1 (q1.1.1 8) hf) ?_
    intro q2 hf
    exact mm_mustWord_L17_fk hc q2 hf
  · exact mm_mustWord_L17_fk hc q1.1 hf
theorem mm_node_IIIIII_fk {c : Int32} (hc : ¬ c = 0) (S : md_S) (p1 : Int32) (p2 : Int32) (p3 : Int32) (p4 : Int32) (p5 : Int32) (p6 : Int32) (hf : S.1 10 = c) : dc_pw (mm_node_IIIIII S p1 p2 p3 p4 p5 p6) (fun q => q.1.1 10 = c) := by
  delta mm_node_IIIIII
  refine pw_if ?_ ?_
  · refine pwK_i (by decide) hf ?_
    intro S1 hf
    exact pw_some hf
  · refine pw_any ?_
    intro j2
    refine pwK_a hf ?_
    intro S3 hf
    refine pw_any ?_
    intro j4
    refine pwK_a hf ?_
    intro S5 hf
    refine pw_any ?_
    intro j6
    refine pwK_a hf ?_
    intro S7 hf
    refine pw_any ?_
    intro j8
    refine pwK_a hf ?_
    intro S9 hf
    refine pw_any ?_
    intro j10
    refine pwK_a hf ?_
    intro S11 hf
    refine pw_any ?_
    intro j12
    refine pwK_a hf ?_
    intro S13 hf
    refine pwK_i (by decide) hf ?_
    intro S14 hf
    exact pw_some hf
theorem mm_leaf_fk {c : Int32} (hc : ¬ c = 0) (S : md_S) (p1 : Int32) (p2 : Int32) (p3 : Int32) (hf : S.1 10 = c) : dc_pw (mm_leaf S p1 p2 p3) (fun q => q.1.1 10 = c) := by
  delta mm_leaf
  refine pwK_call (mm_node_IIIIII_fk hc S p1 (-1) (-1) p2 p3 (-1) hf) ?_
  intro q1 hf
  exact pw_some hf
theorem mm_halt_fk {c : Int32} (hc : ¬ c = 0) (S : md_S) (p1 : Int32) (hf : S.1 10 = c) : dc_pw (mm_halt S p1) (fun q => q.1.1 10 = c) := by
  delta mm_halt
  refine pwK_call (mm_leaf_fk hc S 1 (-1) p1 hf) ?_
  intro q1 hf
  refine pwK_call (mm_node_IIIIII_fk hc q1.1 6 q1.2 (-1) (-1) p1 (-1) hf) ?_
  intro q2 hf
  exact pw_some hf
theorem mm_waiting_fk {c : Int32} (hc : ¬ c = 0) (S : md_S) (p1 : Int32) (p2 : Int32) (p3 : Int32) (hf : S.1 10 = c) : dc_pw (mm_waiting S p1 p2 p3) (fun q => q.1.1 10 = c) := by
  delta mm_waiting
  refine pwK_call (mm_leaf_fk hc S 1 (-1) p1 hf) ?_
  intro q1 hf
  refine pwK_call (mm_leaf_fk hc q1.1 9 p3 p1 hf) ?_
  intro q2 hf
  refine pwK_call (mm_leaf_fk hc q2.1 0 (-1) p1 hf) ?_
  intro q3 hf
  refine pwK_call (mm_node_IIIIII_fk hc q3.1 3 q2.2 q3.2 (-1) p1 p2 hf) ?_
  intro q4 hf
  refine pwK_call (mm_node_IIIIII_fk hc q4.1 5 q1.2 q4.2 (-1) p1 (-1) hf) ?_
  intro q5 hf
  refine pwK_call (mm_node_IIIIII_fk hc q5.1 6 q5.2 (-1) (-1) p1 (-1) hf) ?_
  intro q6 hf
  exact pw_some hf
theorem mm_aborted_L78_fk {c : Int32} (hc : ¬ c = 0) (S : md_S) (x1 : Int32) (x3 : Int32) (x6 : Int32) (y0 : Int32) (hf : S.1 10 = c) : dc_pw (mm_aborted_L78 S x1 x3 x6 y0) (fun q => q.1.1 10 = c) := by
  delta mm_aborted_L78
  refine pwK_call (mm_leaf_fk hc S 9 x6 x1 hf) ?_
  intro q1 hf
  refine pwK_call (mm_node_IIIIII_fk hc q1.1 5 y0 q1.2 (-1) x1 (-1) hf) ?_
  intro q2 hf
  refine pwK_call (mm_waiting_fk hc q2.1 x1 x3 x6 hf) ?_
  intro q3 hf
  refine pwK_call (mm_node_IIIIII_fk hc q3.1 7 q2.2 q3.2 (-1) x1 (-1) hf) ?_
  intro q4 hf
  refine pwK_call (mm_node_IIIIII_fk hc q4.1 8 q4.2 (-1) x6 x1 (-1) hf) ?_
  intro q5 hf
  exact pw_some hf
theorem mm_aborted_L49_fk {c : Int32} (hc : ¬ c = 0) (S : md_S) (x1 : Int32) (x2 : Int32) (x3 : Int32) (x4 : Int32) (x6 : Int32) (y0 : Int32) (hf : S.1 10 = c) : dc_pw (mm_aborted_L49 S x1 x2 x3 x4 x6 y0) (fun q => q.1.1 10 = c) := by
  delta mm_aborted_L49
  refine pw_any ?_
  intro q6
  refine pw_any ?_
  intro q7
  refine pwK_i (by decide) hf ?_
  intro S8 hf
  refine pw_if ?_ ?_
  · refine pwK_call (mm_node_IIIIII_fk hc S8 4 x2 (-1) (-1) x1 x3 hf) ?_
    intro q9 hf
    exact mm_aborted_L78_fk hc q9.1 x1 x3 x6 q9.2 hf
  · exact mm_aborted_L78_fk hc S8 x1 x3 x6 x2 hf
theorem mm_aborted_fk {c : Int32} (hc : ¬ c = 0) (S : md_S) (p1 : Int32) (p2 : Int32) (p3 : Int32) (p4 : Int32) (p5 : Int32) (hf : S.1 10 = c) : dc_pw (mm_aborted S p1 p2 p3 p4 p5) (fun q => q.1.1 10 = c) := by
  delta mm_aborted
  refine pwK_i (by decide) hf ?_
  intro S10 hf
  refine pw_let ?_
  intro v11
  refine pw_let ?_
  intro v12
  refine pw_if ?_ ?_
  · exact mm_aborted_L49_fk hc S10 p1 p2 p3 p4 v11 v12 hf
  · exact mm_aborted_L49_fk hc S10 p1 p2 p3 p4 v11 ((v12 &&& (-2)) ||| 4) hf
theorem mm_again_fk {c : Int32} (hc : ¬ c = 0) (S : md_S) (p1 : Int32) (p2 : Int32) (p3 : Int32) (p4 : Int32) (hf : S.1 10 = c) : dc_pw (mm_again S p1 p2 p3 p4) (fun q => q.1.1 10 = c) := by
  delta mm_again
  refine pwK_call (mm_halt_fk hc S p1 hf) ?_
  intro q1 hf
  refine pwK_call (mm_node_IIIIII_fk hc q1.1 5 p2 q1.2 (-1) p1 (-1) hf) ?_
  intro q2 hf
  refine pw_any ?_
  intro q3
  refine pwK_call (mm_aborted_fk hc q2.1 p1 q2.2 p3 0 q3 hf) ?_
  intro q4 hf
  refine pwK_call (mm_node_IIIIII_fk hc q4.1 6 q4.2 (-1) (-1) p1 (-1) hf) ?_
  intro q5 hf
  exact pw_some hf
theorem mm_await_fk {c : Int32} (hc : ¬ c = 0) (S : md_S) (p1 : Int32) (p2 : Int32) (hf : S.1 10 = c) : dc_pw (mm_await S p1 p2) (fun q => q.1.1 10 = c) := by
  delta mm_await
  refine pwK_i (by decide) hf ?_
  intro S1 hf
  refine pw_let ?_
  intro v2
  refine pwK_i (by decide) hf ?_
  intro S3 hf
  refine pwK_call (mm_waiting_fk hc S3 p1 p2 v2 hf) ?_
  intro q4 hf
  refine pwK_call (mm_node_IIIIII_fk hc q4.1 8 q4.2 (-1) v2 p1 (-1) hf) ?_
  intro q5 hf
  exact pw_some hf
theorem mm_exit_L87_fk {c : Int32} (hc : ¬ c = 0) (S : md_S) (x1 : Int32) (x2 : Int32) (hf : S.1 10 = c) : dc_pw (mm_exit_L87 S x1 x2) (fun q => q.1.1 10 = c) := by
  delta mm_exit_L87
  refine pw_if ?_ ?_
  · exact pw_some hf
  · refine pwK_callv (mm_advance_fk hc S hf) ?_
    intro q1 hf
    refine pwK_i (by decide) hf ?_
    intro S2 hf
    refine pw_any ?_
    intro j3
    refine pwK_call (mm_leaf_fk hc S2 9 (S2.2.1 26 j3) x1 hf) ?_
    intro q4 hf
    exact pw_some hf
theorem mm_exit_L74_fk {c : Int32} (hc : ¬ c = 0) (S : md_S) (x1 : Int32) (x2 : Int32) (hf : S.1 10 = c) : dc_pw (mm_exit_L74 S x1 x2) (fun q => q.1.1 10 = c) := by
  delta mm_exit_L74
  refine pw_if ?_ ?_
  · refine pwK_callv (mm_fail_fk hc S 2 (S.1 8) hf) ?_
    intro q5 hf
    exact mm_exit_L87_fk hc q5 x1 x2 hf
  · exact mm_exit_L87_fk hc S x1 x2 hf
theorem mm_exit_L32_fk {c : Int32} (hc : ¬ c = 0) (S : md_S) (x1 : Int32) (x2 : Int32) (hf : S.1 10 = c) : dc_pw (mm_exit_L32 S x1 x2) (fun q => q.1.1 10 = c) := by
  delta mm_exit_L32
  refine pw_any ?_
  rintro z0
  exact mm_exit_L74_fk hc S x1 z0 hf
theorem mm_exit_L16_fk {c : Int32} (hc : ¬ c = 0) (S : md_S) (x1 : Int32) (hf : S.1 10 = c) : dc_pw (mm_exit_L16 S x1) (fun q => q.1.1 10 = c) := by
  delta mm_exit_L16
  refine pw_if ?_ ?_
  · exact pw_some hf
  · refine pw_let ?_
    intro v9
    exact mm_exit_L32_fk hc S x1 v9 hf
theorem mm_exit_fk {c : Int32} (hc : ¬ c = 0) (S : md_S) (p1 : Int32) (hf : S.1 10 = c) : dc_pw (mm_exit S p1) (fun q => q.1.1 10 = c) := by
  delta mm_exit
  refine pw_any ?_
  intro q10
  refine pw_if ?_ ?_
  · refine pwK_callv (mm_fail_fk hc S 1 (S.1 8) hf) ?_
    intro q11 hf
    exact mm_exit_L16_fk hc q11 p1 hf
  · exact mm_exit_L16_fk hc S p1 hf
theorem mm_simple_JI_L22_fk {c : Int32} (hc : ¬ c = 0) (S : md_S) (x1 : Int64) (x3 : Int32) (y0 : Int32) (hf : S.1 10 = c) : dc_pw (mm_simple_JI_L22 S x1 x3 y0) (fun q => q.1.1 10 = c) := by
  delta mm_simple_JI_L22
  refine pwK_i (by decide) hf ?_
  intro S1 hf
  refine pw_if ?_ ?_
  · refine pwK_call (mm_leaf_fk hc S1 0 (-1) x3 hf) ?_
    intro q2 hf
    exact pw_some hf
  · refine pw_if ?_ ?_
    · refine pwK_call (mm_leaf_fk hc S1 1 (-1) x3 hf) ?_
      intro q3 hf
      exact pw_some hf
    · refine pw_if ?_ ?_
      · refine pwK_call (mm_halt_fk hc S1 x3 hf) ?_
        intro q4 hf
        exact pw_some hf
      · refine pw_if ?_ ?_
        · refine pwK_call (mm_named_fk hc S1 1 hf) ?_
          intro q5 hf
          refine pwK_call (mm_leaf_fk hc q5.1 2 q5.2 x3 hf) ?_
          intro q6 hf
          exact pw_some hf
        · refine pw_if ?_ ?_
          · refine pwK_call (mm_exit_fk hc S1 x3 hf) ?_
            intro q7 hf
            exact pw_some hf
          · refine pw_if ?_ ?_
            · refine pwK_call (mm_named_fk hc S1 1 hf) ?_
              intro q8 hf
              refine pwK_call (mm_leaf_fk hc q8.1 2 q8.2 x3 hf) ?_
              intro q9 hf
              refine pwK_call (mm_leaf_fk hc q9.1 1 (-1) x3 hf) ?_
              intro q10 hf
              refine pwK_call (mm_node_IIIIII_fk hc q10.1 5 q9.2 q10.2 (-1) x3 (-1) hf) ?_
              intro q11 hf
              refine pwK_call (mm_node_IIIIII_fk hc q11.1 6 q11.2 (-1) (-1) x3 (-1) hf) ?_
              intro q12 hf
              exact pw_some hf
            · refine pwK_call (mm_asked_r_fk hc S1 hf) ?_
              intro q13 hf
              refine pwK_call (mm_await_fk hc q13.1 x3 q13.2 hf) ?_
              intro q14 hf
              exact pw_some hf
theorem mm_simple_JI_L17_fk {c : Int32} (hc : ¬ c = 0) (S : md_S) (x1 : Int64) (x3 : Int32) (hf : S.1 10 = c) : dc_pw (mm_simple_JI_L17 S x1 x3) (fun q => q.1.1 10 = c) := by
  delta mm_simple_JI_L17
  exact mm_simple_JI_L22_fk hc S x1 x3 1 hf
theorem mm_simple_JI_fk {c : Int32} (hc : ¬ c = 0) (S : md_S) (p1 : Int64) (p3 : Int32) (hf : S.1 10 = c) : dc_pw (mm_simple_JI S p1 p3) (fun q => q.1.1 10 = c) := by
  delta mm_simple_JI
  refine pw_if ?_ ?_
  · exact mm_simple_JI_L17_fk hc S p1 p3 hf
  · refine pw_if ?_ ?_
    · exact mm_simple_JI_L17_fk hc S p1 p3 hf
    · exact mm_simple_JI_L22_fk hc S p1 p3 2 hf
def mm_FK2 (c : Int32) (T : mm_T2) : Prop := (∀ (S : md_S) (_ : S.1 10 = c), dc_pw (T.1 S) (fun q => q.1.1 10 = c)) ∧ (∀ (S : md_S) (_ : S.1 10 = c), dc_pw (T.2.1 S) (fun q => q.1.1 10 = c)) ∧ (∀ (S : md_S) (_ : S.1 10 = c), dc_pw (T.2.2.1 S) (fun q => q.1.1 10 = c)) ∧ (∀ (S : md_S) (_ : S.1 10 = c), dc_pw (T.2.2.2.1 S) (fun q => q.1.1 10 = c)) ∧ (∀ (S : md_S) (p1 : Int32) (_ : S.1 10 = c), dc_pw (T.2.2.2.2.1 S p1) (fun q => q.1.1 10 = c)) ∧ (∀ (S : md_S) (p1 : Int32) (_ : S.1 10 = c), dc_pw (T.2.2.2.2.2.1 S p1) (fun q => q.1.1 10 = c)) ∧ (∀ (S : md_S) (p1 : Int32) (p2 : Int32) (_ : S.1 10 = c), dc_pw (T.2.2.2.2.2.2.1 S p1 p2) (fun q => q.1.1 10 = c)) ∧ (∀ (S : md_S) (p1 : Int32) (_ : S.1 10 = c), dc_pw (T.2.2.2.2.2.2.2.1 S p1) (fun q => q.1.1 10 = c)) ∧ (∀ (S : md_S) (p1 : Int32) (_ : S.1 10 = c), dc_pw (T.2.2.2.2.2.2.2.2.1 S p1) (fun q => q.1.1 10 = c)) ∧ (∀ (S : md_S) (p1 : Int32) (p2 : Int32) (_ : S.1 10 = c), dc_pw (T.2.2.2.2.2.2.2.2.2.1 S p1 p2) (fun q => q.1.1 10 = c)) ∧ (∀ (S : md_S) (p1 : Int32) (_ : S.1 10 = c), dc_pw (T.2.2.2.2.2.2.2.2.2.2.1 S p1) (fun q => q.1.1 10 = c)) ∧ (∀ (S : md_S) (p1 : Int32) (_ : S.1 10 = c), dc_pw (T.2.2.2.2.2.2.2.2.2.2.2 S p1) (fun q => q.1.1 10 = c))
theorem mm_body_L54_fk {c : Int32} (hc : ¬ c = 0) (T : mm_T2) (hT : mm_FK2 c T) (S : md_S) (x1 : Int32) (x2 : Int32) (hf : S.1 10 = c) : dc_pw (mm_body_L54 T S x1 x2) (fun q => q.1.1 10 = c) := by
  delta mm_body_L54
  refine pwK_i (by decide) hf ?_
  intro S1 hf
  exact pw_some hf
theorem mm_body_b10_fk {c : Int32} (hc : ¬ c = 0) (T : mm_T2) (hT : mm_FK2 c T) (S : md_S) (x1 : Int32) (x2 : Int32) (hf : S.1 10 = c) : dc_pw (mm_body_b10 T S x1 x2) (Sum.elim (fun (q : md_S × Int32 × Int32) => q.1.1 10 = c) (fun (q : md_S × Int32 × Int32) => q.1.1 10 = c)) := by
  delta mm_body_b10
  refine pwK_call (mm_meetsSign_fk hc S 256 hf) ?_
  intro q2 hf
  refine pw_if ?_ ?_
  · exact pw_some hf
  · refine pwK_call (hT.2.1 q2.1 hf) ?_
    intro q3 hf
    refine pw_any ?_
    intro q4
    refine pw_any ?_
    intro j5
    refine pwK_call (mm_node_IIIIII_fk hc q3.1 7 x1 q3.2 (-1) (q3.1.2.1 34 j5) (-1) hf) ?_
    intro q6 hf
    exact pw_some hf
theorem mm_body_L10_fk {c : Int32} (hc : ¬ c = 0) (T : mm_T2) (hT : mm_FK2 c T) (S : md_S) (x1 : Int32) (x2 : Int32) (hf : S.1 10 = c) : dc_pw (mm_body_L10 T S x1 x2) (fun q => q.1.1 10 = c) := by
  delta mm_body_L10
  refine pw_loop (fun (q : md_S × Int32 × Int32) => q.1.1 10 = c) (fun (q : md_S × Int32 × Int32) => q.1.1 10 = c) hf ?_ ?_
  · rintro ⟨S, x1, x2⟩ hf
    exact mm_body_b10_fk hc T hT S x1 x2 hf
  · rintro ⟨Sz, z0, z1⟩ hf
    exact mm_body_L54_fk hc T hT Sz z0 z1 hf
theorem mm_body_fk {c : Int32} (hc : ¬ c = 0) (T : mm_T2) (hT : mm_FK2 c T) (S : md_S) (hf : S.1 10 = c) : dc_pw (mm_body T S) (fun q => q.1.1 10 = c) := by
  delta mm_body
  refine pwK_call (hT.2.1 S hf) ?_
  intro q7 hf
  refine pw_let ?_
  intro v8
  exact mm_body_L10_fk hc T hT q7.1 q7.2 v8 hf
theorem mm_row_L52_fk {c : Int32} (hc : ¬ c = 0) (T : mm_T2) (hT : mm_FK2 c T) (S : md_S) (x1 : Int32) (x2 : Int32) (hf : S.1 10 = c) : dc_pw (mm_row_L52 T S x1 x2) (fun q => q.1.1 10 = c) := by
  delta mm_row_L52
  refine pwK_i (by decide) hf ?_
  intro S1 hf
  exact pw_some hf
theorem mm_row_b10_fk {c : Int32} (hc : ¬ c = 0) (T : mm_T2) (hT : mm_FK2 c T) (S : md_S) (x1 : Int32) (x2 : Int32) (hf : S.1 10 = c) : dc_pw (mm_row_b10 T S x1 x2) (Sum.elim (fun (q : md_S × Int32 × Int32) => q.1.1 10 = c) (fun (q : md_S × Int32 × Int32) => q.1.1 10 = c)) := by
  delta mm_row_b10
  refine pwK_call (mm_meetsSign_fk hc S 59 hf) ?_
  intro q2 hf
  refine pw_if ?_ ?_
  · exact pw_some hf
  · refine pwK_call (hT.2.2.1 q2.1 hf) ?_
    intro q3 hf
    refine pw_any ?_
    intro q4
    refine pw_any ?_
    intro j5
    refine pwK_call (mm_node_IIIIII_fk hc q3.1 5 x1 q3.2 (-1) (q3.1.2.1 34 j5) (-1) hf) ?_
    intro q6 hf
    exact pw_some hf
theorem mm_row_L10_fk {c : Int32} (hc : ¬ c = 0) (T : mm_T2) (hT : mm_FK2 c T) (S : md_S) (x1 : Int32) (x2 : Int32) (hf : S.1 10 = c) : dc_pw (mm_row_L10 T S x1 x2) (fun q => q.1.1 10 = c) := by
  delta mm_row_L10
  refine pw_loop (fun (q : md_S × Int32 × Int32) => q.1.1 10 = c) (fun (q : md_S × Int32 × Int32) => q.1.1 10 = c) hf ?_ ?_
  · rintro ⟨S, x1, x2⟩ hf
    exact mm_row_b10_fk hc T hT S x1 x2 hf
  · rintro ⟨Sz, z0, z1⟩ hf
    exact mm_row_L52_fk hc T hT Sz z0 z1 hf
theorem mm_row_fk {c : Int32} (hc : ¬ c = 0) (T : mm_T2) (hT : mm_FK2 c T) (S : md_S) (hf : S.1 10 = c) : dc_pw (mm_row T S) (fun q => q.1.1 10 = c) := by
  delta mm_row
  refine pwK_call (hT.2.2.1 S hf) ?_
  intro q7 hf
  refine pw_let ?_
  intro v8
  exact mm_row_L10_fk hc T hT q7.1 q7.2 v8 hf
theorem mm_statement_L236_fk {c : Int32} (hc : ¬ c = 0) (T : mm_T2) (hT : mm_FK2 c T) (S : md_S) (y0 : Int32) (hf : S.1 10 = c) : dc_pw (mm_statement_L236 T S y0) (fun q => q.1.1 10 = c) := by
  delta mm_statement_L236
  refine pwK_i (by decide) hf ?_
  intro S1 hf
  exact pw_some hf
theorem mm_statement_L68_fk {c : Int32} (hc : ¬ c = 0) (T : mm_T2) (hT : mm_FK2 c T) (S : md_S) (x1 : Int32) (x2 : Int64) (x4 : Int32) (hf : S.1 10 = c) : dc_pw (mm_statement_L68 T S x1 x2 x4) (fun q => q.1.1 10 = c) := by
  delta mm_statement_L68
  refine pw_if ?_ ?_
  · exact pw_some hf
  · refine pw_let ?_
    intro v2
    refine pwK_callv (mm_advance_fk hc S hf) ?_
    intro q3 hf
    refine pw_if ?_ ?_
    · refine pw_if ?_ ?_
      · refine pwK_call (hT.2.2.2.2.1 q3 x1 hf) ?_
        intro q4 hf
        exact mm_statement_L236_fk hc T hT q4.1 q4.2 hf
      · refine pw_if ?_ ?_
        · refine pwK_call (hT.2.2.2.2.2.1 q3 x1 hf) ?_
          intro q5 hf
          exact mm_statement_L236_fk hc T hT q5.1 q5.2 hf
        · refine pw_if ?_ ?_
          · refine pwK_call (hT.2.2.2.2.2.2.1 q3 x1 v2 hf) ?_
            intro q6 hf
            exact mm_statement_L236_fk hc T hT q6.1 q6.2 hf
          · refine pw_if ?_ ?_
            · refine pwK_call (hT.2.2.2.2.2.2.2.1 q3 x1 hf) ?_
              intro q7 hf
              exact mm_statement_L236_fk hc T hT q7.1 q7.2 hf
            · refine pw_if ?_ ?_
              · refine pwK_call (hT.2.2.2.2.2.2.2.2.1 q3 x1 hf) ?_
                intro q8 hf
                exact mm_statement_L236_fk hc T hT q8.1 q8.2 hf
              · refine pw_if ?_ ?_
                · refine pwK_call (hT.2.2.2.2.2.2.2.2.2.1 q3 x1 0 hf) ?_
                  intro q9 hf
                  exact mm_statement_L236_fk hc T hT q9.1 q9.2 hf
                · refine pw_if ?_ ?_
                  · refine pwK_call (hT.2.2.2.2.2.2.2.2.2.2.1 q3 x1 hf) ?_
                    intro q10 hf
                    exact mm_statement_L236_fk hc T hT q10.1 q10.2 hf
                  · refine pw_if ?_ ?_
                    · refine pwK_call (hT.2.2.2.2.2.2.2.2.2.2.2 q3 x1 hf) ?_
                      intro q11 hf
                      exact mm_statement_L236_fk hc T hT q11.1 q11.2 hf
                    · refine pwK_call (mm_simple_JI_fk hc q3 x2 x1 hf) ?_
                      intro q12 hf
                      exact mm_statement_L236_fk hc T hT q12.1 q12.2 hf
    · refine pwK_call (hT.2.2.2.1 q3 hf) ?_
      intro q13 hf
      exact mm_statement_L236_fk hc T hT q13.1 q13.2 hf
theorem mm_statement_L57_fk {c : Int32} (hc : ¬ c = 0) (T : mm_T2) (hT : mm_FK2 c T) (S : md_S) (x1 : Int32) (x2 : Int64) (x4 : Int32) (hf : S.1 10 = c) : dc_pw (mm_statement_L57 T S x1 x2 x4) (fun q => q.1.1 10 = c) := by
  delta mm_statement_L57
  refine pw_if ?_ ?_
  · refine pwK_callv (mm_deeper_fk hc S hf) ?_
    intro q14 hf
    exact mm_statement_L68_fk hc T hT q14 x1 x2 x4 hf
  · exact mm_statement_L68_fk hc T hT S x1 x2 x4 hf
theorem mm_statement_L51_fk {c : Int32} (hc : ¬ c = 0) (T : mm_T2) (hT : mm_FK2 c T) (S : md_S) (x1 : Int32) (x2 : Int64) (x4 : Int32) (hf : S.1 10 = c) : dc_pw (mm_statement_L51 T S x1 x2 x4) (fun q => q.1.1 10 = c) := by
  delta mm_statement_L51
  refine pwK_callv (mm_fail_fk hc S 1 x1 hf) ?_
  intro q15 hf
  exact mm_statement_L57_fk hc T hT q15 x1 x2 x4 hf
theorem mm_statement_L23_fk {c : Int32} (hc : ¬ c = 0) (T : mm_T2) (hT : mm_FK2 c T) (S : md_S) (x1 : Int32) (y0 : Int64) (hf : S.1 10 = c) : dc_pw (mm_statement_L23 T S x1 y0) (fun q => q.1.1 10 = c) := by
  delta mm_statement_L23
  refine pw_any ?_
  intro q16
  refine pw_if ?_ ?_
  · refine pw_any ?_
    intro q17
    refine pw_if ?_ ?_
    · exact mm_statement_L51_fk hc T hT S x1 y0 q16 hf
    · refine pw_any ?_
      intro q18
      refine pw_if ?_ ?_
      · exact mm_statement_L51_fk hc T hT S x1 y0 q16 hf
      · exact mm_statement_L57_fk hc T hT S x1 y0 q16 hf
  · exact mm_statement_L57_fk hc T hT S x1 y0 q16 hf
theorem mm_statement_fk {c : Int32} (hc : ¬ c = 0) (T : mm_T2) (hT : mm_FK2 c T) (S : md_S) (hf : S.1 10 = c) : dc_pw (mm_statement T S) (fun q => q.1.1 10 = c) := by
  delta mm_statement
  refine pw_let ?_
  intro v19
  refine pw_if ?_ ?_
  · exact mm_statement_L23_fk hc T hT S v19 S.2.2.1 hf
  · exact mm_statement_L23_fk hc T hT S v19 (-1) hf
theorem mm_closed_L23_fk {c : Int32} (hc : ¬ c = 0) (T : mm_T2) (hT : mm_FK2 c T) (S : md_S) (x1 : Int32) (hf : S.1 10 = c) : dc_pw (mm_closed_L23 T S x1) (fun q => q.1.1 10 = c) := by
  delta mm_closed_L23
  exact pw_some hf
theorem mm_closed_fk {c : Int32} (hc : ¬ c = 0) (T : mm_T2) (hT : mm_FK2 c T) (S : md_S) (hf : S.1 10 = c) : dc_pw (mm_closed T S) (fun q => q.1.1 10 = c) := by
  delta mm_closed
  refine pwK_call (hT.1 S hf) ?_
  intro q1 hf
  refine pwK_call (mm_meetsSign_fk hc q1.1 41 hf) ?_
  intro q2 hf
  refine pw_if ?_ ?_
  · refine pwK_callv (mm_fail_fk hc q2.1 1 (q2.1.1 8) hf) ?_
    intro q3 hf
    exact mm_closed_L23_fk hc T hT q3 q1.2 hf
  · exact mm_closed_L23_fk hc T hT q2.1 q1.2 hf
theorem mm_present_I_L157_fk {c : Int32} (hc : ¬ c = 0) (T : mm_T2) (hT : mm_FK2 c T) (S : md_S) (x1 : Int32) (x2 : Int32) (x3 : Int32) (y0 : Int32) (hf : S.1 10 = c) : dc_pw (mm_present_I_L157 T S x1 x2 x3 y0) (fun q => q.1.1 10 = c) := by
  delta mm_present_I_L157
  refine pwK_call (mm_node_IIIIII_fk hc S 3 x3 y0 (-1) x1 x2 hf) ?_
  intro q1 hf
  exact pw_some hf
theorem mm_present_I_L138_fk {c : Int32} (hc : ¬ c = 0) (T : mm_T2) (hT : mm_FK2 c T) (S : md_S) (x1 : Int32) (x2 : Int32) (x4 : Int32) (y0 : Int32) (hf : S.1 10 = c) : dc_pw (mm_present_I_L138 T S x1 x2 x4 y0) (fun q => q.1.1 10 = c) := by
  delta mm_present_I_L138
  refine pw_if ?_ ?_
  · refine pwK_call (mm_leaf_fk hc S 0 (-1) x1 hf) ?_
    intro q2 hf
    exact mm_present_I_L157_fk hc T hT q2.1 x1 x2 y0 q2.2 hf
  · exact mm_present_I_L157_fk hc T hT S x1 x2 y0 x4 hf
theorem mm_present_I_L109_fk {c : Int32} (hc : ¬ c = 0) (T : mm_T2) (hT : mm_FK2 c T) (S : md_S) (x1 : Int32) (x2 : Int32) (x3 : Int32) (x4 : Int32) (x5 : Int32) (hf : S.1 10 = c) : dc_pw (mm_present_I_L109 T S x1 x2 x3 x4 x5) (fun q => q.1.1 10 = c) := by
  delta mm_present_I_L109
  refine pwK_callv (mm_mustWord_fk hc S 6647396 hf) ?_
  intro q3 hf
  refine pwK_i (by decide) hf ?_
  intro S4 hf
  refine pw_if ?_ ?_
  · refine pwK_call (mm_leaf_fk hc S4 0 (-1) x1 hf) ?_
    intro q5 hf
    exact mm_present_I_L138_fk hc T hT q5.1 x1 x2 x4 q5.2 hf
  · exact mm_present_I_L138_fk hc T hT S4 x1 x2 x4 x3 hf
theorem mm_present_I_L75_fk {c : Int32} (hc : ¬ c = 0) (T : mm_T2) (hT : mm_FK2 c T) (S : md_S) (x1 : Int32) (x2 : Int32) (x3 : Int32) (x4 : Int32) (x5 : Int32) (hf : S.1 10 = c) : dc_pw (mm_present_I_L75 T S x1 x2 x3 x4 x5) (fun q => q.1.1 10 = c) := by
  delta mm_present_I_L75
  refine pwK_call (mm_meetsWord_fk hc S 1701606245 hf) ?_
  intro q6 hf
  refine pw_if ?_ ?_
  · refine pw_let ?_
    intro v7
    exact mm_present_I_L109_fk hc T hT q6.1 x1 x2 x3 x4 v7 hf
  · refine pwK_call (hT.1 q6.1 hf) ?_
    intro q8 hf
    refine pw_let ?_
    intro v9
    exact mm_present_I_L109_fk hc T hT q8.1 x1 x2 x3 q8.2 v9 hf
theorem mm_present_I_L34_fk {c : Int32} (hc : ¬ c = 0) (T : mm_T2) (hT : mm_FK2 c T) (S : md_S) (x1 : Int32) (x2 : Int32) (hf : S.1 10 = c) : dc_pw (mm_present_I_L34 T S x1 x2) (fun q => q.1.1 10 = c) := by
  delta mm_present_I_L34
  refine pwK_call (mm_meetsWord_fk hc S 1952998766 hf) ?_
  intro q10 hf
  refine pw_if ?_ ?_
  · refine pw_let ?_
    intro v11
    exact mm_present_I_L75_fk hc T hT q10.1 x1 x2 (-1) (-1) v11 hf
  · refine pwK_call (hT.1 q10.1 hf) ?_
    intro q12 hf
    refine pw_let ?_
    intro v13
    exact mm_present_I_L75_fk hc T hT q12.1 x1 x2 q12.2 (-1) v13 hf
theorem mm_present_I_fk {c : Int32} (hc : ¬ c = 0) (T : mm_T2) (hT : mm_FK2 c T) (S : md_S) (p1 : Int32) (hf : S.1 10 = c) : dc_pw (mm_present_I T S p1) (fun q => q.1.1 10 = c) := by
  delta mm_present_I
  refine pwK_call (mm_asked_r_fk hc S hf) ?_
  intro q14 hf
  refine pw_any ?_
  intro q15
  refine pw_if ?_ ?_
  · refine pw_any ?_
    intro q16
    refine pw_if ?_ ?_
    · refine pwK_callv (mm_fail_fk hc q14.1 1 (q14.1.1 8) hf) ?_
      intro q17 hf
      exact mm_present_I_L34_fk hc T hT q17 p1 q14.2 hf
    · exact mm_present_I_L34_fk hc T hT q14.1 p1 q14.2 hf
  · exact mm_present_I_L34_fk hc T hT q14.1 p1 q14.2 hf
theorem mm_suspend_L32_fk {c : Int32} (hc : ¬ c = 0) (T : mm_T2) (hT : mm_FK2 c T) (S : md_S) (x1 : Int32) (x2 : Int32) (x3 : Int32) (y0 : Int32) (hf : S.1 10 = c) : dc_pw (mm_suspend_L32 T S x1 x2 x3 y0) (fun q => q.1.1 10 = c) := by
  delta mm_suspend_L32
  refine pwK_callv (mm_mustWord_fk hc S 6647396 hf) ?_
  intro q1 hf
  refine pwK_i (by decide) hf ?_
  intro S2 hf
  refine pwK_call (mm_node_IIIIII_fk hc S2 4 x2 (-1) (-1) x1 y0 hf) ?_
  intro q3 hf
  exact pw_some hf
theorem mm_suspend_fk {c : Int32} (hc : ¬ c = 0) (T : mm_T2) (hT : mm_FK2 c T) (S : md_S) (p1 : Int32) (hf : S.1 10 = c) : dc_pw (mm_suspend T S p1) (fun q => q.1.1 10 = c) := by
  delta mm_suspend
  refine pwK_call (hT.1 S hf) ?_
  intro q4 hf
  refine pw_let ?_
  intro v5
  refine pwK_callv (mm_mustWord_fk hc q4.1 2003330414 hf) ?_
  intro q6 hf
  refine pw_if ?_ ?_
  · exact mm_suspend_L32_fk hc T hT q6 p1 q4.2 v5 0 hf
  · refine pwK_call (mm_asked_r_fk hc q6 hf) ?_
    intro q7 hf
    exact mm_suspend_L32_fk hc T hT q7.1 p1 q4.2 v5 q7.2 hf
theorem mm_loop_L90_fk {c : Int32} (hc : ¬ c = 0) (T : mm_T2) (hT : mm_FK2 c T) (S : md_S) (x1 : Int32) (x3 : Int32) (x4 : Int32) (y0 : Int32) (hf : S.1 10 = c) : dc_pw (mm_loop_L90 T S x1 x3 x4 y0) (fun q => q.1.1 10 = c) := by
  delta mm_loop_L90
  refine pwK_callv (mm_mustWord_fk hc S 6647396 hf) ?_
  intro q1 hf
  refine pwK_call (mm_again_fk hc q1 x1 x3 y0 x4 hf) ?_
  intro q2 hf
  exact pw_some hf
theorem mm_loop_L56_fk {c : Int32} (hc : ¬ c = 0) (T : mm_T2) (hT : mm_FK2 c T) (S : md_S) (x1 : Int32) (x3 : Int32) (hf : S.1 10 = c) : dc_pw (mm_loop_L56 T S x1 x3) (fun q => q.1.1 10 = c) := by
  delta mm_loop_L56
  refine pwK_call (mm_node_IIIIII_fk hc S 6 x3 (-1) (-1) x1 (-1) hf) ?_
  intro q3 hf
  exact pw_some hf
theorem mm_loop_fk {c : Int32} (hc : ¬ c = 0) (T : mm_T2) (hT : mm_FK2 c T) (S : md_S) (p1 : Int32) (p2 : Int32) (hf : S.1 10 = c) : dc_pw (mm_loop T S p1 p2) (fun q => q.1.1 10 = c) := by
  delta mm_loop
  refine pwK_call (hT.1 S hf) ?_
  intro q4 hf
  refine pw_let ?_
  intro v5
  refine pw_if ?_ ?_
  · exact pw_some hf
  · refine pwK_call (mm_meetsWord_fk hc q4.1 6647396 hf) ?_
    intro q6 hf
    refine pw_if ?_ ?_
    · refine pwK_callv (mm_mustWord_fk hc q6.1 1700881256 hf) ?_
      intro q7 hf
      refine pw_if ?_ ?_
      · exact mm_loop_L90_fk hc T hT q7 p1 q4.2 v5 0 hf
      · refine pwK_call (mm_asked_r_fk hc q7 hf) ?_
        intro q8 hf
        exact mm_loop_L90_fk hc T hT q8.1 p1 q4.2 v5 q8.2 hf
    · refine pw_if ?_ ?_
      · refine pw_if ?_ ?_
        · refine pwK_i (by decide) hf ?_
          intro S9 hf
          refine pwK_i (by decide) hf ?_
          intro S10 hf
          exact mm_loop_L56_fk hc T hT S10 p1 q4.2 hf
        · exact mm_loop_L56_fk hc T hT q6.1 p1 q4.2 hf
      · exact mm_loop_L56_fk hc T hT q6.1 p1 q4.2 hf
theorem mm_trap_L117_fk {c : Int32} (hc : ¬ c = 0) (T : mm_T2) (hT : mm_FK2 c T) (S : md_S) (x1 : Int32) (x2 : Int32) (y0 : Int32) (hf : S.1 10 = c) : dc_pw (mm_trap_L117 T S x1 x2 y0) (fun q => q.1.1 10 = c) := by
  delta mm_trap_L117
  refine pwK_callv (mm_mustWord_fk hc S 6647396 hf) ?_
  intro q1 hf
  refine pwK_i (by decide) hf ?_
  intro S2 hf
  refine pw_any ?_
  intro q3
  refine pwK_i (by decide) hf ?_
  intro S4 hf
  refine pwK_call (mm_node_IIIIII_fk hc S4 8 y0 (-1) x2 x1 (-1) hf) ?_
  intro q5 hf
  exact pw_some hf
theorem mm_trap_L16_fk {c : Int32} (hc : ¬ c = 0) (T : mm_T2) (hT : mm_FK2 c T) (S : md_S) (x1 : Int32) (hf : S.1 10 = c) : dc_pw (mm_trap_L16 T S x1) (fun q => q.1.1 10 = c) := by
  delta mm_trap_L16
  refine pw_if ?_ ?_
  · exact pw_some hf
  · refine pwK_i (by decide) hf ?_
    intro S6 hf
    refine pw_let ?_
    intro v7
    refine pw_any ?_
    intro j8
    refine pwK_a hf ?_
    intro S9 hf
    refine pw_any ?_
    intro j10
    refine pwK_a hf ?_
    intro S11 hf
    refine pw_any ?_
    intro j12
    refine pwK_a hf ?_
    intro S13 hf
    refine pwK_i (by decide) hf ?_
    intro S14 hf
    refine pwK_callv (mm_advance_fk hc S14 hf) ?_
    intro q15 hf
    refine pwK_callv (mm_mustWord_fk hc q15 26990 hf) ?_
    intro q16 hf
    refine pw_if ?_ ?_
    · exact mm_trap_L117_fk hc T hT q16 x1 v7 0 hf
    · refine pwK_call (hT.1 q16 hf) ?_
      intro q17 hf
      exact mm_trap_L117_fk hc T hT q17.1 x1 v7 q17.2 hf
theorem mm_trap_fk {c : Int32} (hc : ¬ c = 0) (T : mm_T2) (hT : mm_FK2 c T) (S : md_S) (p1 : Int32) (hf : S.1 10 = c) : dc_pw (mm_trap T S p1) (fun q => q.1.1 10 = c) := by
  delta mm_trap
  refine pw_any ?_
  intro q18
  refine pw_if ?_ ?_
  · refine pwK_callv (mm_fail_fk hc S 1 (S.1 8) hf) ?_
    intro q19 hf
    exact mm_trap_L16_fk hc T hT q19 p1 hf
  · exact mm_trap_L16_fk hc T hT S p1 hf
theorem mm_locals_L97_fk {c : Int32} (hc : ¬ c = 0) (T : mm_T2) (hT : mm_FK2 c T) (S : md_S) (x5 : Int32) (hf : S.1 10 = c) : dc_pw (mm_locals_L97 T S x5) (fun q => q.1.1 10 = c) := by
  delta mm_locals_L97
  exact pw_some hf
theorem mm_locals_b63_fk {c : Int32} (hc : ¬ c = 0) (T : mm_T2) (hT : mm_FK2 c T) (S : md_S) (x1 : Int32) (x3 : Int32) (x5 : Int32) (x6 : Int32) (hf : S.1 10 = c) : dc_pw (mm_locals_b63 T S x1 x3 x5 x6) (Sum.elim (fun (q : md_S × Int32 × Int32) => q.1.1 10 = c) (fun (q : md_S × Int32) => q.1.1 10 = c)) := by
  delta mm_locals_b63
  refine pw_if ?_ ?_
  · exact pw_some hf
  · refine pw_if ?_ ?_
    · refine pwK_call (mm_node_IIIIII_fk hc S 10 x5 (-1) x6 x1 (-1) hf) ?_
      intro q1 hf
      exact pw_some hf
    · exact pw_some hf
theorem mm_locals_L63_fk {c : Int32} (hc : ¬ c = 0) (T : mm_T2) (hT : mm_FK2 c T) (S : md_S) (x1 : Int32) (x3 : Int32) (x5 : Int32) (x6 : Int32) (hf : S.1 10 = c) : dc_pw (mm_locals_L63 T S x1 x3 x5 x6) (fun q => q.1.1 10 = c) := by
  delta mm_locals_L63
  refine pw_loop (fun (q : md_S × Int32 × Int32) => q.1.1 10 = c) (fun (q : md_S × Int32) => q.1.1 10 = c) hf ?_ ?_
  · rintro ⟨S, x5, x6⟩ hf
    exact mm_locals_b63_fk hc T hT S x1 x3 x5 x6 hf
  · rintro ⟨Sz, z0⟩ hf
    exact mm_locals_L97_fk hc T hT Sz z0 hf
theorem mm_locals_L43_fk {c : Int32} (hc : ¬ c = 0) (T : mm_T2) (hT : mm_FK2 c T) (S : md_S) (x1 : Int32) (x2 : Int32) (x3 : Int32) (x4 : Int32) (y0 : Int32) (hf : S.1 10 = c) : dc_pw (mm_locals_L43 T S x1 x2 x3 x4 y0) (fun q => q.1.1 10 = c) := by
  delta mm_locals_L43
  refine pwK_callv (mm_mustWord_fk hc S 6647396 hf) ?_
  intro q2 hf
  refine pwK_i (by decide) hf ?_
  intro S3 hf
  refine pw_let ?_
  intro v4
  exact mm_locals_L63_fk hc T hT S3 x1 x3 y0 v4 hf
theorem mm_locals_fk {c : Int32} (hc : ¬ c = 0) (T : mm_T2) (hT : mm_FK2 c T) (S : md_S) (p1 : Int32) (hf : S.1 10 = c) : dc_pw (mm_locals T S p1) (fun q => q.1.1 10 = c) := by
  delta mm_locals
  refine pw_let ?_
  intro v5
  refine pw_let ?_
  intro v6
  refine pwK_callv (mm_list_fk hc S v5 hf) ?_
  intro q7 hf
  refine pwK_callv (mm_mustWord_fk hc q7 26990 hf) ?_
  intro q8 hf
  refine pw_let ?_
  intro v9
  refine pw_if ?_ ?_
  · exact mm_locals_L43_fk hc T hT q8 p1 v5 v6 v9 0 hf
  · refine pwK_call (hT.1 q8 hf) ?_
    intro q10 hf
    exact mm_locals_L43_fk hc T hT q10.1 p1 v5 v6 v9 q10.2 hf
theorem mm_abort_L33_fk {c : Int32} (hc : ¬ c = 0) (T : mm_T2) (hT : mm_FK2 c T) (S : md_S) (x1 : Int32) (x2 : Int32) (x3 : Int32) (x4 : Int32) (y0 : Int32) (hf : S.1 10 = c) : dc_pw (mm_abort_L33 T S x1 x2 x3 x4 y0) (fun q => q.1.1 10 = c) := by
  delta mm_abort_L33
  refine pwK_callv (mm_mustWord_fk hc S 6647396 hf) ?_
  intro q1 hf
  refine pwK_call (mm_aborted_fk hc q1 x1 x3 y0 x2 x4 hf) ?_
  intro q2 hf
  exact pw_some hf
theorem mm_abort_fk {c : Int32} (hc : ¬ c = 0) (T : mm_T2) (hT : mm_FK2 c T) (S : md_S) (p1 : Int32) (p2 : Int32) (hf : S.1 10 = c) : dc_pw (mm_abort T S p1 p2) (fun q => q.1.1 10 = c) := by
  delta mm_abort
  refine pwK_call (hT.1 S hf) ?_
  intro q3 hf
  refine pw_let ?_
  intro v4
  refine pwK_callv (mm_mustWord_fk hc q3.1 2003330414 hf) ?_
  intro q5 hf
  refine pw_if ?_ ?_
  · exact mm_abort_L33_fk hc T hT q5 p1 p2 q3.2 v4 0 hf
  · refine pwK_call (mm_asked_r_fk hc q5 hf) ?_
    intro q6 hf
    exact mm_abort_L33_fk hc T hT q6.1 p1 p2 q3.2 v4 q6.2 hf
theorem mm_weak_L24_fk {c : Int32} (hc : ¬ c = 0) (T : mm_T2) (hT : mm_FK2 c T) (S : md_S) (y0 : Int32) (hf : S.1 10 = c) : dc_pw (mm_weak_L24 T S y0) (fun q => q.1.1 10 = c) := by
  delta mm_weak_L24
  exact pw_some hf
theorem mm_weak_fk {c : Int32} (hc : ¬ c = 0) (T : mm_T2) (hT : mm_FK2 c T) (S : md_S) (p1 : Int32) (hf : S.1 10 = c) : dc_pw (mm_weak T S p1) (fun q => q.1.1 10 = c) := by
  delta mm_weak
  refine pwK_callv (mm_mustWord_fk hc S 418263298676 hf) ?_
  intro q1 hf
  refine pw_if ?_ ?_
  · exact mm_weak_L24_fk hc T hT q1 0 hf
  · refine pwK_call (hT.2.2.2.2.2.2.2.2.2.1 q1 p1 1 hf) ?_
    intro q2 hf
    exact mm_weak_L24_fk hc T hT q2.1 q2.2 hf
theorem mm_every_L27_fk {c : Int32} (hc : ¬ c = 0) (T : mm_T2) (hT : mm_FK2 c T) (S : md_S) (x1 : Int32) (x2 : Int32) (y0 : Int32) (hf : S.1 10 = c) : dc_pw (mm_every_L27 T S x1 x2 y0) (fun q => q.1.1 10 = c) := by
  delta mm_every_L27
  refine pw_let ?_
  intro v1
  refine pwK_callv (mm_mustWord_fk hc S 6647396 hf) ?_
  intro q2 hf
  refine pwK_call (mm_await_fk hc q2 x1 x2 hf) ?_
  intro q3 hf
  refine pwK_call (mm_again_fk hc q3.1 x1 y0 x2 v1 hf) ?_
  intro q4 hf
  refine pw_any ?_
  intro q5
  refine pwK_i (by decide) hf ?_
  intro S6 hf
  refine pwK_call (mm_node_IIIIII_fk hc S6 5 q3.2 q4.2 (-1) x1 (-1) hf) ?_
  intro q7 hf
  exact pw_some hf
theorem mm_every_fk {c : Int32} (hc : ¬ c = 0) (T : mm_T2) (hT : mm_FK2 c T) (S : md_S) (p1 : Int32) (hf : S.1 10 = c) : dc_pw (mm_every T S p1) (fun q => q.1.1 10 = c) := by
  delta mm_every
  refine pwK_call (mm_asked_r_fk hc S hf) ?_
  intro q8 hf
  refine pwK_callv (mm_mustWord_fk hc q8.1 25711 hf) ?_
  intro q9 hf
  refine pw_if ?_ ?_
  · exact mm_every_L27_fk hc T hT q9 p1 q8.2 0 hf
  · refine pwK_call (hT.1 q9 hf) ?_
    intro q10 hf
    exact mm_every_L27_fk hc T hT q10.1 p1 q8.2 q10.2 hf
theorem mm_P2_fk {c : Int32} (hc : ¬ c = 0) : ∀ d : Nat, mm_FK2 c (mm_P2 d)
  | 0 => ⟨fun _ _ => pw_none, fun _ _ => pw_none, fun _ _ => pw_none, fun _ _ => pw_none, fun _ _ _ => pw_none, fun _ _ _ => pw_none, fun _ _ _ _ => pw_none, fun _ _ _ => pw_none, fun _ _ _ => pw_none, fun _ _ _ _ => pw_none, fun _ _ _ => pw_none, fun _ _ _ => pw_none⟩
  | d + 1 => ⟨mm_body_fk hc (mm_P2 d) (mm_P2_fk hc d), mm_row_fk hc (mm_P2 d) (mm_P2_fk hc d), mm_statement_fk hc (mm_P2 d) (mm_P2_fk hc d), mm_closed_fk hc (mm_P2 d) (mm_P2_fk hc d), mm_present_I_fk hc (mm_P2 d) (mm_P2_fk hc d), mm_suspend_fk hc (mm_P2 d) (mm_P2_fk hc d), mm_loop_fk hc (mm_P2 d) (mm_P2_fk hc d), mm_trap_fk hc (mm_P2 d) (mm_P2_fk hc d), mm_locals_fk hc (mm_P2 d) (mm_P2_fk hc d), mm_abort_fk hc (mm_P2 d) (mm_P2_fk hc d), mm_weak_fk hc (mm_P2 d) (mm_P2_fk hc d), mm_every_fk hc (mm_P2 d) (mm_P2_fk hc d)⟩
theorem mm_body_r_fk {c : Int32} (hc : ¬ c = 0) (S : md_S) (hf : S.1 10 = c) : dc_pw (mm_body_r S) (fun q => q.1.1 10 = c) := (mm_P2_fk hc mm_d2).1 S hf
theorem mm_row_r_fk {c : Int32} (hc : ¬ c = 0) (S : md_S) (hf : S.1 10 = c) : dc_pw (mm_row_r S) (fun q => q.1.1 10 = c) := (mm_P2_fk hc mm_d2).2.1 S hf
theorem mm_statement_r_fk {c : Int32} (hc : ¬ c = 0) (S : md_S) (hf : S.1 10 = c) : dc_pw (mm_statement_r S) (fun q => q.1.1 10 = c) := (mm_P2_fk hc mm_d2).2.2.1 S hf
theorem mm_closed_r_fk {c : Int32} (hc : ¬ c = 0) (S : md_S) (hf : S.1 10 = c) : dc_pw (mm_closed_r S) (fun q => q.1.1 10 = c) := (mm_P2_fk hc mm_d2).2.2.2.1 S hf
theorem mm_present_I_r_fk {c : Int32} (hc : ¬ c = 0) (S : md_S) (p1 : Int32) (hf : S.1 10 = c) : dc_pw (mm_present_I_r S p1) (fun q => q.1.1 10 = c) := (mm_P2_fk hc mm_d2).2.2.2.2.1 S p1 hf
theorem mm_suspend_r_fk {c : Int32} (hc : ¬ c = 0) (S : md_S) (p1 : Int32) (hf : S.1 10 = c) : dc_pw (mm_suspend_r S p1) (fun q => q.1.1 10 = c) := (mm_P2_fk hc mm_d2).2.2.2.2.2.1 S p1 hf
theorem mm_loop_r_fk {c : Int32} (hc : ¬ c = 0) (S : md_S) (p1 : Int32) (p2 : Int32) (hf : S.1 10 = c) : dc_pw (mm_loop_r S p1 p2) (fun q => q.1.1 10 = c) := (mm_P2_fk hc mm_d2).2.2.2.2.2.2.1 S p1 p2 hf
theorem mm_trap_r_fk {c : Int32} (hc : ¬ c = 0) (S : md_S) (p1 : Int32) (hf : S.1 10 = c) : dc_pw (mm_trap_r S p1) (fun q => q.1.1 10 = c) := (mm_P2_fk hc mm_d2).2.2.2.2.2.2.2.1 S p1 hf
theorem mm_locals_r_fk {c : Int32} (hc : ¬ c = 0) (S : md_S) (p1 : Int32) (hf : S.1 10 = c) : dc_pw (mm_locals_r S p1) (fun q => q.1.1 10 = c) := (mm_P2_fk hc mm_d2).2.2.2.2.2.2.2.2.1 S p1 hf
theorem mm_abort_r_fk {c : Int32} (hc : ¬ c = 0) (S : md_S) (p1 : Int32) (p2 : Int32) (hf : S.1 10 = c) : dc_pw (mm_abort_r S p1 p2) (fun q => q.1.1 10 = c) := (mm_P2_fk hc mm_d2).2.2.2.2.2.2.2.2.2.1 S p1 p2 hf
theorem mm_weak_r_fk {c : Int32} (hc : ¬ c = 0) (S : md_S) (p1 : Int32) (hf : S.1 10 = c) : dc_pw (mm_weak_r S p1) (fun q => q.1.1 10 = c) := (mm_P2_fk hc mm_d2).2.2.2.2.2.2.2.2.2.2.1 S p1 hf
theorem mm_every_r_fk {c : Int32} (hc : ¬ c = 0) (S : md_S) (p1 : Int32) (hf : S.1 10 = c) : dc_pw (mm_every_r S p1) (fun q => q.1.1 10 = c) := (mm_P2_fk hc mm_d2).2.2.2.2.2.2.2.2.2.2.2 S p1 hf
theorem mm_program_L241_fk {c : Int32} (hc : ¬ c = 0) (S : md_S) (x1 : Int32) (hf : S.1 10 = c) : dc_pw (mm_program_L241 S x1) (fun q => q.1.1 10 = c) := by
  delta mm_program_L241
  exact pw_some hf
theorem mm_program_L224_fk {c : Int32} (hc : ¬ c = 0) (S : md_S) (y0 : Int32) (hf : S.1 10 = c) : dc_pw (mm_program_L224 S y0) (fun q => q.1.1 10 = c) := by
  delta mm_program_L224
  refine pw_if ?_ ?_
  · exact mm_program_L241_fk hc S y0 hf
  · refine pwK_callv (mm_fail_fk hc S 1 (S.1 8) hf) ?_
    intro q1 hf
    exact mm_program_L241_fk hc q1 y0 hf
theorem mm_program_L196_fk {c : Int32} (hc : ¬ c = 0) (S : md_S) (hf : S.1 10 = c) : dc_pw (mm_program_L196 S) (fun q => q.1.1 10 = c) := by
  delta mm_program_L196
  refine pwK_i (by decide) hf ?_
  intro S2 hf
  refine pw_if ?_ ?_
  · exact mm_program_L224_fk hc S2 0 hf
  · refine pwK_call (mm_body_r_fk hc S2 hf) ?_
    intro q3 hf
    exact mm_program_L224_fk hc q3.1 q3.2 hf
theorem mm_program_L155_fk {c : Int32} (hc : ¬ c = 0) (S : md_S) (hf : S.1 10 = c) : dc_pw (mm_program_L155 S) (fun q => q.1.1 10 = c) := by
  delta mm_program_L155
  refine pwK_i (by decide) hf ?_
  intro S4 hf
  refine pwK_call (mm_meetsWord_fk hc S4 7304564 hf) ?_
  intro q5 hf
  refine pw_if ?_ ?_
  · exact mm_program_L196_fk hc q5.1 hf
  · refine pwK_callv (mm_list_fk hc q5.1 0 hf) ?_
    intro q6 hf
    refine pwK_call (mm_meetsSign_fk hc q6 59 hf) ?_
    intro q7 hf
    refine pw_if ?_ ?_
    · refine pwK_callv (mm_fail_fk hc q7.1 1 (q7.1.1 8) hf) ?_
      intro q8 hf
      exact mm_program_L196_fk hc q8 hf
    · exact mm_program_L196_fk hc q7.1 hf
theorem mm_program_L104_fk {c : Int32} (hc : ¬ c = 0) (S : md_S) (hf : S.1 10 = c) : dc_pw (mm_program_L104 S) (fun q => q.1.1 10 = c) := by
  delta mm_program_L104
  refine pw_if ?_ ?_
  · exact pw_some hf
  · refine pwK_i (by decide) hf ?_
    intro S9 hf
    refine pwK_callv (mm_advance_fk hc S9 hf) ?_
    intro q10 hf
    refine pwK_call (mm_meetsWord_fk hc q10 26990 hf) ?_
    intro q11 hf
    refine pw_if ?_ ?_
    · exact mm_program_L155_fk hc q11.1 hf
    · refine pwK_callv (mm_list_fk hc q11.1 0 hf) ?_
      intro q12 hf
      refine pwK_call (mm_meetsSign_fk hc q12 59 hf) ?_
      intro q13 hf
      refine pw_if ?_ ?_
      · refine pwK_callv (mm_fail_fk hc q13.1 1 (q13.1.1 8) hf) ?_
        intro q14 hf
        exact mm_program_L155_fk hc q14 hf
      · exact mm_program_L155_fk hc q13.1 hf
theorem mm_program_L94_fk {c : Int32} (hc : ¬ c = 0) (S : md_S) (x1 : Int32) (y0 : Int32) (y1 : Int32) (hf : S.1 10 = c) : dc_pw (mm_program_L94 S x1 y0 y1) (Sum.elim (fun (q : md_S × Int32) => q.1.1 10 = c) (fun (q : md_S) => q.1 10 = c)) := by
  delta mm_program_L94
  refine pwK_i (by decide) hf ?_
  intro S15 hf
  exact pw_some hf
theorem mm_program_L73_fk {c : Int32} (hc : ¬ c = 0) (S : md_S) (x1 : Int32) (hf : S.1 10 = c) : dc_pw (mm_program_L73 S x1) (Sum.elim (fun (q : md_S × Int32) => q.1.1 10 = c) (fun (q : md_S) => q.1 10 = c)) := by
  delta mm_program_L73
  refine pw_any ?_
  intro j16
  refine pw_if ?_ ?_
  · exact mm_program_L94_fk hc S x1 1 (S.1 5) hf
  · exact mm_program_L94_fk hc S x1 0 (S.1 5) hf
theorem mm_program_L59_fk {c : Int32} (hc : ¬ c = 0) (S : md_S) (x1 : Int32) (y0 : Int32) (hf : S.1 10 = c) : dc_pw (mm_program_L59 S x1 y0) (Sum.elim (fun (q : md_S × Int32) => q.1.1 10 = c) (fun (q : md_S) => q.1 10 = c)) := by
  delta mm_program_L59
  refine pw_if ?_ ?_
  · refine pwK_callv (mm_fail_fk hc S 1 (S.1 5) hf) ?_
    intro q17 hf
    exact mm_program_L73_fk hc q17 x1 hf
  · exact mm_program_L73_fk hc S x1 hf
theorem mm_program_L54_fk {c : Int32} (hc : ¬ c = 0) (S : md_S) (x1 : Int32) (hf : S.1 10 = c) : dc_pw (mm_program_L54 S x1) (Sum.elim (fun (q : md_S × Int32) => q.1.1 10 = c) (fun (q : md_S) => q.1 10 = c)) := by
  delta mm_program_L54
  exact mm_program_L59_fk hc S x1 1 hf
theorem mm_program_L32_fk {c : Int32} (hc : ¬ c = 0) (S : md_S) (x1 : Int32) (hf : S.1 10 = c) : dc_pw (mm_program_L32 S x1) (Sum.elim (fun (q : md_S × Int32) => q.1.1 10 = c) (fun (q : md_S) => q.1 10 = c)) := by
  delta mm_program_L32
  refine pw_any ?_
  intro j18
  refine pw_if ?_ ?_
  · exact mm_program_L54_fk hc S x1 hf
  · refine pw_any ?_
    intro j19
    refine pw_if ?_ ?_
    · exact mm_program_L54_fk hc S x1 hf
    · exact mm_program_L59_fk hc S x1 0 hf
theorem mm_program_b2_fk {c : Int32} (hc : ¬ c = 0) (S : md_S) (x1 : Int32) (hf : S.1 10 = c) : dc_pw (mm_program_b2 S x1) (Sum.elim (fun (q : md_S × Int32) => q.1.1 10 = c) (fun (q : md_S) => q.1 10 = c)) := by
  delta mm_program_b2
  refine pw_if ?_ ?_
  · refine pw_any ?_
    intro j20
    refine pw_if ?_ ?_
    · refine pw_any ?_
      intro j21
      refine pw_if ?_ ?_
      · exact mm_program_L54_fk hc S x1 hf
      · exact mm_program_L32_fk hc S x1 hf
    · exact mm_program_L32_fk hc S x1 hf
  · exact pw_some hf
theorem mm_program_L2_fk {c : Int32} (hc : ¬ c = 0) (S : md_S) (x1 : Int32) (hf : S.1 10 = c) : dc_pw (mm_program_L2 S x1) (fun q => q.1.1 10 = c) := by
  delta mm_program_L2
  refine pw_loop (fun (q : md_S × Int32) => q.1.1 10 = c) (fun (q : md_S) => q.1 10 = c) hf ?_ ?_
  · rintro ⟨S, x1⟩ hf
    exact mm_program_b2_fk hc S x1 hf
  · rintro Sz hf
    exact mm_program_L104_fk hc Sz hf
theorem mm_program_fk {c : Int32} (hc : ¬ c = 0) (S : md_S) (hf : S.1 10 = c) : dc_pw (mm_program S) (fun q => q.1.1 10 = c) := by
  delta mm_program
  exact mm_program_L2_fk hc S 0 hf
