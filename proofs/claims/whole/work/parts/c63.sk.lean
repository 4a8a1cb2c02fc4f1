/-! the reference's reader behind a fault or at a token that is none; written by wip/gen/sk.py -/
def bad (φ : Int32) (S : md_S) : Prop := S.1 10 = 0 ∧ tokS none (S.1 6) S.2.2.1 ∧ φ = 1 + 8 * S.1 8
def stk (φ : Int32) (S : md_S) : Prop := S.1 10 = φ ∨ bad φ S
theorem md_ii {S : md_S} {k : Nat} {v : Int32} : (md_i S k v).1 k = v := by
  show (if k = k then v else S.1 k) = v
  exact if_pos rfl
theorem md_ij {S : md_S} {k j : Nat} {v : Int32} (h : ¬ j = k) : (md_i S k v).1 j = S.1 j := if_neg h
section MDSK
variable {c : Int32} {S : md_S} {τ : Type} {F : τ → Prop} {f : md_S → Option τ}
theorem stk_i {k : Nat} {v : Int32} (h6 : ¬ 6 = k) (h8 : ¬ 8 = k) (h10 : ¬ 10 = k) (hf : stk c S) : stk c (md_i S k v) := by
  have e6 : (md_i S k v).1 6 = S.1 6 := if_neg h6
  have e8 : (md_i S k v).1 8 = S.1 8 := if_neg h8
  have e10 : (md_i S k v).1 10 = S.1 10 := if_neg h10
  rcases hf with hf | ⟨h1, h2, h3⟩
  · exact Or.inl (e10.trans hf)
  · refine Or.inr ⟨e10.trans h1, ?_, ?_⟩
    · rw [e6]; exact h2
    · rw [e8]; exact h3
theorem pwT_i {k : Nat} {v : Int32} (h6 : ¬ 6 = k) (h8 : ¬ 8 = k) (h10 : ¬ 10 = k) (hf : stk c S) (kk : ∀ S1 : md_S, stk c S1 → dc_pw (f S1) F) : dc_pw (dc_let (md_i S k v) f) F := kk (md_i S k v) (stk_i h6 h8 h10 hf)
theorem pwT_a {k i : Nat} {v : Int32} (hf : stk c S) (kk : ∀ S1 : md_S, stk c S1 → dc_pw (f S1) F) : dc_pw (dc_let (md_a S k i v) f) F := kk (md_a S k i v) hf
theorem pwT_call {ρ : Type} {E : Option (md_S × ρ)} {g : md_S × ρ → Option τ} (h : dc_pw E (fun q => stk c q.1)) (kk : ∀ q : md_S × ρ, stk c q.1 → dc_pw (g q) F) : dc_pw (E.bind g) F := pw_bind h kk
theorem pwT_callv {E : Option md_S} {g : md_S → Option τ} (h : dc_pw E (fun q => stk c q)) (kk : ∀ q : md_S, stk c q → dc_pw (g q) F) : dc_pw (E.bind g) F := pw_bind h kk
theorem pwT_F {ρ : Type} {E : Option (md_S × ρ)} (h : dc_pw E (fun q => q.1.1 10 = c)) : dc_pw E (fun q => stk c q.1) := fun q e => Or.inl (h q e)
theorem pwT_Fv {E : Option md_S} (h : dc_pw E (fun q => q.1 10 = c)) : dc_pw E (fun q => stk c q) := fun q e => Or.inl (h q e)
theorem bad_word (h : bad c S) (w : Int64) : mm_isWord S w = some 0 := by
  rw [isWord_e, if_neg (fun z => (tk_bad h.2.1).2.1 z.1)]
theorem bad_kept (h : bad c S) : mm_isKept S = some 0 := by
  rw [isKept_e, if_neg (fun z => (tk_bad h.2.1).2.1 z.1)]
theorem bad_name (h : bad c S) : mm_isName S = some 0 := by
  rw [isName_e, if_neg (fun z => (tk_bad h.2.1).2.1 z.1)]
theorem bad_sign (h : bad c S) {p : Int32} (i : Nat) (hi : i < 5) (e : Int32.toInt64 p = sg.getD i 0) : mm_isSign S p = some 0 := by
  rw [isSign_e, if_neg]
  rintro ⟨z1, z2⟩
  exact (tk_bad h.2.1).2.2 i hi ⟨z1, z2.trans e⟩
theorem bad_fail (hc : ¬ c = 0) (h : bad c S) {p : Int32} (e : p = S.1 8) {g : md_S → Option τ} (kk : ∀ q : md_S, q.1 10 = c → dc_pw (g q) F) : dc_pw ((mm_fail S 1 p).bind g) F := by
  subst e
  have e1 : mm_fail S 1 (S.1 8) = some (md_i S 10 (1 + 8 * S.1 8)) := by
    delta mm_fail
    rw [if_pos h.1]
    rfl
  rw [e1, Option.bind_some]
  exact kk _ ((md_ii (S := S)).trans h.2.2.symm)
theorem mm_fail_sk (hc : ¬ c = 0) (S : md_S) (p1 p2 : Int32) (h1 : p1 = 1) (h2 : p2 = S.1 8) (hf : stk c S) : dc_pw (mm_fail S p1 p2) (fun q => stk c q) := by
  subst h1
  rcases hf with hf | hb
  · exact pwT_Fv (mm_fail_fk hc S _ _ hf)
  · subst h2
    have e1 : mm_fail S 1 (S.1 8) = some (md_i S 10 (1 + 8 * S.1 8)) := by
      delta mm_fail
      rw [if_pos hb.1]
      rfl
    rw [e1]
    exact pw_some (Or.inl ((md_ii (S := S)).trans hb.2.2.symm))
end MDSK

theorem mm_meetsWord_sk {c : Int32} (hc : ¬ c = 0) (S : md_S) (p1 : Int64) (hf : stk c S) : dc_pw (mm_meetsWord S p1) (fun q => stk c q.1) := by
  rcases hf with hf | hb
  · exact pwT_F (mm_meetsWord_fk hc S p1 hf)
  · delta mm_meetsWord
    rw [bad_word hb, Option.bind_some, if_pos rfl]
    exact pw_if (pw_some (Or.inr hb)) (pw_some (Or.inr hb))
theorem mm_meetsSign_sk {c : Int32} (hc : ¬ c = 0) (S : md_S) (p1 : Int32) (i : Nat) (hi : i < 5) (e : Int32.toInt64 p1 = sg.getD i 0) (hf : stk c S) : dc_pw (mm_meetsSign S p1) (fun q => stk c q.1) := by
  rcases hf with hf | hb
  · exact pwT_F (mm_meetsSign_fk hc S p1 hf)
  · delta mm_meetsSign
    rw [bad_sign hb i hi e, Option.bind_some, if_pos rfl]
    exact pw_if (pw_some (Or.inr hb)) (pw_some (Or.inr hb))
theorem mm_list_L2_sk {c : Int32} (hc : ¬ c = 0) (S : md_S) (x1 x2 : Int32) (hf : stk c S) : dc_pw (mm_list_L2 S x1 x2) (fun q => stk c q) := by
  delta mm_list_L2
  refine pw_loop (fun (q : md_S × Int32) => stk c q.1) (Sum.elim (fun (q : md_S) => stk c q) (fun (q : md_S) => stk c q)) hf ?_ ?_
  · rintro ⟨S, x2⟩ hf
    show dc_pw (mm_list_b2 S x1 x2) _
    rcases hf with hf | hb
    · intro q e
      have k := mm_list_b2_fk hc S x1 x2 hf q e
      rcases q with q | q | q
      · exact Or.inl k
      · exact Or.inl k
      · exact Or.inl k
    · delta mm_list_b2
      refine pw_if (pw_some (Or.inr hb)) ?_
      rw [if_pos hb.1, bad_name hb, Option.bind_some, if_pos rfl]
      refine bad_fail hc hb rfl (fun q e => ?_)
      intro r er
      have k := mm_list_L50_fk hc q x1 e r er
      rcases r with r | r | r
      · exact Or.inl k
      · exact Or.inl k
      · exact Or.inl k
  · rintro (q | q) hf
    · exact pw_some hf
    · exact pw_some hf
theorem mm_list_sk {c : Int32} (hc : ¬ c = 0) (S : md_S) (p1 : Int32) (hf : stk c S) : dc_pw (mm_list S p1) (fun q => stk c q) := mm_list_L2_sk hc S p1 1 hf
theorem mm_named_sk {c : Int32} (hc : ¬ c = 0) (S : md_S) (p1 : Int32) (hf : stk c S) : dc_pw (mm_named S p1) (fun q => stk c q.1) := by
  rcases hf with hf | hb
  · exact pwT_F (mm_named_fk hc S p1 hf)
  · delta mm_named
    rw [bad_name hb, Option.bind_some, if_pos rfl]
    exact pwT_F (bad_fail hc hb rfl (fun q e => mm_named_L16_fk hc q p1 e))
theorem mm_piece_III_sk {c : Int32} (hc : ¬ c = 0) (S : md_S) (p1 : Int32) (p2 : Int32) (p3 : Int32) (hf : stk c S) : dc_pw (mm_piece_III S p1 p2 p3) (fun q => stk c q.1) := by
  delta mm_piece_III
  refine pw_if ?_ ?_
  · refine pwT_i (by decide) (by decide) (by decide) hf ?_
    intro S1 hf
    exact pw_some hf
  · refine pw_any ?_
    intro j2
    refine pwT_a hf ?_
    intro S3 hf
    refine pw_any ?_
    intro j4
    refine pwT_a hf ?_
    intro S5 hf
    refine pw_any ?_
    intro j6
    refine pwT_a hf ?_
    intro S7 hf
    refine pwT_i (by decide) (by decide) (by decide) hf ?_
    intro S8 hf
    exact pw_some hf
def mm_SK1 (c : Int32) (T : mm_T1) : Prop := mm_FK1 c T ∧ (∀ (S : md_S) (_ : stk c S), dc_pw (T.1 S) (fun q => stk c q.1)) ∧ (∀ (S : md_S) (_ : stk c S), dc_pw (T.2.1 S) (fun q => stk c q.1)) ∧ (∀ (S : md_S) (_ : stk c S), dc_pw (T.2.2 S) (fun q => stk c q.1))
theorem mm_asked_L29_sk {c : Int32} (hc : ¬ c = 0) (T : mm_T1) (hT : mm_SK1 c T) (S : md_S) (x1 : Int32) (hf : stk c S) : dc_pw (mm_asked_L29 T S x1) (fun q => stk c q.1) := by
  delta mm_asked_L29
  exact pw_some hf
theorem mm_asked_b5_sk {c : Int32} (hc : ¬ c = 0) (T : mm_T1) (hT : mm_SK1 c T) (S : md_S) (x1 : Int32) (hf : stk c S) : dc_pw (mm_asked_b5 T S x1) (Sum.elim (fun (q : md_S × Int32) => stk c q.1) (fun (q : md_S × Int32) => stk c q.1)) := by
  delta mm_asked_b5
  refine pwT_call (mm_meetsWord_sk hc S 28530 hf) ?_
  intro q1 hf
  refine pw_if ?_ ?_
  · exact pw_some hf
  · refine pwT_call (hT.2.2.1 q1.1 hf) ?_
    intro q2 hf
    refine pwT_call (mm_piece_III_sk hc q2.1 3 x1 q2.2 hf) ?_
    intro q3 hf
    exact pw_some hf
theorem mm_asked_L5_sk {c : Int32} (hc : ¬ c = 0) (T : mm_T1) (hT : mm_SK1 c T) (S : md_S) (x1 : Int32) (hf : stk c S) : dc_pw (mm_asked_L5 T S x1) (fun q => stk c q.1) := by
  delta mm_asked_L5
  refine pw_loop (fun (q : md_S × Int32) => stk c q.1) (fun (q : md_S × Int32) => stk c q.1) hf ?_ ?_
  · rintro ⟨S, x1⟩ hf
    exact mm_asked_b5_sk hc T hT S x1 hf
  · rintro ⟨Sz, z0⟩ hf
    exact mm_asked_L29_sk hc T hT Sz z0 hf
theorem mm_asked_sk {c : Int32} (hc : ¬ c = 0) (T : mm_T1) (hT : mm_SK1 c T) (S : md_S) (hf : stk c S) : dc_pw (mm_asked T S) (fun q => stk c q.1) := by
  delta mm_asked
  refine pwT_call (hT.2.2.1 S hf) ?_
  intro q4 hf
  exact mm_asked_L5_sk hc T hT q4.1 q4.2 hf
theorem mm_clause_L29_sk {c : Int32} (hc : ¬ c = 0) (T : mm_T1) (hT : mm_SK1 c T) (S : md_S) (x1 : Int32) (hf : stk c S) : dc_pw (mm_clause_L29 T S x1) (fun q => stk c q.1) := by
  delta mm_clause_L29
  exact pw_some hf
theorem mm_clause_b5_sk {c : Int32} (hc : ¬ c = 0) (T : mm_T1) (hT : mm_SK1 c T) (S : md_S) (x1 : Int32) (hf : stk c S) : dc_pw (mm_clause_b5 T S x1) (Sum.elim (fun (q : md_S × Int32) => stk c q.1) (fun (q : md_S × Int32) => stk c q.1)) := by
  delta mm_clause_b5
  refine pwT_call (mm_meetsWord_sk hc S 6385252 hf) ?_
  intro q1 hf
  refine pw_if ?_ ?_
  · exact pw_some hf
  · refine pwT_call (hT.2.2.2 q1.1 hf) ?_
    intro q2 hf
    refine pwT_call (mm_piece_III_sk hc q2.1 2 x1 q2.2 hf) ?_
    intro q3 hf
    exact pw_some hf
theorem mm_clause_L5_sk {c : Int32} (hc : ¬ c = 0) (T : mm_T1) (hT : mm_SK1 c T) (S : md_S) (x1 : Int32) (hf : stk c S) : dc_pw (mm_clause_L5 T S x1) (fun q => stk c q.1) := by
  delta mm_clause_L5
  refine pw_loop (fun (q : md_S × Int32) => stk c q.1) (fun (q : md_S × Int32) => stk c q.1) hf ?_ ?_
  · rintro ⟨S, x1⟩ hf
    exact mm_clause_b5_sk hc T hT S x1 hf
  · rintro ⟨Sz, z0⟩ hf
    exact mm_clause_L29_sk hc T hT Sz z0 hf
theorem mm_clause_sk {c : Int32} (hc : ¬ c = 0) (T : mm_T1) (hT : mm_SK1 c T) (S : md_S) (hf : stk c S) : dc_pw (mm_clause T S) (fun q => stk c q.1) := by
  delta mm_clause
  refine pwT_call (hT.2.2.2 S hf) ?_
  intro q4 hf
  exact mm_clause_L5_sk hc T hT q4.1 q4.2 hf
theorem mm_part_sk {c : Int32} (hc : ¬ c = 0) (T : mm_T1) (hT : mm_SK1 c T) (S : md_S) (hf : stk c S) : dc_pw (mm_part T S) (fun q => stk c q.1) := by
  rcases hf with hf | hb
  · exact pwT_F (mm_part_fk hc T hT.1 S hf)
  · delta mm_part
    rw [bad_word hb, Option.bind_some, if_pos rfl, bad_sign hb 2 (by decide) (by decide), Option.bind_some, if_pos rfl]
    refine pwT_call (mm_named_sk hc S 0 (Or.inr hb)) (fun q hf => ?_)
    exact pwT_call (mm_piece_III_sk hc _ _ _ _ hf) (fun q hf => pw_some hf)
theorem mm_P1_sk {c : Int32} (hc : ¬ c = 0) : ∀ d : Nat, mm_SK1 c (mm_P1 d)
  | 0 => ⟨mm_P1_fk hc 0, fun _ _ => pw_none, fun _ _ => pw_none, fun _ _ => pw_none⟩
  | d + 1 => ⟨mm_P1_fk hc (d + 1), mm_asked_sk hc (mm_P1 d) (mm_P1_sk hc d), mm_clause_sk hc (mm_P1 d) (mm_P1_sk hc d), mm_part_sk hc (mm_P1 d) (mm_P1_sk hc d)⟩
theorem mm_asked_r_sk {c : Int32} (hc : ¬ c = 0) (S : md_S) (hf : stk c S) : dc_pw (mm_asked_r S) (fun q => stk c q.1) := (mm_P1_sk hc mm_d1).2.1 S hf
theorem mm_clause_r_sk {c : Int32} (hc : ¬ c = 0) (S : md_S) (hf : stk c S) : dc_pw (mm_clause_r S) (fun q => stk c q.1) := (mm_P1_sk hc mm_d1).2.2.1 S hf
theorem mm_part_r_sk {c : Int32} (hc : ¬ c = 0) (S : md_S) (hf : stk c S) : dc_pw (mm_part_r S) (fun q => stk c q.1) := (mm_P1_sk hc mm_d1).2.2.2 S hf
theorem mm_mustWord_L17_sk {c : Int32} (hc : ¬ c = 0) (S : md_S) (hf : stk c S) : dc_pw (mm_mustWord_L17 S) (fun q => stk c q) := by
  delta mm_mustWord_L17
  exact pw_some hf
theorem mm_mustWord_sk {c : Int32} (hc : ¬ c = 0) (S : md_S) (p1 : Int64) (hf : stk c S) : dc_pw (mm_mustWord S p1) (fun q => stk c q) := by
  delta mm_mustWord
  refine pwT_call (mm_meetsWord_sk hc S p1 hf) ?_
  intro q1 hf
  refine pw_if ?_ ?_
  · refine pwT_callv (mm_fail_sk hc q1.1 1 (q1.1.1 8) rfl rfl hf) ?_
    intro q2 hf
    exact mm_mustWord_L17_sk hc q2 hf
  · exact mm_mustWord_L17_sk hc q1.1 hf
theorem mm_node_IIIIII_sk {c : Int32} (hc : ¬ c = 0) (S : md_S) (p1 : Int32) (p2 : Int32) (p3 : Int32) (p4 : Int32) (p5 : Int32) (p6 : Int32) (hf : stk c S) : dc_pw (mm_node_IIIIII S p1 p2 p3 p4 p5 p6) (fun q => stk c q.1) := by
  delta mm_node_IIIIII
  refine pw_if ?_ ?_
  · refine pwT_i (by decide) (by decide) (by decide) hf ?_
    intro S1 hf
    exact pw_some hf
  · refine pw_any ?_
    intro j2
    refine pwT_a hf ?_
    intro S3 hf
    refine pw_any ?_
    intro j4
    refine pwT_a hf ?_
    intro S5 hf
    refine pw_any ?_
    intro j6
    refine pwT_a hf ?_
    intro S7 hf
    refine pw_any ?_
    intro j8
    refine pwT_a hf ?_
    intro S9 hf
    refine pw_any ?_
    intro j10
    refine pwT_a hf ?_
    intro S11 hf
    refine pw_any ?_
    intro j12
    refine pwT_a hf ?_
    intro S13 hf
    refine pwT_i (by decide) (by decide) (by decide) hf ?_
    intro S14 hf
    exact pw_some hf
theorem mm_leaf_sk {c : Int32} (hc : ¬ c = 0) (S : md_S) (p1 : Int32) (p2 : Int32) (p3 : Int32) (hf : stk c S) : dc_pw (mm_leaf S p1 p2 p3) (fun q => stk c q.1) := by
  delta mm_leaf
  refine pwT_call (mm_node_IIIIII_sk hc S p1 (-1) (-1) p2 p3 (-1) hf) ?_
  intro q1 hf
  exact pw_some hf
theorem mm_halt_sk {c : Int32} (hc : ¬ c = 0) (S : md_S) (p1 : Int32) (hf : stk c S) : dc_pw (mm_halt S p1) (fun q => stk c q.1) := by
  delta mm_halt
  refine pwT_call (mm_leaf_sk hc S 1 (-1) p1 hf) ?_
  intro q1 hf
  refine pwT_call (mm_node_IIIIII_sk hc q1.1 6 q1.2 (-1) (-1) p1 (-1) hf) ?_
  intro q2 hf
  exact pw_some hf
theorem mm_waiting_sk {c : Int32} (hc : ¬ c = 0) (S : md_S) (p1 : Int32) (p2 : Int32) (p3 : Int32) (hf : stk c S) : dc_pw (mm_waiting S p1 p2 p3) (fun q => stk c q.1) := by
  delta mm_waiting
  refine pwT_call (mm_leaf_sk hc S 1 (-1) p1 hf) ?_
  intro q1 hf
  refine pwT_call (mm_leaf_sk hc q1.1 9 p3 p1 hf) ?_
  intro q2 hf
  refine pwT_call (mm_leaf_sk hc q2.1 0 (-1) p1 hf) ?_
  intro q3 hf
  refine pwT_call (mm_node_IIIIII_sk hc q3.1 3 q2.2 q3.2 (-1) p1 p2 hf) ?_
  intro q4 hf
  refine pwT_call (mm_node_IIIIII_sk hc q4.1 5 q1.2 q4.2 (-1) p1 (-1) hf) ?_
  intro q5 hf
  refine pwT_call (mm_node_IIIIII_sk hc q5.1 6 q5.2 (-1) (-1) p1 (-1) hf) ?_
  intro q6 hf
  exact pw_some hf
theorem mm_aborted_L78_sk {c : Int32} (hc : ¬ c = 0) (S : md_S) (x1 : Int32) (x3 : Int32) (x6 : Int32) (y0 : Int32) (hf : stk c S) : dc_pw (mm_aborted_L78 S x1 x3 x6 y0) (fun q => stk c q.1) := by
  delta mm_aborted_L78
  refine pwT_call (mm_leaf_sk hc S 9 x6 x1 hf) ?_
  intro q1 hf
  refine pwT_call (mm_node_IIIIII_sk hc q1.1 5 y0 q1.2 (-1) x1 (-1) hf) ?_
  intro q2 hf
  refine pwT_call (mm_waiting_sk hc q2.1 x1 x3 x6 hf) ?_
  intro q3 hf
  refine pwT_call (mm_node_IIIIII_sk hc q3.1 7 q2.2 q3.2 (-1) x1 (-1) hf) ?_
  intro q4 hf
  refine pwT_call (mm_node_IIIIII_sk hc q4.1 8 q4.2 (-1) x6 x1 (-1) hf) ?_
  intro q5 hf
  exact pw_some hf
theorem mm_aborted_L49_sk {c : Int32} (hc : ¬ c = 0) (S : md_S) (x1 : Int32) (x2 : Int32) (x3 : Int32) (x4 : Int32) (x6 : Int32) (y0 : Int32) (hf : stk c S) : dc_pw (mm_aborted_L49 S x1 x2 x3 x4 x6 y0) (fun q => stk c q.1) := by
  delta mm_aborted_L49
  refine pw_any ?_
  intro q6
  refine pw_any ?_
  intro q7
  refine pwT_i (by decide) (by decide) (by decide) hf ?_
  intro S8 hf
  refine pw_if ?_ ?_
  · refine pwT_call (mm_node_IIIIII_sk hc S8 4 x2 (-1) (-1) x1 x3 hf) ?_
    intro q9 hf
    exact mm_aborted_L78_sk hc q9.1 x1 x3 x6 q9.2 hf
  · exact mm_aborted_L78_sk hc S8 x1 x3 x6 x2 hf
theorem mm_aborted_sk {c : Int32} (hc : ¬ c = 0) (S : md_S) (p1 : Int32) (p2 : Int32) (p3 : Int32) (p4 : Int32) (p5 : Int32) (hf : stk c S) : dc_pw (mm_aborted S p1 p2 p3 p4 p5) (fun q => stk c q.1) := by
  delta mm_aborted
  refine pwT_i (by decide) (by decide) (by decide) hf ?_
  intro S10 hf
  refine pw_let ?_
  intro v11
  refine pw_let ?_
  intro v12
  refine pw_if ?_ ?_
  · exact mm_aborted_L49_sk hc S10 p1 p2 p3 p4 v11 v12 hf
  · exact mm_aborted_L49_sk hc S10 p1 p2 p3 p4 v11 ((v12 &&& (-2)) ||| 4) hf
theorem mm_again_sk {c : Int32} (hc : ¬ c = 0) (S : md_S) (p1 : Int32) (p2 : Int32) (p3 : Int32) (p4 : Int32) (hf : stk c S) : dc_pw (mm_again S p1 p2 p3 p4) (fun q => stk c q.1) := by
  delta mm_again
  refine pwT_call (mm_halt_sk hc S p1 hf) ?_
  intro q1 hf
  refine pwT_call (mm_node_IIIIII_sk hc q1.1 5 p2 q1.2 (-1) p1 (-1) hf) ?_
  intro q2 hf
  refine pw_any ?_
  intro q3
  refine pwT_call (mm_aborted_sk hc q2.1 p1 q2.2 p3 0 q3 hf) ?_
  intro q4 hf
  refine pwT_call (mm_node_IIIIII_sk hc q4.1 6 q4.2 (-1) (-1) p1 (-1) hf) ?_
  intro q5 hf
  exact pw_some hf
theorem mm_await_sk {c : Int32} (hc : ¬ c = 0) (S : md_S) (p1 : Int32) (p2 : Int32) (hf : stk c S) : dc_pw (mm_await S p1 p2) (fun q => stk c q.1) := by
  delta mm_await
  refine pwT_i (by decide) (by decide) (by decide) hf ?_
  intro S1 hf
  refine pw_let ?_
  intro v2
  refine pwT_i (by decide) (by decide) (by decide) hf ?_
  intro S3 hf
  refine pwT_call (mm_waiting_sk hc S3 p1 p2 v2 hf) ?_
  intro q4 hf
  refine pwT_call (mm_node_IIIIII_sk hc q4.1 8 q4.2 (-1) v2 p1 (-1) hf) ?_
  intro q5 hf
  exact pw_some hf
theorem mm_exit_sk {c : Int32} (hc : ¬ c = 0) (S : md_S) (p1 : Int32) (hf : stk c S) : dc_pw (mm_exit S p1) (fun q => stk c q.1) := by
  rcases hf with hf | hb
  · exact pwT_F (mm_exit_fk hc S p1 hf)
  · delta mm_exit
    rw [bad_name hb, Option.bind_some, if_pos rfl]
    exact pwT_F (bad_fail hc hb rfl (fun q e => mm_exit_L16_fk hc q p1 e))
theorem mm_simple_JI_L22_sk {c : Int32} (hc : ¬ c = 0) (S : md_S) (x1 : Int64) (x3 : Int32) (y0 : Int32) (hf : stk c S) : dc_pw (mm_simple_JI_L22 S x1 x3 y0) (fun q => stk c q.1) := by
  delta mm_simple_JI_L22
  refine pwT_i (by decide) (by decide) (by decide) hf ?_
  intro S1 hf
  refine pw_if ?_ ?_
  · refine pwT_call (mm_leaf_sk hc S1 0 (-1) x3 hf) ?_
    intro q2 hf
    exact pw_some hf
  · refine pw_if ?_ ?_
    · refine pwT_call (mm_leaf_sk hc S1 1 (-1) x3 hf) ?_
      intro q3 hf
      exact pw_some hf
    · refine pw_if ?_ ?_
      · refine pwT_call (mm_halt_sk hc S1 x3 hf) ?_
        intro q4 hf
        exact pw_some hf
      · refine pw_if ?_ ?_
        · refine pwT_call (mm_named_sk hc S1 1 hf) ?_
          intro q5 hf
          refine pwT_call (mm_leaf_sk hc q5.1 2 q5.2 x3 hf) ?_
          intro q6 hf
          exact pw_some hf
        · refine pw_if ?_ ?_
          · refine pwT_call (mm_exit_sk hc S1 x3 hf) ?_
            intro q7 hf
            exact pw_some hf
          · refine pw_if ?_ ?_
            · refine pwT_call (mm_named_sk hc S1 1 hf) ?_
              intro q8 hf
              refine pwT_call (mm_leaf_sk hc q8.1 2 q8.2 x3 hf) ?_
              intro q9 hf
              refine pwT_call (mm_leaf_sk hc q9.1 1 (-1) x3 hf) ?_
              intro q10 hf
              refine pwT_call (mm_node_IIIIII_sk hc q10.1 5 q9.2 q10.2 (-1) x3 (-1) hf) ?_
              intro q11 hf
              refine pwT_call (mm_node_IIIIII_sk hc q11.1 6 q11.2 (-1) (-1) x3 (-1) hf) ?_
              intro q12 hf
              exact pw_some hf
            · refine pwT_call (mm_asked_r_sk hc S1 hf) ?_
              intro q13 hf
              refine pwT_call (mm_await_sk hc q13.1 x3 q13.2 hf) ?_
              intro q14 hf
              exact pw_some hf
theorem mm_simple_JI_L17_sk {c : Int32} (hc : ¬ c = 0) (S : md_S) (x1 : Int64) (x3 : Int32) (hf : stk c S) : dc_pw (mm_simple_JI_L17 S x1 x3) (fun q => stk c q.1) := by
  delta mm_simple_JI_L17
  exact mm_simple_JI_L22_sk hc S x1 x3 1 hf
theorem mm_simple_JI_sk {c : Int32} (hc : ¬ c = 0) (S : md_S) (p1 : Int64) (p3 : Int32) (hf : stk c S) : dc_pw (mm_simple_JI S p1 p3) (fun q => stk c q.1) := by
  delta mm_simple_JI
  refine pw_if ?_ ?_
  · exact mm_simple_JI_L17_sk hc S p1 p3 hf
  · refine pw_if ?_ ?_
    · exact mm_simple_JI_L17_sk hc S p1 p3 hf
    · exact mm_simple_JI_L22_sk hc S p1 p3 2 hf
def mm_SK2 (c : Int32) (T : mm_T2) : Prop := mm_FK2 c T ∧ (∀ (S : md_S) (_ : stk c S), dc_pw (T.1 S) (fun q => stk c q.1)) ∧ (∀ (S : md_S) (_ : stk c S), dc_pw (T.2.1 S) (fun q => stk c q.1)) ∧ (∀ (S : md_S) (_ : stk c S), dc_pw (T.2.2.1 S) (fun q => stk c q.1)) ∧ (∀ (S : md_S) (_ : stk c S), dc_pw (T.2.2.2.1 S) (fun q => stk c q.1)) ∧ (∀ (S : md_S) (p1 : Int32) (_ : stk c S), dc_pw (T.2.2.2.2.1 S p1) (fun q => stk c q.1)) ∧ (∀ (S : md_S) (p1 : Int32) (_ : stk c S), dc_pw (T.2.2.2.2.2.1 S p1) (fun q => stk c q.1)) ∧ (∀ (S : md_S) (p1 : Int32) (p2 : Int32) (_ : stk c S), dc_pw (T.2.2.2.2.2.2.1 S p1 p2) (fun q => stk c q.1)) ∧ (∀ (S : md_S) (p1 : Int32) (_ : stk c S), dc_pw (T.2.2.2.2.2.2.2.1 S p1) (fun q => stk c q.1)) ∧ (∀ (S : md_S) (p1 : Int32) (_ : stk c S), dc_pw (T.2.2.2.2.2.2.2.2.1 S p1) (fun q => stk c q.1)) ∧ (∀ (S : md_S) (p1 : Int32) (p2 : Int32) (_ : stk c S), dc_pw (T.2.2.2.2.2.2.2.2.2.1 S p1 p2) (fun q => stk c q.1)) ∧ (∀ (S : md_S) (p1 : Int32) (_ : stk c S), dc_pw (T.2.2.2.2.2.2.2.2.2.2.1 S p1) (fun q => stk c q.1)) ∧ (∀ (S : md_S) (p1 : Int32) (_ : stk c S), dc_pw (T.2.2.2.2.2.2.2.2.2.2.2 S p1) (fun q => stk c q.1))
theorem mm_body_L54_sk {c : Int32} (hc : ¬ c = 0) (T : mm_T2) (hT : mm_SK2 c T) (S : md_S) (x1 : Int32) (x2 : Int32) (hf : stk c S) : dc_pw (mm_body_L54 T S x1 x2) (fun q => stk c q.1) := by
  delta mm_body_L54
  refine pwT_i (by decide) (by decide) (by decide) hf ?_
  intro S1 hf
  exact pw_some hf
theorem mm_body_b10_sk {c : Int32} (hc : ¬ c = 0) (T : mm_T2) (hT : mm_SK2 c T) (S : md_S) (x1 : Int32) (x2 : Int32) (hf : stk c S) : dc_pw (mm_body_b10 T S x1 x2) (Sum.elim (fun (q : md_S × Int32 × Int32) => stk c q.1) (fun (q : md_S × Int32 × Int32) => stk c q.1)) := by
  delta mm_body_b10
  refine pwT_call (mm_meetsSign_sk hc S 256 4 (by decide) (by decide) hf) ?_
  intro q2 hf
  refine pw_if ?_ ?_
  · exact pw_some hf
  · refine pwT_call (hT.2.2.1 q2.1 hf) ?_
    intro q3 hf
    refine pw_any ?_
    intro q4
    refine pw_any ?_
    intro j5
    refine pwT_call (mm_node_IIIIII_sk hc q3.1 7 x1 q3.2 (-1) (q3.1.2.1 34 j5) (-1) hf) ?_
    intro q6 hf
    exact pw_some hf
theorem mm_body_L10_sk {c : Int32} (hc : ¬ c = 0) (T : mm_T2) (hT : mm_SK2 c T) (S : md_S) (x1 : Int32) (x2 : Int32) (hf : stk c S) : dc_pw (mm_body_L10 T S x1 x2) (fun q => stk c q.1) := by
  delta mm_body_L10
  refine pw_loop (fun (q : md_S × Int32 × Int32) => stk c q.1) (fun (q : md_S × Int32 × Int32) => stk c q.1) hf ?_ ?_
  · rintro ⟨S, x1, x2⟩ hf
    exact mm_body_b10_sk hc T hT S x1 x2 hf
  · rintro ⟨Sz, z0, z1⟩ hf
    exact mm_body_L54_sk hc T hT Sz z0 z1 hf
theorem mm_body_sk {c : Int32} (hc : ¬ c = 0) (T : mm_T2) (hT : mm_SK2 c T) (S : md_S) (hf : stk c S) : dc_pw (mm_body T S) (fun q => stk c q.1) := by
  delta mm_body
  refine pwT_call (hT.2.2.1 S hf) ?_
  intro q7 hf
  refine pw_let ?_
  intro v8
  exact mm_body_L10_sk hc T hT q7.1 q7.2 v8 hf
theorem mm_row_L52_sk {c : Int32} (hc : ¬ c = 0) (T : mm_T2) (hT : mm_SK2 c T) (S : md_S) (x1 : Int32) (x2 : Int32) (hf : stk c S) : dc_pw (mm_row_L52 T S x1 x2) (fun q => stk c q.1) := by
  delta mm_row_L52
  refine pwT_i (by decide) (by decide) (by decide) hf ?_
  intro S1 hf
  exact pw_some hf
theorem mm_row_b10_sk {c : Int32} (hc : ¬ c = 0) (T : mm_T2) (hT : mm_SK2 c T) (S : md_S) (x1 : Int32) (x2 : Int32) (hf : stk c S) : dc_pw (mm_row_b10 T S x1 x2) (Sum.elim (fun (q : md_S × Int32 × Int32) => stk c q.1) (fun (q : md_S × Int32 × Int32) => stk c q.1)) := by
  delta mm_row_b10
  refine pwT_call (mm_meetsSign_sk hc S 59 0 (by decide) (by decide) hf) ?_
  intro q2 hf
  refine pw_if ?_ ?_
  · exact pw_some hf
  · refine pwT_call (hT.2.2.2.1 q2.1 hf) ?_
    intro q3 hf
    refine pw_any ?_
    intro q4
    refine pw_any ?_
    intro j5
    refine pwT_call (mm_node_IIIIII_sk hc q3.1 5 x1 q3.2 (-1) (q3.1.2.1 34 j5) (-1) hf) ?_
    intro q6 hf
    exact pw_some hf
theorem mm_row_L10_sk {c : Int32} (hc : ¬ c = 0) (T : mm_T2) (hT : mm_SK2 c T) (S : md_S) (x1 : Int32) (x2 : Int32) (hf : stk c S) : dc_pw (mm_row_L10 T S x1 x2) (fun q => stk c q.1) := by
  delta mm_row_L10
  refine pw_loop (fun (q : md_S × Int32 × Int32) => stk c q.1) (fun (q : md_S × Int32 × Int32) => stk c q.1) hf ?_ ?_
  · rintro ⟨S, x1, x2⟩ hf
    exact mm_row_b10_sk hc T hT S x1 x2 hf
  · rintro ⟨Sz, z0, z1⟩ hf
    exact mm_row_L52_sk hc T hT Sz z0 z1 hf
theorem mm_row_sk {c : Int32} (hc : ¬ c = 0) (T : mm_T2) (hT : mm_SK2 c T) (S : md_S) (hf : stk c S) : dc_pw (mm_row T S) (fun q => stk c q.1) := by
  delta mm_row
  refine pwT_call (hT.2.2.2.1 S hf) ?_
  intro q7 hf
  refine pw_let ?_
  intro v8
  exact mm_row_L10_sk hc T hT q7.1 q7.2 v8 hf
theorem mm_statement_sk {c : Int32} (hc : ¬ c = 0) (T : mm_T2) (hT : mm_SK2 c T) (S : md_S) (hf : stk c S) : dc_pw (mm_statement T S) (fun q => stk c q.1) := by
  rcases hf with hf | hb
  · exact pwT_F (mm_statement_fk hc T hT.1 S hf)
  · have key : ∀ (x1 : Int32) (y0 : Int64), x1 = S.1 8 → dc_pw (mm_statement_L23 T S x1 y0) (fun q => stk c q.1) := by
      intro x1 y0 e
      delta mm_statement_L23
      rw [bad_sign hb 2 (by decide) (by decide), Option.bind_some, if_pos rfl, bad_kept hb, Option.bind_some, if_pos rfl]
      delta mm_statement_L51
      exact pwT_F (bad_fail hc hb e (fun q e => mm_statement_L57_fk hc T hT.1 q x1 y0 0 e))
    delta mm_statement
    exact pw_if (key _ _ rfl) (key _ _ rfl)
theorem mm_closed_L23_sk {c : Int32} (hc : ¬ c = 0) (T : mm_T2) (hT : mm_SK2 c T) (S : md_S) (x1 : Int32) (hf : stk c S) : dc_pw (mm_closed_L23 T S x1) (fun q => stk c q.1) := by
  delta mm_closed_L23
  exact pw_some hf
theorem mm_closed_sk {c : Int32} (hc : ¬ c = 0) (T : mm_T2) (hT : mm_SK2 c T) (S : md_S) (hf : stk c S) : dc_pw (mm_closed T S) (fun q => stk c q.1) := by
  delta mm_closed
  refine pwT_call (hT.2.1 S hf) ?_
  intro q1 hf
  refine pwT_call (mm_meetsSign_sk hc q1.1 41 3 (by decide) (by decide) hf) ?_
  intro q2 hf
  refine pw_if ?_ ?_
  · refine pwT_callv (mm_fail_sk hc q2.1 1 (q2.1.1 8) rfl rfl hf) ?_
    intro q3 hf
    exact mm_closed_L23_sk hc T hT q3 q1.2 hf
  · exact mm_closed_L23_sk hc T hT q2.1 q1.2 hf
theorem mm_present_I_L157_sk {c : Int32} (hc : ¬ c = 0) (T : mm_T2) (hT : mm_SK2 c T) (S : md_S) (x1 : Int32) (x2 : Int32) (x3 : Int32) (y0 : Int32) (hf : stk c S) : dc_pw (mm_present_I_L157 T S x1 x2 x3 y0) (fun q => stk c q.1) := by
  delta mm_present_I_L157
  refine pwT_call (mm_node_IIIIII_sk hc S 3 x3 y0 (-1) x1 x2 hf) ?_
  intro q1 hf
  exact pw_some hf
theorem mm_present_I_L138_sk {c : Int32} (hc : ¬ c = 0) (T : mm_T2) (hT : mm_SK2 c T) (S : md_S) (x1 : Int32) (x2 : Int32) (x4 : Int32) (y0 : Int32) (hf : stk c S) : dc_pw (mm_present_I_L138 T S x1 x2 x4 y0) (fun q => stk c q.1) := by
  delta mm_present_I_L138
  refine pw_if ?_ ?_
  · refine pwT_call (mm_leaf_sk hc S 0 (-1) x1 hf) ?_
    intro q2 hf
    exact mm_present_I_L157_sk hc T hT q2.1 x1 x2 y0 q2.2 hf
  · exact mm_present_I_L157_sk hc T hT S x1 x2 y0 x4 hf
theorem mm_present_I_L109_sk {c : Int32} (hc : ¬ c = 0) (T : mm_T2) (hT : mm_SK2 c T) (S : md_S) (x1 : Int32) (x2 : Int32) (x3 : Int32) (x4 : Int32) (x5 : Int32) (hf : stk c S) : dc_pw (mm_present_I_L109 T S x1 x2 x3 x4 x5) (fun q => stk c q.1) := by
  delta mm_present_I_L109
  refine pwT_callv (mm_mustWord_sk hc S 6647396 hf) ?_
  intro q3 hf
  refine pwT_i (by decide) (by decide) (by decide) hf ?_
  intro S4 hf
  refine pw_if ?_ ?_
  · refine pwT_call (mm_leaf_sk hc S4 0 (-1) x1 hf) ?_
    intro q5 hf
    exact mm_present_I_L138_sk hc T hT q5.1 x1 x2 x4 q5.2 hf
  · exact mm_present_I_L138_sk hc T hT S4 x1 x2 x4 x3 hf
theorem mm_present_I_L75_sk {c : Int32} (hc : ¬ c = 0) (T : mm_T2) (hT : mm_SK2 c T) (S : md_S) (x1 : Int32) (x2 : Int32) (x3 : Int32) (x4 : Int32) (x5 : Int32) (hf : stk c S) : dc_pw (mm_present_I_L75 T S x1 x2 x3 x4 x5) (fun q => stk c q.1) := by
  delta mm_present_I_L75
  refine pwT_call (mm_meetsWord_sk hc S 1701606245 hf) ?_
  intro q6 hf
  refine pw_if ?_ ?_
  · refine pw_let ?_
    intro v7
    exact mm_present_I_L109_sk hc T hT q6.1 x1 x2 x3 x4 v7 hf
  · refine pwT_call (hT.2.1 q6.1 hf) ?_
    intro q8 hf
    refine pw_let ?_
    intro v9
    exact mm_present_I_L109_sk hc T hT q8.1 x1 x2 x3 q8.2 v9 hf
theorem mm_present_I_L34_sk {c : Int32} (hc : ¬ c = 0) (T : mm_T2) (hT : mm_SK2 c T) (S : md_S) (x1 : Int32) (x2 : Int32) (hf : stk c S) : dc_pw (mm_present_I_L34 T S x1 x2) (fun q => stk c q.1) := by
  delta mm_present_I_L34
  refine pwT_call (mm_meetsWord_sk hc S 1952998766 hf) ?_
  intro q10 hf
  refine pw_if ?_ ?_
  · refine pw_let ?_
    intro v11
    exact mm_present_I_L75_sk hc T hT q10.1 x1 x2 (-1) (-1) v11 hf
  · refine pwT_call (hT.2.1 q10.1 hf) ?_
    intro q12 hf
    refine pw_let ?_
    intro v13
    exact mm_present_I_L75_sk hc T hT q12.1 x1 x2 q12.2 (-1) v13 hf
theorem mm_present_I_sk {c : Int32} (hc : ¬ c = 0) (T : mm_T2) (hT : mm_SK2 c T) (S : md_S) (p1 : Int32) (hf : stk c S) : dc_pw (mm_present_I T S p1) (fun q => stk c q.1) := by
  delta mm_present_I
  refine pwT_call (mm_asked_r_sk hc S hf) ?_
  intro q14 hf
  refine pw_any ?_
  intro q15
  refine pw_if ?_ ?_
  · refine pw_any ?_
    intro q16
    refine pw_if ?_ ?_
    · refine pwT_callv (mm_fail_sk hc q14.1 1 (q14.1.1 8) rfl rfl hf) ?_
      intro q17 hf
      exact mm_present_I_L34_sk hc T hT q17 p1 q14.2 hf
    · exact mm_present_I_L34_sk hc T hT q14.1 p1 q14.2 hf
  · exact mm_present_I_L34_sk hc T hT q14.1 p1 q14.2 hf
theorem mm_suspend_L32_sk {c : Int32} (hc : ¬ c = 0) (T : mm_T2) (hT : mm_SK2 c T) (S : md_S) (x1 : Int32) (x2 : Int32) (x3 : Int32) (y0 : Int32) (hf : stk c S) : dc_pw (mm_suspend_L32 T S x1 x2 x3 y0) (fun q => stk c q.1) := by
  delta mm_suspend_L32
  refine pwT_callv (mm_mustWord_sk hc S 6647396 hf) ?_
  intro q1 hf
  refine pwT_i (by decide) (by decide) (by decide) hf ?_
  intro S2 hf
  refine pwT_call (mm_node_IIIIII_sk hc S2 4 x2 (-1) (-1) x1 y0 hf) ?_
  intro q3 hf
  exact pw_some hf
theorem mm_suspend_sk {c : Int32} (hc : ¬ c = 0) (T : mm_T2) (hT : mm_SK2 c T) (S : md_S) (p1 : Int32) (hf : stk c S) : dc_pw (mm_suspend T S p1) (fun q => stk c q.1) := by
  delta mm_suspend
  refine pwT_call (hT.2.1 S hf) ?_
  intro q4 hf
  refine pw_let ?_
  intro v5
  refine pwT_callv (mm_mustWord_sk hc q4.1 2003330414 hf) ?_
  intro q6 hf
  refine pw_if ?_ ?_
  · exact mm_suspend_L32_sk hc T hT q6 p1 q4.2 v5 0 hf
  · refine pwT_call (mm_asked_r_sk hc q6 hf) ?_
    intro q7 hf
    exact mm_suspend_L32_sk hc T hT q7.1 p1 q4.2 v5 q7.2 hf
theorem mm_loop_L90_sk {c : Int32} (hc : ¬ c = 0) (T : mm_T2) (hT : mm_SK2 c T) (S : md_S) (x1 : Int32) (x3 : Int32) (x4 : Int32) (y0 : Int32) (hf : stk c S) : dc_pw (mm_loop_L90 T S x1 x3 x4 y0) (fun q => stk c q.1) := by
  delta mm_loop_L90
  refine pwT_callv (mm_mustWord_sk hc S 6647396 hf) ?_
  intro q1 hf
  refine pwT_call (mm_again_sk hc q1 x1 x3 y0 x4 hf) ?_
  intro q2 hf
  exact pw_some hf
theorem mm_loop_L56_sk {c : Int32} (hc : ¬ c = 0) (T : mm_T2) (hT : mm_SK2 c T) (S : md_S) (x1 : Int32) (x3 : Int32) (hf : stk c S) : dc_pw (mm_loop_L56 T S x1 x3) (fun q => stk c q.1) := by
  delta mm_loop_L56
  refine pwT_call (mm_node_IIIIII_sk hc S 6 x3 (-1) (-1) x1 (-1) hf) ?_
  intro q3 hf
  exact pw_some hf
theorem mm_loop_sk {c : Int32} (hc : ¬ c = 0) (T : mm_T2) (hT : mm_SK2 c T) (S : md_S) (p1 : Int32) (p2 : Int32) (hf : stk c S) : dc_pw (mm_loop T S p1 p2) (fun q => stk c q.1) := by
  delta mm_loop
  refine pwT_call (hT.2.1 S hf) ?_
  intro q4 hf
  refine pw_let ?_
  intro v5
  refine pw_if ?_ ?_
  · exact pw_some hf
  · refine pwT_call (mm_meetsWord_sk hc q4.1 6647396 hf) ?_
    intro q6 hf
    refine pw_if ?_ ?_
    · refine pwT_callv (mm_mustWord_sk hc q6.1 1700881256 hf) ?_
      intro q7 hf
      refine pw_if ?_ ?_
      · exact mm_loop_L90_sk hc T hT q7 p1 q4.2 v5 0 hf
      · refine pwT_call (mm_asked_r_sk hc q7 hf) ?_
        intro q8 hf
        exact mm_loop_L90_sk hc T hT q8.1 p1 q4.2 v5 q8.2 hf
    · refine pw_if ?_ ?_
      · refine pw_if ?_ ?_
        · refine pwT_i (by decide) (by decide) (by decide) hf ?_
          intro S9 hf
          refine pwT_i (by decide) (by decide) (by decide) hf ?_
          intro S10 hf
          exact mm_loop_L56_sk hc T hT S10 p1 q4.2 hf
        · exact mm_loop_L56_sk hc T hT q6.1 p1 q4.2 hf
      · exact mm_loop_L56_sk hc T hT q6.1 p1 q4.2 hf
theorem mm_trap_sk {c : Int32} (hc : ¬ c = 0) (T : mm_T2) (hT : mm_SK2 c T) (S : md_S) (p1 : Int32) (hf : stk c S) : dc_pw (mm_trap T S p1) (fun q => stk c q.1) := by
  rcases hf with hf | hb
  · exact pwT_F (mm_trap_fk hc T hT.1 S p1 hf)
  · delta mm_trap
    rw [bad_name hb, Option.bind_some, if_pos rfl]
    exact pwT_F (bad_fail hc hb rfl (fun q e => mm_trap_L16_fk hc T hT.1 q p1 e))
theorem mm_locals_L97_sk {c : Int32} (hc : ¬ c = 0) (T : mm_T2) (hT : mm_SK2 c T) (S : md_S) (x5 : Int32) (hf : stk c S) : dc_pw (mm_locals_L97 T S x5) (fun q => stk c q.1) := by
  delta mm_locals_L97
  exact pw_some hf
theorem mm_locals_b63_sk {c : Int32} (hc : ¬ c = 0) (T : mm_T2) (hT : mm_SK2 c T) (S : md_S) (x1 : Int32) (x3 : Int32) (x5 : Int32) (x6 : Int32) (hf : stk c S) : dc_pw (mm_locals_b63 T S x1 x3 x5 x6) (Sum.elim (fun (q : md_S × Int32 × Int32) => stk c q.1) (fun (q : md_S × Int32) => stk c q.1)) := by
  delta mm_locals_b63
  refine pw_if ?_ ?_
  · exact pw_some hf
  · refine pw_if ?_ ?_
    · refine pwT_call (mm_node_IIIIII_sk hc S 10 x5 (-1) x6 x1 (-1) hf) ?_
      intro q1 hf
      exact pw_some hf
    · exact pw_some hf
theorem mm_locals_L63_sk {c : Int32} (hc : ¬ c = 0) (T : mm_T2) (hT : mm_SK2 c T) (S : md_S) (x1 : Int32) (x3 : Int32) (x5 : Int32) (x6 : Int32) (hf : stk c S) : dc_pw (mm_locals_L63 T S x1 x3 x5 x6) (fun q => stk c q.1) := by
  delta mm_locals_L63
  refine pw_loop (fun (q : md_S × Int32 × Int32) => stk c q.1) (fun (q : md_S × Int32) => stk c q.1) hf ?_ ?_
  · rintro ⟨S, x5, x6⟩ hf
    exact mm_locals_b63_sk hc T hT S x1 x3 x5 x6 hf
  · rintro ⟨Sz, z0⟩ hf
    exact mm_locals_L97_sk hc T hT Sz z0 hf
theorem mm_locals_L43_sk {c : Int32} (hc : ¬ c = 0) (T : mm_T2) (hT : mm_SK2 c T) (S : md_S) (x1 : Int32) (x2 : Int32) (x3 : Int32) (x4 : Int32) (y0 : Int32) (hf : stk c S) : dc_pw (mm_locals_L43 T S x1 x2 x3 x4 y0) (fun q => stk c q.1) := by
  delta mm_locals_L43
  refine pwT_callv (mm_mustWord_sk hc S 6647396 hf) ?_
  intro q2 hf
  refine pwT_i (by decide) (by decide) (by decide) hf ?_
  intro S3 hf
  refine pw_let ?_
  intro v4
  exact mm_locals_L63_sk hc T hT S3 x1 x3 y0 v4 hf
theorem mm_locals_sk {c : Int32} (hc : ¬ c = 0) (T : mm_T2) (hT : mm_SK2 c T) (S : md_S) (p1 : Int32) (hf : stk c S) : dc_pw (mm_locals T S p1) (fun q => stk c q.1) := by
  delta mm_locals
  refine pw_let ?_
  intro v5
  refine pw_let ?_
  intro v6
  refine pwT_callv (mm_list_sk hc S v5 hf) ?_
  intro q7 hf
  refine pwT_callv (mm_mustWord_sk hc q7 26990 hf) ?_
  intro q8 hf
  refine pw_let ?_
  intro v9
  refine pw_if ?_ ?_
  · exact mm_locals_L43_sk hc T hT q8 p1 v5 v6 v9 0 hf
  · refine pwT_call (hT.2.1 q8 hf) ?_
    intro q10 hf
    exact mm_locals_L43_sk hc T hT q10.1 p1 v5 v6 v9 q10.2 hf
theorem mm_abort_L33_sk {c : Int32} (hc : ¬ c = 0) (T : mm_T2) (hT : mm_SK2 c T) (S : md_S) (x1 : Int32) (x2 : Int32) (x3 : Int32) (x4 : Int32) (y0 : Int32) (hf : stk c S) : dc_pw (mm_abort_L33 T S x1 x2 x3 x4 y0) (fun q => stk c q.1) := by
  delta mm_abort_L33
  refine pwT_callv (mm_mustWord_sk hc S 6647396 hf) ?_
  intro q1 hf
  refine pwT_call (mm_aborted_sk hc q1 x1 x3 y0 x2 x4 hf) ?_
  intro q2 hf
  exact pw_some hf
theorem mm_abort_sk {c : Int32} (hc : ¬ c = 0) (T : mm_T2) (hT : mm_SK2 c T) (S : md_S) (p1 : Int32) (p2 : Int32) (hf : stk c S) : dc_pw (mm_abort T S p1 p2) (fun q => stk c q.1) := by
  delta mm_abort
  refine pwT_call (hT.2.1 S hf) ?_
  intro q3 hf
  refine pw_let ?_
  intro v4
  refine pwT_callv (mm_mustWord_sk hc q3.1 2003330414 hf) ?_
  intro q5 hf
  refine pw_if ?_ ?_
  · exact mm_abort_L33_sk hc T hT q5 p1 p2 q3.2 v4 0 hf
  · refine pwT_call (mm_asked_r_sk hc q5 hf) ?_
    intro q6 hf
    exact mm_abort_L33_sk hc T hT q6.1 p1 p2 q3.2 v4 q6.2 hf
theorem mm_weak_L24_sk {c : Int32} (hc : ¬ c = 0) (T : mm_T2) (hT : mm_SK2 c T) (S : md_S) (y0 : Int32) (hf : stk c S) : dc_pw (mm_weak_L24 T S y0) (fun q => stk c q.1) := by
  delta mm_weak_L24
  exact pw_some hf
theorem mm_weak_sk {c : Int32} (hc : ¬ c = 0) (T : mm_T2) (hT : mm_SK2 c T) (S : md_S) (p1 : Int32) (hf : stk c S) : dc_pw (mm_weak T S p1) (fun q => stk c q.1) := by
  delta mm_weak
  refine pwT_callv (mm_mustWord_sk hc S 418263298676 hf) ?_
  intro q1 hf
  refine pw_if ?_ ?_
  · exact mm_weak_L24_sk hc T hT q1 0 hf
  · refine pwT_call (hT.2.2.2.2.2.2.2.2.2.2.1 q1 p1 1 hf) ?_
    intro q2 hf
    exact mm_weak_L24_sk hc T hT q2.1 q2.2 hf
theorem mm_every_L27_sk {c : Int32} (hc : ¬ c = 0) (T : mm_T2) (hT : mm_SK2 c T) (S : md_S) (x1 : Int32) (x2 : Int32) (y0 : Int32) (hf : stk c S) : dc_pw (mm_every_L27 T S x1 x2 y0) (fun q => stk c q.1) := by
  delta mm_every_L27
  refine pw_let ?_
  intro v1
  refine pwT_callv (mm_mustWord_sk hc S 6647396 hf) ?_
  intro q2 hf
  refine pwT_call (mm_await_sk hc q2 x1 x2 hf) ?_
  intro q3 hf
  refine pwT_call (mm_again_sk hc q3.1 x1 y0 x2 v1 hf) ?_
  intro q4 hf
  refine pw_any ?_
  intro q5
  refine pwT_i (by decide) (by decide) (by decide) hf ?_
  intro S6 hf
  refine pwT_call (mm_node_IIIIII_sk hc S6 5 q3.2 q4.2 (-1) x1 (-1) hf) ?_
  intro q7 hf
  exact pw_some hf
theorem mm_every_sk {c : Int32} (hc : ¬ c = 0) (T : mm_T2) (hT : mm_SK2 c T) (S : md_S) (p1 : Int32) (hf : stk c S) : dc_pw (mm_every T S p1) (fun q => stk c q.1) := by
  delta mm_every
  refine pwT_call (mm_asked_r_sk hc S hf) ?_
  intro q8 hf
  refine pwT_callv (mm_mustWord_sk hc q8.1 25711 hf) ?_
  intro q9 hf
  refine pw_if ?_ ?_
  · exact mm_every_L27_sk hc T hT q9 p1 q8.2 0 hf
  · refine pwT_call (hT.2.1 q9 hf) ?_
    intro q10 hf
    exact mm_every_L27_sk hc T hT q10.1 p1 q8.2 q10.2 hf
theorem mm_P2_sk {c : Int32} (hc : ¬ c = 0) : ∀ d : Nat, mm_SK2 c (mm_P2 d)
  | 0 => ⟨mm_P2_fk hc 0, fun _ _ => pw_none, fun _ _ => pw_none, fun _ _ => pw_none, fun _ _ => pw_none, fun _ _ _ => pw_none, fun _ _ _ => pw_none, fun _ _ _ _ => pw_none, fun _ _ _ => pw_none, fun _ _ _ => pw_none, fun _ _ _ _ => pw_none, fun _ _ _ => pw_none, fun _ _ _ => pw_none⟩
  | d + 1 => ⟨mm_P2_fk hc (d + 1), mm_body_sk hc (mm_P2 d) (mm_P2_sk hc d), mm_row_sk hc (mm_P2 d) (mm_P2_sk hc d), mm_statement_sk hc (mm_P2 d) (mm_P2_sk hc d), mm_closed_sk hc (mm_P2 d) (mm_P2_sk hc d), mm_present_I_sk hc (mm_P2 d) (mm_P2_sk hc d), mm_suspend_sk hc (mm_P2 d) (mm_P2_sk hc d), mm_loop_sk hc (mm_P2 d) (mm_P2_sk hc d), mm_trap_sk hc (mm_P2 d) (mm_P2_sk hc d), mm_locals_sk hc (mm_P2 d) (mm_P2_sk hc d), mm_abort_sk hc (mm_P2 d) (mm_P2_sk hc d), mm_weak_sk hc (mm_P2 d) (mm_P2_sk hc d), mm_every_sk hc (mm_P2 d) (mm_P2_sk hc d)⟩
theorem mm_body_r_sk {c : Int32} (hc : ¬ c = 0) (S : md_S) (hf : stk c S) : dc_pw (mm_body_r S) (fun q => stk c q.1) := (mm_P2_sk hc mm_d2).2.1 S hf
theorem mm_row_r_sk {c : Int32} (hc : ¬ c = 0) (S : md_S) (hf : stk c S) : dc_pw (mm_row_r S) (fun q => stk c q.1) := (mm_P2_sk hc mm_d2).2.2.1 S hf
theorem mm_statement_r_sk {c : Int32} (hc : ¬ c = 0) (S : md_S) (hf : stk c S) : dc_pw (mm_statement_r S) (fun q => stk c q.1) := (mm_P2_sk hc mm_d2).2.2.2.1 S hf
theorem mm_closed_r_sk {c : Int32} (hc : ¬ c = 0) (S : md_S) (hf : stk c S) : dc_pw (mm_closed_r S) (fun q => stk c q.1) := (mm_P2_sk hc mm_d2).2.2.2.2.1 S hf
theorem mm_present_I_r_sk {c : Int32} (hc : ¬ c = 0) (S : md_S) (p1 : Int32) (hf : stk c S) : dc_pw (mm_present_I_r S p1) (fun q => stk c q.1) := (mm_P2_sk hc mm_d2).2.2.2.2.2.1 S p1 hf
theorem mm_suspend_r_sk {c : Int32} (hc : ¬ c = 0) (S : md_S) (p1 : Int32) (hf : stk c S) : dc_pw (mm_suspend_r S p1) (fun q => stk c q.1) := (mm_P2_sk hc mm_d2).2.2.2.2.2.2.1 S p1 hf
theorem mm_loop_r_sk {c : Int32} (hc : ¬ c = 0) (S : md_S) (p1 : Int32) (p2 : Int32) (hf : stk c S) : dc_pw (mm_loop_r S p1 p2) (fun q => stk c q.1) := (mm_P2_sk hc mm_d2).2.2.2.2.2.2.2.1 S p1 p2 hf
theorem mm_trap_r_sk {c : Int32} (hc : ¬ c = 0) (S : md_S) (p1 : Int32) (hf : stk c S) : dc_pw (mm_trap_r S p1) (fun q => stk c q.1) := (mm_P2_sk hc mm_d2).2.2.2.2.2.2.2.2.1 S p1 hf
theorem mm_locals_r_sk {c : Int32} (hc : ¬ c = 0) (S : md_S) (p1 : Int32) (hf : stk c S) : dc_pw (mm_locals_r S p1) (fun q => stk c q.1) := (mm_P2_sk hc mm_d2).2.2.2.2.2.2.2.2.2.1 S p1 hf
theorem mm_abort_r_sk {c : Int32} (hc : ¬ c = 0) (S : md_S) (p1 : Int32) (p2 : Int32) (hf : stk c S) : dc_pw (mm_abort_r S p1 p2) (fun q => stk c q.1) := (mm_P2_sk hc mm_d2).2.2.2.2.2.2.2.2.2.2.1 S p1 p2 hf
theorem mm_weak_r_sk {c : Int32} (hc : ¬ c = 0) (S : md_S) (p1 : Int32) (hf : stk c S) : dc_pw (mm_weak_r S p1) (fun q => stk c q.1) := (mm_P2_sk hc mm_d2).2.2.2.2.2.2.2.2.2.2.2.1 S p1 hf
theorem mm_every_r_sk {c : Int32} (hc : ¬ c = 0) (S : md_S) (p1 : Int32) (hf : stk c S) : dc_pw (mm_every_r S p1) (fun q => stk c q.1) := (mm_P2_sk hc mm_d2).2.2.2.2.2.2.2.2.2.2.2.2 S p1 hf
