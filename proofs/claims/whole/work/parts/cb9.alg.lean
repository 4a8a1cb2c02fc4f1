/-! every; all of it -/
section ALG9
variable {E : List (Int32 × Int32)} {s tm a l c s1 s1' tm1 a1 l1 c1 c2 y d : Int32} {p p1 : Int} {T : tT} {k : Nat} {ln e : Int32}
theorem BU_s1 (h : BU E s tm a l p T c s1 tm1 a1 l1 p1) (hs : s1.toInt ≤ s1'.toInt) : BU E s tm a l p T c s1' tm1 a1 l1 p1 := by
  obtain ⟨g1, ⟨g2, g3, g4⟩, g5, g7, g8⟩ := h
  exact ⟨g1, ⟨by omega, g3, g4⟩, g5, fun y hy => ⟨⟨(g7 y hy).1.1, by have := (g7 y hy).1.2; omega⟩, (g7 y hy).2⟩, g8⟩
theorem tp_awa {sv : Int32} : tpT (Tawa ln e sv) = [(-1, sv)] := by
  show tpT (t1 (8, ln, -1, -1, sv, -1) (Twat ln e sv)) = _
  rw [tpT_t1, if_pos (by rfl), tp_wat]
theorem tp_agn {sv : Int32} : tpT (Tagn ln e sv T) = (-1, sv) :: tpT T := by
  show tpT (Tloop ln (t1 (8, ln, -1, -1, sv, -1) (Tboth ln (Tseq ln (t1 (4, ln, -1, -1, -1, e) (Tseq ln T (Tloop ln (Tpau ln)))) (Tex ln sv)) (Twat ln e sv)))) = _
  rw [tp_loop, tpT_t1, if_pos (by rfl)]
  refine congrArg (fun z => (-1, sv) :: z) ?_
  show (tpT (t1 (4, ln, -1, -1, -1, e) (Tseq ln T (Tloop ln (Tpau ln)))) ++ []) ++ tpT (Twat ln e sv) = tpT T
  rw [tp_wat, List.append_nil, List.append_nil, tpT_t1, if_neg (by show ¬ (4 : Int32) = 8; decide)]
  show tpT T ++ tpT (Tloop ln (Tpau ln)) = tpT T
  rw [tp_loop]
  exact List.append_nil _
theorem feP_awa {sv : Int32} {S : List Int32} : feP (Tawa ln e sv) S none := feP_t1.mpr (Or.inl ⟨rfl, feP_wat⟩)
end ALG9
