/-! every; the algebra whole -/
section ALGA
variable {E : List (Int32 × Int32)} {s tm a l c s1 tm1 a1 l1 c1 c2 y d : Int32} {p p1 : Int} {T : tT} {ln e : Int32}
theorem BU_cmb {TA TG : tT} (hk : EOK E s tm) (h : BU E s tm a l p T c1 s1 tm1 a1 l1 p1) (hs1 : s1.toInt ≤ 99000) (hA : BU E s1 tm1 a l p TA 2 (s1 + 1) tm1 a l p) (hG : BU E s tm a l p TG c (s1 + 1 + 1) tm1 a1 l1 p1) (tA : tpT TA = [(-1, s1 + 1)]) (tG : tpT TG = (-1, s1 + 1 + 1) :: tpT T) (fA : feP TA (E.map Prod.snd) none) (hd : mm_then 2 c = some d) : BU E s tm a l p (Tseq ln TA TG) d (s1 + 1 + 1) tm1 a1 l1 p1 := by
  have k0 := hk.1.1
  have z0 := h.2.1.1
  have es1 : (s1 + 1).toInt = s1.toInt + 1 := by rw [i_addS (by rw [il_1]; omega), il_1]
  have es2 : (s1 + 1 + 1).toInt = s1.toInt + 2 := by
    rw [i_addS (by rw [il_1, es1]; omega), il_1, es1]
    omega
  have hcod := cB_congr (then_b hA.1 hG.1 hd) (fun k => (cod_seq (ln := ln)).symm)
  obtain ⟨-, ⟨g2, g3, g4⟩, -, g7, g8, g9, -⟩ := h
  obtain ⟨-, -, ⟨f5, f6⟩, -, -, -, f10⟩ := hG
  obtain ⟨-, -, -, -, -, -, a10⟩ := hA
  have et : tpT (Tseq ln TA TG) = (-1, s1 + 1) :: (-1, s1 + 1 + 1) :: tpT T := by
    show tpT TA ++ tpT TG = _
    rw [tA, tG]
    rfl
  refine ⟨hcod, ⟨by omega, g3, g4⟩, ⟨f5, fun z => ?_⟩, fun q hq => ?_, ?_, ?_, wf_bin a10 f10⟩
  · rcases f6 z with ⟨y1, y2⟩ | ⟨q, y1, y2⟩
    · exact Or.inl ⟨feP_bin fA y1, y2⟩
    · exact Or.inr ⟨q, feP_bin fA y1, y2⟩
  · rw [et] at hq
    rcases List.mem_cons.mp hq with rfl | hq
    · exact ⟨⟨by show s.toInt < (s1 + 1).toInt; omega, by show (s1 + 1).toInt ≤ _; omega⟩, Or.inl rfl⟩
    · rcases List.mem_cons.mp hq with rfl | hq
      · exact ⟨⟨by show s.toInt < (s1 + 1 + 1).toInt; omega, Int.le_refl _⟩, Or.inl rfl⟩
      · obtain ⟨⟨z1, z2⟩, z3⟩ := g7 q hq
        exact ⟨⟨z1, by omega⟩, z3⟩
  · rw [et]
    show ((s1 + 1) :: (s1 + 1 + 1) :: (tpT T).map Prod.snd).Nodup
    refine List.nodup_cons.mpr ⟨fun z => ?_, List.nodup_cons.mpr ⟨fun z => ?_, g8⟩⟩
    · rcases List.mem_cons.mp z with z | z
      · have := congrArg Int32.toInt z
        omega
      · obtain ⟨q, hq, e1⟩ := List.mem_map.mp z
        have := (g7 q hq).1
        rw [e1] at this
        omega
    · obtain ⟨q, hq, e1⟩ := List.mem_map.mp z
      have := (g7 q hq).1
      rw [e1] at this
      omega
  · rw [et]
    show List.Pairwise (fun x y : Int32 => x = y → x = -1) (-1 :: -1 :: (tpT T).map Prod.fst)
    exact List.pairwise_cons.mpr ⟨fun _ _ _ => rfl, List.pairwise_cons.mpr ⟨fun _ _ _ => rfl, g9⟩⟩
theorem BU_evy (hk : EOK E s tm) (h : BU E s tm a l p T c1 s1 tm1 a1 l1 p1) (hs1 : s1.toInt ≤ 99000) (hy : mm_then c1 2 = some y) (hx : mm_pairs (cAb2 (cAb y)) 2 = some c2) (hc : mm_caught c2 = some c) (hd : mm_then 2 c = some d) : BU E s tm a l p (Tseq ln (Tawa ln e (s1 + 1)) (Tagn ln e (s1 + 1 + 1) T)) d (s1 + 1 + 1) tm1 a1 l1 p1 := by
  have k0 := hk.1.1
  have z0 := h.2.1.1
  have es1 : (s1 + 1).toInt = s1.toInt + 1 := by rw [i_addS (by rw [il_1]; omega), il_1]
  exact BU_cmb hk h hs1 (BU_await (ln := ln) (e := e) (a := a) (l := l) (p := p) (p1 := p) (hk.mono h.2.1.1 h.2.1.2.1) (by omega) (Int.le_refl _)) (BU_agn (ln := ln) (e := e) hk (BU_s1 h (s1' := s1 + 1) (by omega)) (by omega) hy hx hc) tp_awa tp_agn feP_awa hd
end ALGA
theorem bu_alg : BUalg := by
  intro E s tm a l p hk h13 hs
  refine ⟨fun ln p' hp => ⟨BU_not hp, BU_pau hp, BU_halt hp, fun y => ⟨BU_emi hp, BU_sus hp⟩⟩, fun ln e p' hp => BU_await hk hs hp, fun ln m sv i p' hp he => BU_exit hk hp he, fun T1 T2 ln c1 c2 s1 s2 tm1 tm2 a1 a2 l1 l2 p1 p2 h1 h2 _ => ⟨fun c hc => BU_seq h1 h2 hc, fun c hc => BU_both h1 h2 hc, fun e => BU_pre h1 h2⟩, fun T1 ln c1 s1 tm1 a1 l1 p0 p1 h hp h0 hs1 => ?_, fun T1 ln c1 s1 tm1 a1 l1 p1 c hl hs' ht h hc => BU_trap hk hs' ht h hc⟩
  have hf := BU_from h hp h0
  refine ⟨fun e => BU_sup h hp h0, fun k => BU_10 h hp h0, hf, fun g hg hlt h32 => BU_lp (x := (6, ln, -1, -1, -1, -1)) h hlt h32 h0 hg rfl, fun weak e x c hx hc => ?_, fun e y x c hy hx hc => ⟨BU_agn hk hf (by omega) hy hx hc, fun y' x' c' d hy' hx' hc' hd' => BU_evy hk hf hs1 hy' hx' hc' hd'⟩⟩
  by_cases cw : weak = 0
  · rw [show Trun weak ln e T1 = Tsup ln e T1 from if_pos cw]
    exact BU_abo hk (BU_sup h hp h0) (by omega) hx hc
  · rw [show Trun weak ln e T1 = T1 from if_neg cw]
    exact BU_abo hk hf (by omega) hx hc
