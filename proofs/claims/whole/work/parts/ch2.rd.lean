/-! read: class and reference, from the parser on -/
section RDK0
variable {names : Int32} {pk pf ps kk ff ss xx : Nat → Int32} {m : Nat}
theorem pcW_c (W : pcW names kk ff ss xx m) (e : ∀ k, k < m → kk k = pk k ∧ ff k = pf k ∧ ss k = ps k) : pcW names pk pf ps xx m := by
  intro k hk
  obtain ⟨e1, e2, e3⟩ := e k hk
  have := W k hk
  rw [e1, e2, e3] at this
  exact this
theorem rd_gr {T : tT} {M : md_S} {r : md_S × Int32} {s : Int32} (h10 : M.1 10 = 0) (h13 : ¬ (M.1 13).toInt < 32768) (h12 : ¬ M.1 12 = 0) (lg : lgT M T xx) (hq : mm_read_L104 M s = some r) : r.2 = jV M T xx ∧ ¬ r.2 = 0 ∧ fgO M r := by
  have jn : jV M T xx = if lgT M T xx then 6 else 0 := if_neg h13
  delta mm_read_L104 at hq
  rw [if_pos h10, if_neg h12] at hq
  have hq : (dc_zb 1).bind (fun _ => if (md_i M 12 1).1 12 = 0 then ((mm_lay_I (md_i M 12 1) s).bind fun q10 => mm_read_L167 q10) else mm_read_L167 (md_i M 12 1)) = some r := hq
  obtain ⟨_, _, hq⟩ := iv_bind hq
  rw [md_ii, if_neg (by decide)] at hq
  delta mm_read_L167 at hq
  rw [md_ii, if_neg (by decide)] at hq
  obtain ⟨g1, g2⟩ := rd_great (M := M) (X := md_i M 12 1) (fun i hi => md_ij (by omega)) rfl hq
  refine ⟨by rw [jn, if_pos lg]; exact g1, ?_, g2⟩
  rw [g1]
  decide
end RDK0
theorem nar_b {x : Int32} (h : fits .byte (.int x) = true) : vp_nar .byte x = x := by
  obtain ⟨h1, h2⟩ := fit_b h
  show x.toInt8.toInt32 = x
  refine i_eq.mpr ?_
  rw [Int8.toInt_toInt32, Int32.toInt_toInt8, Int.bmod_eq_of_le (by omega) (by omega)]
theorem v48 {x : Int32} (h : 1 ≤ x.toInt) (h2 : x.toInt ≤ 32769) : 0 < (4 + 8 * x).toInt := by
  have e1 : (8 * x).toInt = 8 * x.toInt := by rw [i_mulS (by rw [il_8]; omega), il_8]
  rw [i_addS (by rw [e1, il_4]; omega), e1, il_4]
  omega
noncomputable def rdK (G : hg_E) (o p : Nat) (S : hg_S) : Option (hg_S × Int32) := (hg_chk S (some p) 4).bind fun b31 => (hm_PA_parse G S b31).bind fun q30 => if q30.2 = 0 then ((hg_chk q30.1 (some p) 4).bind fun b34 => (hm_PA_judge G q30.1 b34).bind fun q37 => hm_SE_read_L49 G q37.1 o (some p) q37.2) else (hm_SE_read_L49 G q30.1 o (some p) q30.2)
/-- what read comes to -/
def rdR (G : hg_E) (t0 : Nat) (H0 : Nat → Option va_E) (o t : Nat) (ta tn : Value) (M : md_S) (r : md_S × Int32) (S : hg_S) : Prop :=
  (¬ r.2 = 0 ∧ hg_at S.1 o = some (.inr (0, enL t 0 0 .null .null .null .null 0 0 0 ta tn 0 0)) ∧ fgO M r) ∨
  (r.2 = 0 ∧ ∃ u T n ps sg io pa R c f, (t0 ≤ u ∧ u + 32 = S.2.1) ∧ hg_at S.1 o = some (.inr (0, enL t 0 0 (.ref u) (.ref (u + 18)) (.ref (u + 30)) (.ref (u + 31)) 0 0 0 ta tn 0 0)) ∧ pgS G S r.1 t0 u n ps sg io pa R c ∧ pgT r.1 T n ps ∧ pgB r.1 n ∧ REv G S (u + 18) u (reB (u + 19)) (reN sg (plc (R 0) (R 7) io n) ps n pa) (reX f) (fun _ => 0) ∧ plP (R 0) (R 4) (R 7) io n f ∧ hg_at S.1 (u + 30) = some (.inl (G.1 2, pa, .inl (fun _ => 0))) ∧ hg_at S.1 (u + 31) = some (.inl (G.1 0, io, .inl (fun _ => 0))) ∧ (∀ i, ¬ (i = 2 ∨ i = 3 ∨ i = 12 ∨ i = 41 ∨ i = 42 ∨ i = 43 ∨ i = 44 ∨ i = 45 ∨ i = 46 ∨ i = 47 ∨ i = 48 ∨ i = 49 ∨ i = 50 ∨ i = 77 ∨ i = 82) → r.1.1 i = M.1 i) ∧ (r.1.1 2 = 0 ∧ r.1.1 3 = 0 ∧ r.1.1 41 = 1 ∧ r.1.1 77 = 1 ∧ r.1.1 82 = 1) ∧ r.1.2.1 74 = M.2.1 74 ∧ r.1.2.1 84 = M.2.1 84)
section RDK
variable {G : hg_E} {sz t0 : Nat} {H0 : Nat → Option va_E} {K1 K2 nn : Nat} {fT : Nat → Int32} {S : hg_S} {A C : Nat → Nat} {B : Nat → Nat → Int32} {Q : Nat → Int32} {el : Nat → Option Nat} {P : Nat → Nat} {ND : Nat → ndT} {M : md_S} {o t : Nat} {ta tn : Value}
/-- the program is accepted -/
theorem rdk_ok {j' : Nat} {b' w' u' : Int} {S2 : hg_S} {F : Nat → Nat → Int32} {D : Nat → Int32} {T : tT} {i : Nat} {I : List Nat} {l0 : Int32} {p0 : Int} {q25 r : md_S × Int32} (hK : 40 * nn + 200 ≤ K1 ∧ 300 * nn + 3400 ≤ K2) (pv : PV G t0 H0 K1 K2 nn fT S A C B Q j' el P ND) (rm : RM q25.1 C B nn fT Q j' b' u' w') (ei : i + 1 = (Q 12).toInt.toNat) (rep : repC ND T i I) (cv : cov I 0 (Q 12).toInt.toNat) (fg : FG (pOk (B 6) (B 7) (B 9) 0 (Q 11).toInt) (B 9) (fun y => 0 ≤ y.toInt ∧ y.toInt < (q25.1.1 16).toInt + (q25.1.1 17).toInt) T 80026 (Q 11).toInt ((q25.1.1 16).toInt + (q25.1.1 17).toInt) (q25.1.1 15).toInt) (bu : BU [] 0 0 32768 l0 p0 T (q25.1.1 29) (q25.1.1 20) (Q 9) (q25.1.1 13) (q25.1.1 14) (q25.1.1 7).toInt) (q0 : Q 0 = q25.1.1 16) (q1 : Q 1 = q25.1.1 17) (h12 : q25.1.1 12 = 0) (h28 : (q25.1.1 28).toInt ≤ 1000) (hnm : sb_nm (q25.1.1 15) (q25.1.1 2) (q25.1.2.1 21) (q25.1.2.1 22)) (hio : 0 ≤ (q25.1.1 16).toInt ∧ 0 ≤ (q25.1.1 17).toInt ∧ (q25.1.1 16).toInt + (q25.1.1 17).toInt ≤ (q25.1.1 15).toInt) (hft : ∀ i, fits .byte (.int (fT i)) = true) (he : H0 o = some (.inr (0, enL t 0 0 .null .null .null .null 0 0 0 ta tn 0 0))) (lo : o < t0) (dv : DV G S2 (A 5) (A 6) (A 7) P (Q 12).toInt.toNat (fun i => (ND i).2.2.1) (fun i => (ND i).2.2.2.1) (A 17) (C 2) (B 9) F D) (fr : frS P (Q 12).toInt.toNat (A 5) S S2 (Q 9).toInt.toNat) (st : sTo ND (B 9) (Q 12).toInt.toNat T i I F D) (nl : ¬ lgT q25.1 T (B 9)) {Sx qx : md_S} (x1 : ∀ i, ¬ i = 12 → Sx.1 i = q25.1.1 i) (x2 : Sx.2 = q25.1.2) (ly : layO (q25.1.2.1 36) (q25.1.2.1 37) (B 9) T Sx qx) (sO : setO (md_i (md_i (md_i qx 12 0) 2 0) 3 0) r.1 (tsz T)) (r20 : r.2 = 0) : dc_wp (hm_SE_read_L49 G S2 o (some (A 0)) 0) (fun z => z.2 = r.2 ∧ (hw z.1 ∧ t0 ≤ z.1.2.1) ∧ (∀ b, b < t0 → b ≠ o → hg_at z.1.1 b = H0 b) ∧ (K1 ≤ z.1.2.2.1 + 40 * nn + 200 ∧ K2 ≤ z.1.2.2.2 + 300 * nn + 3400) ∧ rdR G t0 H0 o t ta tn q25.1 r z.1) := by
  have nlt : ¬ 31 < (q25.1.1 16).toInt ∧ ¬ 31 < (q25.1.1 17).toInt ∧ ¬ 400 < (q25.1.1 15).toInt ∧ ¬ 200 < pas T ∧ ¬ 1000 < tsm (B 9) T ∧ ¬ 8 < dmx T 0 ∧ ¬ 1200 < wsm T 1 := ⟨fun y => nl (Or.inl y), fun y => nl (Or.inr (Or.inl y)), fun y => nl (Or.inr (Or.inr (Or.inl y))), fun y => nl (Or.inr (Or.inr (Or.inr (Or.inl y)))), fun y => nl (Or.inr (Or.inr (Or.inr (Or.inr (Or.inl y))))), fun y => nl (Or.inr (Or.inr (Or.inr (Or.inr (Or.inr (Or.inl y)))))), fun y => nl (Or.inr (Or.inr (Or.inr (Or.inr (Or.inr (Or.inr y))))))⟩
  clear nl
  obtain ⟨n16, n17, n15, npa, nts, ndm, nws⟩ := nlt
  have us := RM.use pv rm
  have rmt := rm.1
  have nnb : nn ≤ 32768 := by have := rmt.1; omega
  have pp := rm.2.2.2.2.1.1
  have nmr := rm.2.2.2.2.2.1
  have pir := rm.2.2.2.2.2.2.2.2.1
  have pir1 := pir.1
  have bb := rm.2.2.2.2.2.2.2.2.2.1
  have cc := rm.2.2.2.2.2.2.2.2.2.2.2.2
  have st0 := st
  obtain ⟨sd, cf, ⟨i8, i9, i10, i11⟩, P1, P2, d2, d3, d4, d5⟩ := st
  obtain ⟨tt, LL, ⟨o1, ⟨o2, o2'⟩, o3, o4⟩, f2, f3, f4⟩ := fg
  obtain ⟨b1, b2, b3, b4, b5, b6, b7⟩ := bu
  have en := tsz_n rep cv
  obtain ⟨⟨l1, l2, l3⟩, ⟨l4, l5⟩, l48, l47, l49, -, l7⟩ := ly
  obtain ⟨l43, lp, cp, l62⟩ := l7 (by omega)
  have pm := pir.2.2 h12
  have W := pir.2.1
  have tm : (((Q 11).toInt.toNat : Nat) : Int) = (Q 11).toInt := by have := pir.1; omega
  have m1000 : (Q 11).toInt ≤ 1000 := by rw [pm.1]; exact h28
  have hθ : ∀ V e, pOk (B 6) (B 7) (B 9) 0 (Q 11).toInt V e → 0 ≤ e.toInt ∧ e.toInt < (((Q 11).toInt.toNat : Nat) : Int) ∧ 1 ≤ (B 9 e.toInt.toNat).toInt ∧ (B 9 e.toInt.toNat).toInt ≤ 2000 := by
    rintro V e ⟨⟨e1, e2, e3, e4⟩, -⟩
    refine ⟨e1, by omega, e3, by omega⟩
  have W' : pcW (q25.1.1 15) (q25.1.2.1 36) (q25.1.2.1 37) (q25.1.2.1 38) (B 9) (Q 11).toInt.toNat := pcW_c W pm.2
  have lpB : LPr True False (B 6) (B 7) (B 9) qx.2.1 T 0 (-1) 1 (-1) 0 0 := LPr_pk W' (fun k hk => ⟨(pm.2 k hk).1, (pm.2 k hk).2.1⟩) hθ T _ 0 _ _ _ _ _ o1 lp
  have tz := tsm_0 hθ T _ o1
  have q7 : Q 7 = q25.1.1 15 := nmr.1.1
  have hsg : q25.1.1 15 = Int32.ofNat (q25.1.1 15).toInt.toNat := ofN_m (by omega) (by omega)
  have hio' : q25.1.1 16 + q25.1.1 17 = Int32.ofNat ((q25.1.1 16).toInt + (q25.1.1 17).toInt).toNat := by
    rw [i_eq, i_addS (by omega), Int32.toInt_ofNat_of_lt (by omega)]
    omega
  -- the state that judge left
  have ndt : ∀ k, k < (Q 12).toInt.toNat → t0 ≤ P k := fun k hk => (pv.nd k hk).2.1
  have At : ∀ k, k < 19 → t0 ≤ A k := pv.st.2.2.1
  have topS : t0 ≤ S.2.1 := pv.st.2.2.2.2.2
  have go : ∀ {b : Nat} {y : va_E}, hg_at S.1 b = some y → (∀ fs, ¬ y = .inr (8, fs)) → b ≠ A 5 → hg_at S2.1 b = some y := fun {b y} hb n8 n5 => (fr.2 b (fun k hk => (pv.nd_ne hk hb n8).symm) n5 (by have := pv.st.1.lt hb; omega)).trans hb
  have frt : ∀ b, b < t0 → hg_at S2.1 b = H0 b := fun b hb => (fr.2 b (fun k hk => by have := ndt k hk; omega) (by have := At 5 (by omega); omega) (by omega)).trans (pv.st.2.2.2.1 b hb)
  have he2 := (frt o lo).trans he
  have hpa : hg_at S2.1 (A 0) = some (.inr (4, [.ref (A 1), .ref (A 3), .ref (A 4), .ref (A 5), .int (Q 0), .int (Q 1), .int (Q 2)])) := go pv.pa (fun _ z => by cases z) (pv.st.2.1.ne (by omega) (by omega) (by omega))
  have hpi2 : piv G S2 (A 6) (A 14) (A 15) (A 16) (A 17) (A 18) (C 2) (B 6) (B 7) (B 8) (B 9) (B 10) (Q 11) := by
    obtain ⟨p1, p2, p3, p4, p5, p6⟩ := pv.pi
    exact ⟨go p1 (fun _ z => by cases z) (pv.st.2.1.ne (by omega) (by omega) (by omega)), go p2 (fun _ z => by cases z) (pv.st.2.1.ne (by omega) (by omega) (by omega)), go p3 (fun _ z => by cases z) (pv.st.2.1.ne (by omega) (by omega) (by omega)), go p4 (fun _ z => by cases z) (pv.st.2.1.ne (by omega) (by omega) (by omega)), go p5 (fun _ z => by cases z) (pv.st.2.1.ne (by omega) (by omega) (by omega)), go p6 (fun _ z => by cases z) (pv.st.2.1.ne (by omega) (by omega) (by omega))⟩
  have hn2 : nmv G S2 (A 3) (A 2) (A 8) (A 9) (A 10) (C 0) (B 0) (B 1) (B 2) (Q 7) (Q 8) := by
    obtain ⟨p1, p2, p3, p4⟩ := pv.sn
    exact ⟨go p1 (fun _ z => by cases z) (pv.st.2.1.ne (by omega) (by omega) (by omega)), go p2 (fun _ z => by cases z) (pv.st.2.1.ne (by omega) (by omega) (by omega)), go p3 (fun _ z => by cases z) (pv.st.2.1.ne (by omega) (by omega) (by omega)), go p4 (fun _ z => by cases z) (pv.st.2.1.ne (by omega) (by omega) (by omega))⟩
  have tx2 : hg_at S2.1 (A 2) = some (.inl (G.1 1, nn, .inl fT)) := go pv.lx.2.1 (fun _ z => by cases z) (pv.st.2.1.ne (by omega) (by omega) (by omega))
  have hn3 := hn2.1
  rw [q7, hsg] at hn3
  have ep : (D 3).toInt = pas T := d3
  have hc3 : D 3 = Int32.ofNat (pas T).toNat := ofN_m (by omega) (by omega)
  have pT := plc_T (kd := qx.2.1 51) (io := ((q25.1.1 16).toInt + (q25.1.1 17).toInt).toNat) T _ 0 _ _ _ _ _ o1 (by omega) lp
  have p00 : plc (qx.2.1 51) (qx.2.1 57) ((q25.1.1 16).toInt + (q25.1.1 17).toInt).toNat 0 = ((q25.1.1 16).toInt + (q25.1.1 17).toInt).toNat := rfl
  rw [Nat.zero_add, en, p00] at pT
  have s2 := fr.1
  have hpi := hpi2
  have a0 : q25.1.2.1 = Sx.2.1 := by rw [x2]
  refine dc_mono (rdt_w (ps := (tsm (B 9) T).toNat) (sg := (q25.1.1 15).toInt.toNat) (io := ((q25.1.1 16).toInt + (q25.1.1 17).toInt).toNat) (pa := (pas T).toNat) (Q := qx.2.1) dv.1.1 he2 (fun k hk => by have := At k hk; omega) hpa dv pv.st.2.1 hpi2 hn3 W (by omega) (by omega) hθ st0 o1 b7 rep cv b5 (by omega) (by omega) l4 (fun j => (sd.1 j 6 (Or.inr (Or.inr (Or.inr rfl)))).trans rfl) (by omega) lpB cp l62 rfl (by rw [q0, q1]; exact hio') hc3 (by omega) (by omega) (by omega) (by rw [o4]; exact f4) (fun y hy => ?_) rfl (by omega) (by rw [s2]; show 32 ≤ S.2.2.1 - 1; omega) (by rw [s2]; show _ ≤ S.2.2.2 - (Q 9).toInt.toNat; omega)) ?_
  · rw [o4] at hy
    have := f3 y hy
    omega
  rintro ⟨z, z0⟩ ⟨ez, kz, sz', fz, hez, R, f, pgv, req, rev, plp, hh, hs⟩
  have ez : z0 = 0 := ez
  subst ez
  have kz : hw z := kz
  have sz' : z.2 = (S2.2.1 + 32, S2.2.2.1 - 32, S2.2.2.2 - _) := sz'
  have t2 : S2.2.1 = S.2.1 + 1 := by rw [s2]
  clear b1 b2 b3 b4 b6 sd cf P1 P2 i8 i9 i10 i11
  -- names stay
  have nst : ∀ {k : Nat} {y : va_E}, k < 14 → hg_at S2.1 (A k) = some y → hg_at z.1 (A k) = some y ∧ A k < S2.2.1 := fun {k y} hk hy => ⟨(fz _ (dv.1.1.lt hy) (by have := At k (by omega); omega) (fun l l1 l2 => pv.st.2.1.ne (by omega) (by omega) (by omega))).trans hy, dv.1.1.lt hy⟩
  obtain ⟨m1, m2, m3, m4⟩ := hn2
  have u1 := nst (k := 3) (by omega) hn3
  have u2 := nst (k := 8) (by omega) m2
  have u3 := nst (k := 9) (by omega) m3
  have u4 := nst (k := 10) (by omega) m4
  have u5 := nst (k := 2) (by omega) tx2
  -- numbers of the reference
  have c1 : ∀ i, ¬ (i = 2 ∨ i = 3 ∨ i = 12) → (md_i (md_i (md_i qx 12 0) 2 0) 3 0).1 i = qx.1 i := fun i hi => by rw [md_ij (by omega), md_ij (by omega), md_ij (by omega)]
  have c2 : (md_i (md_i (md_i qx 12 0) 2 0) 3 0).1 2 = 0 ∧ (md_i (md_i (md_i qx 12 0) 2 0) 3 0).1 3 = 0 := ⟨rfl, rfl⟩
  have c3 : (md_i (md_i (md_i qx 12 0) 2 0) 3 0).2 = qx.2 := rfl
  generalize md_i (md_i (md_i qx 12 0) 2 0) 3 0 = Y at sO c1 c2 c3
  obtain ⟨⟨v1, v2, v3⟩, ⟨v41, v82, v77, v44, v45, v46, v50⟩, v54, v61, vlt⟩ := sO
  rw [en] at v50 v54 v61
  rw [c3] at v2 v3 v50 v54 v61
  have n15' : Y.1 15 = q25.1.1 15 := by rw [c1 15 (by omega), l1 15 (by omega), x1 15 (by omega)]
  have n16' : Y.1 16 = q25.1.1 16 := by rw [c1 16 (by omega), l1 16 (by omega), x1 16 (by omega)]
  have n17' : Y.1 17 = q25.1.1 17 := by rw [c1 17 (by omega), l1 17 (by omega), x1 17 (by omega)]
  rw [n15'] at v44 vlt
  rw [n16'] at v45
  rw [n17'] at v46
  have e51 : r.1.2.1 51 = qx.2.1 51 := v3 51 (by omega)
  have e57 : r.1.2.1 57 = qx.2.1 57 := v3 57 (by omega)
  have e42 : r.1.1 42 = Int32.ofNat (Q 12).toInt.toNat := by rw [v1 42 (by omega), c1 42 (by omega), l5, en]
  have e43 : r.1.1 43 = Int32.ofNat (tsm (B 9) T).toNat := by rw [v1 43 (by omega), c1 43 (by omega)]; exact ofN_m (by omega) (by omega)
  have e47 : r.1.1 47 = Int32.ofNat (pas T).toNat := by rw [v1 47 (by omega), c1 47 (by omega)]; exact ofN_m (by omega) (by omega)
  have e48 : (r.1.1 48).toInt = wsm T 1 := by rw [v1 48 (by omega), c1 48 (by omega)]; exact l48
  have e49 : (r.1.1 49).toInt = dmx T 0 := by rw [v1 49 (by omega), c1 49 (by omega)]; exact l49
  have t47 : (r.1.1 47).toInt = pas T := by rw [v1 47 (by omega), c1 47 (by omega)]; exact l47
  have rl0 : ∀ j, j < (Q 12).toInt.toNat → R 0 j = qx.2.1 51 j := fun j hj => (req.1 j hj).1.1
  have e54 : ∀ j, ¬ qx.2.1 51 j = 8 → r.1.2.1 54 j = qx.2.1 54 j := fun j hj => by rw [v54 j, if_neg (fun t => hj t.2)]
  have pcl : ∀ j, j ≤ (Q 12).toInt.toNat → plc (R 0) (R 7) ((q25.1.1 16).toInt + (q25.1.1 17).toInt).toNat j = plc (qx.2.1 51) (qx.2.1 57) ((q25.1.1 16).toInt + (q25.1.1 17).toInt).toNat j := by
    intro j
    induction j with
    | zero => intro _; rfl
    | succ j ih =>
      intro hj
      show plc (R 0) (R 7) _ j + (if R 0 j = 10 then (R 7 j).toInt.toNat else 0) = plc (qx.2.1 51) (qx.2.1 57) _ j + (if qx.2.1 51 j = 10 then (qx.2.1 57 j).toInt.toNat else 0)
      rw [ih (by omega), (req.1 j (by omega)).1.1, (req.1 j (by omega)).1.2.2.2.2.2.2.1]
  have z2 : z.2.1 = S2.2.1 + 32 := by rw [sz']
  have zc : z.2.2.1 = S.2.2.1 - 1 - 32 := by rw [sz', s2]
  have zs : z.2.2.2 = S.2.2.2 - (Q 9).toInt.toNat - (42 + 6 * (tsm (B 9) T).toNat + 15 * (Q 12).toInt.toNat + 2 * (q25.1.1 15).toInt.toNat + 2 * plc (qx.2.1 51) (qx.2.1 57) ((q25.1.1 16).toInt + (q25.1.1 17).toInt).toNat (Q 12).toInt.toNat + 3 * (pas T).toNat + ((q25.1.1 16).toInt + (q25.1.1 17).toInt).toNat) := by rw [sz', s2]
  refine ⟨r20.symm, ⟨kz, ?_⟩, fun b b1 b2 => ?_, ⟨?_, ?_⟩, Or.inr ⟨r20, S2.2.1, T, (Q 12).toInt.toNat, (tsm (B 9) T).toNat, (q25.1.1 15).toInt.toNat, ((q25.1.1 16).toInt + (q25.1.1 17).toInt).toNat, (pas T).toNat, R, pgC (Q 0) (Q 1) D, f, ⟨?_, ?_⟩, hez, ?_, ?_, ?_, ?_, plp, hh, hs, fun i hi => ?_, ?_, ?_, ?_⟩⟩
  · show t0 ≤ z.2.1
    omega
  · exact (fz b (by omega) b2 (fun l l1 l2 => by have := At l (by omega); omega)).trans (frt b b1)
  · show K1 ≤ z.2.2.1 + 40 * nn + 200
    omega
  · show K2 ≤ z.2.2.2 + 300 * nn + 3400
    omega
  · omega
  · exact z2.symm
  · -- the program
    refine ⟨⟨A 3, ⟨A 2, A 8, A 9, A 10, C 0, nn, B 0, B 1, B 2, fT, Q 8, ⟨⟨At 2 (by omega), u5.2⟩, ⟨At 3 (by omega), u1.2⟩, ⟨At 8 (by omega), u2.2⟩, ⟨At 9 (by omega), u3.2⟩, ⟨At 10 (by omega), u4.2⟩⟩, ⟨u1.1, u2.1, u3.1, u4.1⟩, u5.1, ⟨by have := nmr.2.1; omega, nnb⟩, fun s hs => ?_⟩, ⟨pgv.1, pgv.2.1, fun k hk n10 => ?_⟩⟩, ⟨fun j hj => ?_, fun j hj => ?_⟩, ⟨e42, e43, by rw [v44]; exact hsg, ?_, ?_, by rw [e47]; exact hc3, ?_, ?_, ?_, e47⟩, ⟨⟨by omega, by omega⟩, by omega, by omega, by omega, by omega, by omega⟩, ?_⟩
    · obtain ⟨⟨y1, y2⟩, y3, y4, y5⟩ := nmr.2.2.1 s hs
      have nb := hnm s (by omega)
      obtain ⟨w1, w2⟩ := vlt s (by omega)
      have r22 : Y.2.1 22 = q25.1.2.1 22 := by rw [c3, l3 22 (by unfold lyJ lyI; omega), x2]
      have r21 : Y.2.1 21 = q25.1.2.1 21 := by rw [c3, l3 21 (by unfold lyJ lyI; omega), x2]
      have r01 : Y.2.1 1 = q25.1.2.1 1 := by rw [c3, l3 1 (by unfold lyJ lyI; omega), x2]
      rw [r22] at w1 w2
      rw [r21, r01] at w2
      refine ⟨by rw [y2, w1], y3, y4, by rw [y2]; exact nb.2.2.1, y5, fun j hj => ?_⟩
      rw [w2 j (by rw [← y2]; exact hj), ← y1, ← rmt.2.1 _ (by omega)]
      exact (nar_b (hft _)).symm
    · have e1 : pgA (S2.2.1 + 1) (fun _ => 0) k = pgA (S2.2.1 + 1) A k := by
        unfold pgA
        by_cases c : k < 10
        · rw [if_pos c, if_pos c]
        · rw [if_neg c, if_neg c, if_neg n10, if_neg n10, if_pos hk, if_pos hk]
      have e2 : pgN (Q 12).toInt.toNat (tsm (B 9) T).toNat 0 k = pgN (Q 12).toInt.toNat (tsm (B 9) T).toNat (C 2) k := by
        unfold pgN
        by_cases c : k < 11
        · rw [if_pos c, if_pos c]
        · rw [if_neg c, if_neg c, if_pos hk, if_pos hk]
      rw [e1, e2]
      exact pgv.2.2 k hk n10
    · obtain ⟨⟨y0, y1, y2, y3, y5, y6, y7, y8⟩, y4, ⟨l, k1, k2, k3, k4⟩, y9⟩ := req.1 j hj
      rw [v3 51 (by omega), v3 52 (by omega), v3 53 (by omega), v3 58 (by omega), v3 55 (by omega), v3 56 (by omega), v3 57 (by omega), v3 62 (by omega), v3 59 (by omega), v3 66 (by omega)]
      refine ⟨⟨y0, y1, y2, y3, ?_, y5, y6, y7, y8⟩, ⟨l, k1, k2, k3, k4⟩, fun hk => ?_⟩
      · rw [y4, v54 j, y0]
        by_cases c8 : qx.2.1 51 j = 8
        · rw [if_pos c8, if_pos ⟨hj, c8⟩]
        · rw [if_neg c8, if_neg (fun t => c8 t.2)]
      · rw [e54 j (by rw [← y0]; rcases hk with c | c <;> (rw [c]; decide))]
        exact y9 hk
    · rw [v3 63 (by omega), v3 64 (by omega), v3 65 (by omega)]
      exact req.2 j hj
    · rw [v45]; exact q0
    · rw [v46]; exact q1
    · show D 2 = _
      exact i_eq.mpr (by rw [e48]; exact d2)
    · show D 5 = _
      exact i_eq.mpr (by rw [e49]; exact d5)
    · rw [v45, v46]; exact hio'
    · rw [v45, v46]; omega
  · -- the tree
    refine ⟨B 6, B 7, B 8, B 9, (Q 11).toInt.toNat, q25.1.1 15, ⟨W, by omega⟩, ?_, b7, ⟨?_, ?_⟩, ⟨en, by omega, t47, e48, e49, ?_⟩, ⟨by rw [o4]; exact f4, fun y hy => ?_⟩, by omega, by omega, b5, by omega⟩
    · rw [v45, v46, tm]
      exact o1
    · exact LPr_h W (v3 63 (by omega)) (v3 64 (by omega)) (v3 65 (by omega)) (v3 66 (by omega)) T _ 0 _ _ _ _ _ o1 (fun k j hk n54 _ _ => by rw [v3 k (by omega)]) (fun j _ _ n8 => e54 j (fun t => n8 (Or.inl t))) lpB
    · exact CPr_s (v3 55 (by omega)) (v3 59 (by omega)) e54 T _ 0 _ _ _ _ _ _ o1 lpB cp
    · rw [v3 62 (by omega), ← en]
      exact l62
    · rw [o4] at hy
      rw [v45, v46, v44]
      exact f3 y hy
  · refine ⟨?_, fun j hj hk => ?_⟩
    · rw [e51, e57]; exact v50
    · rw [e51] at hk
      rw [e51, e57]
      exact v61 j hj hk
  · rw [pcl _ (Nat.le_refl _)]
    exact rev
  · rw [v1 i (by omega), c1 i (by omega), l1 i (by omega), x1 i (by omega)]
  · exact ⟨by rw [v1 2 (by omega)]; exact c2.1, by rw [v1 3 (by omega)]; exact c2.2, v41, v77, v82⟩
  · rw [v3 74 (by omega), l3 74 (by unfold lyJ lyI; omega), x2]
  · rw [v3 84 (by omega), l3 84 (by unfold lyJ lyI; omega), x2]
end RDK
