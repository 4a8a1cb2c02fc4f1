/-! a statement -/
noncomputable def stT (T : mm_T2) (q3 : md_S) (x1 v2 : Int32) (x2 : Int64) (x4 : Int32) : Option (md_S × Int32) := if x4 = 0 then (if (dc_cmp x2 31650977444884084) = 0 then ((T.2.2.2.2.1 q3 x1).bind fun q4 => mm_statement_L236 T q4.1 q4.2) else (if (dc_cmp x2 32498760989109860) = 0 then ((T.2.2.2.2.2.1 q3 x1).bind fun q5 => mm_statement_L236 T q5.1 q5.2) else (if (dc_cmp x2 1819242352) = 0 then ((T.2.2.2.2.2.2.1 q3 x1 v2).bind fun q6 => mm_statement_L236 T q6.1 q6.2) else (if (dc_cmp x2 1953653104) = 0 then ((T.2.2.2.2.2.2.2.1 q3 x1).bind fun q7 => mm_statement_L236 T q7.1 q7.2) else (if (dc_cmp x2 126896544047468) = 0 then ((T.2.2.2.2.2.2.2.2.1 q3 x1).bind fun q8 => mm_statement_L236 T q8.1 q8.2) else (if (dc_cmp x2 418263298676) = 0 then ((T.2.2.2.2.2.2.2.2.2.1 q3 x1 0).bind fun q9 => mm_statement_L236 T q9.1 q9.2) else (if (dc_cmp x2 2003132779) = 0 then ((T.2.2.2.2.2.2.2.2.2.2.1 q3 x1).bind fun q10 => mm_statement_L236 T q10.1 q10.2) else (if (dc_cmp x2 435778056825) = 0 then ((T.2.2.2.2.2.2.2.2.2.2.2 q3 x1).bind fun q11 => mm_statement_L236 T q11.1 q11.2) else ((mm_simple_JI q3 x2 x1).bind fun q12 => mm_statement_L236 T q12.1 q12.2))))))))) else ((T.2.2.2.1 q3).bind fun q13 => mm_statement_L236 T q13.1 q13.2)
theorem disp28 {e : Nat} {N : md_S} {ln g0 : Int32} {x2 : Int64} {q : md_S × Int32} (hq : stT (mm_P2 e) N ln g0 x2 1 = some q) : ∃ q4, rDp e N ln g0 28 q4 ∧ q = (md_i q4.1 11 (q4.1.1 11 - 1), q4.2) := by
  delta stT at hq
  rw [if_neg (by decide)] at hq
  obtain ⟨q4, e4, hq⟩ := iv_bind hq
  exact ⟨q4, Or.inl ⟨rfl, e4⟩, (Option.some.inj hq).symm⟩
theorem disp2 {e : Nat} {N : md_S} {ln g0 : Int32} {q : md_S × Int32} (hq : stT (mm_P2 e) N ln g0 (kw.getD 2 0) 0 = some q) : ∃ q4, rDp e N ln g0 2 q4 ∧ q = (md_i q4.1 11 (q4.1.1 11 - 1), q4.2) := by
  have hq : (mm_simple_JI N (kw.getD 2 0) ln).bind (fun q4 => mm_statement_L236 (mm_P2 e) q4.1 q4.2) = some q := hq
  obtain ⟨q4, e4, hq⟩ := iv_bind hq
  exact ⟨q4, Or.inr (Or.inr (Or.inr (Or.inr (Or.inr (Or.inr (Or.inr (Or.inr (Or.inr (⟨Or.inl rfl, e4⟩))))))))), (Option.some.inj hq).symm⟩
theorem disp3 {e : Nat} {N : md_S} {ln g0 : Int32} {q : md_S × Int32} (hq : stT (mm_P2 e) N ln g0 (kw.getD 3 0) 0 = some q) : ∃ q4, rDp e N ln g0 3 q4 ∧ q = (md_i q4.1 11 (q4.1.1 11 - 1), q4.2) := by
  have hq : (mm_simple_JI N (kw.getD 3 0) ln).bind (fun q4 => mm_statement_L236 (mm_P2 e) q4.1 q4.2) = some q := hq
  obtain ⟨q4, e4, hq⟩ := iv_bind hq
  exact ⟨q4, Or.inr (Or.inr (Or.inr (Or.inr (Or.inr (Or.inr (Or.inr (Or.inr (Or.inr (⟨Or.inr (Or.inl rfl), e4⟩))))))))), (Option.some.inj hq).symm⟩
theorem disp4 {e : Nat} {N : md_S} {ln g0 : Int32} {q : md_S × Int32} (hq : stT (mm_P2 e) N ln g0 (kw.getD 4 0) 0 = some q) : ∃ q4, rDp e N ln g0 4 q4 ∧ q = (md_i q4.1 11 (q4.1.1 11 - 1), q4.2) := by
  have hq : (mm_simple_JI N (kw.getD 4 0) ln).bind (fun q4 => mm_statement_L236 (mm_P2 e) q4.1 q4.2) = some q := hq
  obtain ⟨q4, e4, hq⟩ := iv_bind hq
  exact ⟨q4, Or.inr (Or.inr (Or.inr (Or.inr (Or.inr (Or.inr (Or.inr (Or.inr (Or.inr (⟨Or.inr (Or.inr (Or.inl rfl)), e4⟩))))))))), (Option.some.inj hq).symm⟩
theorem disp5 {e : Nat} {N : md_S} {ln g0 : Int32} {q : md_S × Int32} (hq : stT (mm_P2 e) N ln g0 (kw.getD 5 0) 0 = some q) : ∃ q4, rDp e N ln g0 5 q4 ∧ q = (md_i q4.1 11 (q4.1.1 11 - 1), q4.2) := by
  have hq : (mm_simple_JI N (kw.getD 5 0) ln).bind (fun q4 => mm_statement_L236 (mm_P2 e) q4.1 q4.2) = some q := hq
  obtain ⟨q4, e4, hq⟩ := iv_bind hq
  exact ⟨q4, Or.inr (Or.inr (Or.inr (Or.inr (Or.inr (Or.inr (Or.inr (Or.inr (Or.inr (⟨Or.inr (Or.inr (Or.inr (Or.inl rfl))), e4⟩))))))))), (Option.some.inj hq).symm⟩
theorem disp6 {e : Nat} {N : md_S} {ln g0 : Int32} {q : md_S × Int32} (hq : stT (mm_P2 e) N ln g0 (kw.getD 6 0) 0 = some q) : ∃ q4, rDp e N ln g0 6 q4 ∧ q = (md_i q4.1 11 (q4.1.1 11 - 1), q4.2) := by
  have hq : (mm_simple_JI N (kw.getD 6 0) ln).bind (fun q4 => mm_statement_L236 (mm_P2 e) q4.1 q4.2) = some q := hq
  obtain ⟨q4, e4, hq⟩ := iv_bind hq
  exact ⟨q4, Or.inr (Or.inr (Or.inr (Or.inr (Or.inr (Or.inr (Or.inr (Or.inr (Or.inr (⟨Or.inr (Or.inr (Or.inr (Or.inr (Or.inl rfl)))), e4⟩))))))))), (Option.some.inj hq).symm⟩
theorem disp7 {e : Nat} {N : md_S} {ln g0 : Int32} {q : md_S × Int32} (hq : stT (mm_P2 e) N ln g0 (kw.getD 7 0) 0 = some q) : ∃ q4, rDp e N ln g0 7 q4 ∧ q = (md_i q4.1 11 (q4.1.1 11 - 1), q4.2) := by
  have hq : (mm_simple_JI N (kw.getD 7 0) ln).bind (fun q4 => mm_statement_L236 (mm_P2 e) q4.1 q4.2) = some q := hq
  obtain ⟨q4, e4, hq⟩ := iv_bind hq
  exact ⟨q4, Or.inr (Or.inr (Or.inr (Or.inr (Or.inr (Or.inr (Or.inr (Or.inr (Or.inr (⟨Or.inr (Or.inr (Or.inr (Or.inr (Or.inr (Or.inl rfl))))), e4⟩))))))))), (Option.some.inj hq).symm⟩
theorem disp8 {e : Nat} {N : md_S} {ln g0 : Int32} {q : md_S × Int32} (hq : stT (mm_P2 e) N ln g0 (kw.getD 8 0) 0 = some q) : ∃ q4, rDp e N ln g0 8 q4 ∧ q = (md_i q4.1 11 (q4.1.1 11 - 1), q4.2) := by
  have hq : ((mm_P2 e).2.2.2.2.1 N ln).bind (fun q4 => mm_statement_L236 (mm_P2 e) q4.1 q4.2) = some q := hq
  obtain ⟨q4, e4, hq⟩ := iv_bind hq
  exact ⟨q4, Or.inr (Or.inl ⟨rfl, e4⟩), (Option.some.inj hq).symm⟩
theorem disp12 {e : Nat} {N : md_S} {ln g0 : Int32} {q : md_S × Int32} (hq : stT (mm_P2 e) N ln g0 (kw.getD 12 0) 0 = some q) : ∃ q4, rDp e N ln g0 12 q4 ∧ q = (md_i q4.1 11 (q4.1.1 11 - 1), q4.2) := by
  have hq : ((mm_P2 e).2.2.2.2.2.1 N ln).bind (fun q4 => mm_statement_L236 (mm_P2 e) q4.1 q4.2) = some q := hq
  obtain ⟨q4, e4, hq⟩ := iv_bind hq
  exact ⟨q4, Or.inr (Or.inr (Or.inl ⟨rfl, e4⟩)), (Option.some.inj hq).symm⟩
theorem disp14 {e : Nat} {N : md_S} {ln g0 : Int32} {q : md_S × Int32} (hq : stT (mm_P2 e) N ln g0 (kw.getD 14 0) 0 = some q) : ∃ q4, rDp e N ln g0 14 q4 ∧ q = (md_i q4.1 11 (q4.1.1 11 - 1), q4.2) := by
  have hq : ((mm_P2 e).2.2.2.2.2.2.1 N ln g0).bind (fun q4 => mm_statement_L236 (mm_P2 e) q4.1 q4.2) = some q := hq
  obtain ⟨q4, e4, hq⟩ := iv_bind hq
  exact ⟨q4, Or.inr (Or.inr (Or.inr (Or.inl ⟨rfl, e4⟩))), (Option.some.inj hq).symm⟩
theorem disp16 {e : Nat} {N : md_S} {ln g0 : Int32} {q : md_S × Int32} (hq : stT (mm_P2 e) N ln g0 (kw.getD 16 0) 0 = some q) : ∃ q4, rDp e N ln g0 16 q4 ∧ q = (md_i q4.1 11 (q4.1.1 11 - 1), q4.2) := by
  have hq : ((mm_P2 e).2.2.2.2.2.2.2.1 N ln).bind (fun q4 => mm_statement_L236 (mm_P2 e) q4.1 q4.2) = some q := hq
  obtain ⟨q4, e4, hq⟩ := iv_bind hq
  exact ⟨q4, Or.inr (Or.inr (Or.inr (Or.inr (Or.inl ⟨rfl, e4⟩)))), (Option.some.inj hq).symm⟩
theorem disp17 {e : Nat} {N : md_S} {ln g0 : Int32} {q : md_S × Int32} (hq : stT (mm_P2 e) N ln g0 (kw.getD 17 0) 0 = some q) : ∃ q4, rDp e N ln g0 17 q4 ∧ q = (md_i q4.1 11 (q4.1.1 11 - 1), q4.2) := by
  have hq : ((mm_P2 e).2.2.2.2.2.2.2.2.1 N ln).bind (fun q4 => mm_statement_L236 (mm_P2 e) q4.1 q4.2) = some q := hq
  obtain ⟨q4, e4, hq⟩ := iv_bind hq
  exact ⟨q4, Or.inr (Or.inr (Or.inr (Or.inr (Or.inr (Or.inl ⟨rfl, e4⟩))))), (Option.some.inj hq).symm⟩
theorem disp21 {e : Nat} {N : md_S} {ln g0 : Int32} {q : md_S × Int32} (hq : stT (mm_P2 e) N ln g0 (kw.getD 21 0) 0 = some q) : ∃ q4, rDp e N ln g0 21 q4 ∧ q = (md_i q4.1 11 (q4.1.1 11 - 1), q4.2) := by
  have hq : (mm_simple_JI N (kw.getD 21 0) ln).bind (fun q4 => mm_statement_L236 (mm_P2 e) q4.1 q4.2) = some q := hq
  obtain ⟨q4, e4, hq⟩ := iv_bind hq
  exact ⟨q4, Or.inr (Or.inr (Or.inr (Or.inr (Or.inr (Or.inr (Or.inr (Or.inr (Or.inr (⟨Or.inr (Or.inr (Or.inr (Or.inr (Or.inr (Or.inr rfl))))), e4⟩))))))))), (Option.some.inj hq).symm⟩
theorem disp22 {e : Nat} {N : md_S} {ln g0 : Int32} {q : md_S × Int32} (hq : stT (mm_P2 e) N ln g0 (kw.getD 22 0) 0 = some q) : ∃ q4, rDp e N ln g0 22 q4 ∧ q = (md_i q4.1 11 (q4.1.1 11 - 1), q4.2) := by
  have hq : ((mm_P2 e).2.2.2.2.2.2.2.2.2.1 N ln 0).bind (fun q4 => mm_statement_L236 (mm_P2 e) q4.1 q4.2) = some q := hq
  obtain ⟨q4, e4, hq⟩ := iv_bind hq
  exact ⟨q4, Or.inr (Or.inr (Or.inr (Or.inr (Or.inr (Or.inr (Or.inl ⟨rfl, e4⟩)))))), (Option.some.inj hq).symm⟩
theorem disp23 {e : Nat} {N : md_S} {ln g0 : Int32} {q : md_S × Int32} (hq : stT (mm_P2 e) N ln g0 (kw.getD 23 0) 0 = some q) : ∃ q4, rDp e N ln g0 23 q4 ∧ q = (md_i q4.1 11 (q4.1.1 11 - 1), q4.2) := by
  have hq : ((mm_P2 e).2.2.2.2.2.2.2.2.2.2.1 N ln).bind (fun q4 => mm_statement_L236 (mm_P2 e) q4.1 q4.2) = some q := hq
  obtain ⟨q4, e4, hq⟩ := iv_bind hq
  exact ⟨q4, Or.inr (Or.inr (Or.inr (Or.inr (Or.inr (Or.inr (Or.inr (Or.inl ⟨rfl, e4⟩))))))), (Option.some.inj hq).symm⟩
theorem disp24 {e : Nat} {N : md_S} {ln g0 : Int32} {q : md_S × Int32} (hq : stT (mm_P2 e) N ln g0 (kw.getD 24 0) 0 = some q) : ∃ q4, rDp e N ln g0 24 q4 ∧ q = (md_i q4.1 11 (q4.1.1 11 - 1), q4.2) := by
  have hq : ((mm_P2 e).2.2.2.2.2.2.2.2.2.2.2 N ln).bind (fun q4 => mm_statement_L236 (mm_P2 e) q4.1 q4.2) = some q := hq
  obtain ⟨q4, e4, hq⟩ := iv_bind hq
  exact ⟨q4, Or.inr (Or.inr (Or.inr (Or.inr (Or.inr (Or.inr (Or.inr (Or.inr (Or.inl ⟨rfl, e4⟩)))))))), (Option.some.inj hq).symm⟩
theorem st_w : ∀ j, j < 26 → ¬ tk_st.getD j 0 = 0 → j = 2 ∨ j = 3 ∨ j = 4 ∨ j = 5 ∨ j = 6 ∨ j = 7 ∨ j = 8 ∨ j = 12 ∨ j = 14 ∨ j = 16 ∨ j = 17 ∨ j = 21 ∨ j = 22 ∨ j = 23 ∨ j = 24 := by decide +kernel
theorem st_l : ∀ j, j < 26 → ¬ tk_st.getD j 0 = 0 → 4 ≤ tln j := by decide +kernel
set_option maxRecDepth 100000 in
theorem beg_e : ∀ j, j < 26 → mm_begins (kw.getD j 0) = some (tk_st.getD j 0) := by decide +kernel
theorem st_0 : ∀ j, j < 33 → ¬ j < 26 → ¬ j = 28 → tk_st.getD j 0 = 0 := by decide +kernel
theorem dispW {e j : Nat} {N : md_S} {ln g0 : Int32} {q : md_S × Int32} (hj : j < 26) (hs : ¬ tk_st.getD j 0 = 0) (hq : stT (mm_P2 e) N ln g0 (kw.getD j 0) 0 = some q) : ∃ q4, rDp e N ln g0 j q4 ∧ q = (md_i q4.1 11 (q4.1.1 11 - 1), q4.2) := by
  rcases st_w j hj hs with rfl | rfl | rfl | rfl | rfl | rfl | rfl | rfl | rfl | rfl | rfl | rfl | rfl | rfl | rfl
  · exact disp2 hq
  · exact disp3 hq
  · exact disp4 hq
  · exact disp5 hq
  · exact disp6 hq
  · exact disp7 hq
  · exact disp8 hq
  · exact disp12 hq
  · exact disp14 hq
  · exact disp16 hq
  · exact disp17 hq
  · exact disp21 hq
  · exact disp22 hq
  · exact disp23 hq
  · exact disp24 hq
theorem rDp_sk {e j : Nat} {N : md_S} {ln g0 : Int32} {q : md_S × Int32} (h : rDp e N ln g0 j q) {φ : Int32} (hφ : ¬ φ = 0) (hs : stk φ N) : stk φ q.1 := by
  have k := mm_P2_sk hφ e
  rcases h with ⟨-, h⟩ | ⟨-, h⟩ | ⟨-, h⟩ | ⟨-, h⟩ | ⟨-, h⟩ | ⟨-, h⟩ | ⟨-, h⟩ | ⟨-, h⟩ | ⟨-, h⟩ | ⟨-, h⟩
  · exact k.2.2.2.2.1 N hs q h
  · exact k.2.2.2.2.2.1 N _ hs q h
  · exact k.2.2.2.2.2.2.1 N _ hs q h
  · exact k.2.2.2.2.2.2.2.1 N _ _ hs q h
  · exact k.2.2.2.2.2.2.2.2.1 N _ hs q h
  · exact k.2.2.2.2.2.2.2.2.2.1 N _ hs q h
  · exact k.2.2.2.2.2.2.2.2.2.2.1 N _ _ hs q h
  · exact k.2.2.2.2.2.2.2.2.2.2.2.1 N _ hs q h
  · exact k.2.2.2.2.2.2.2.2.2.2.2.2 N _ hs q h
  · exact mm_simple_JI_sk hφ N _ _ hs q h
section STM
variable {G : hg_E} {sz t0' : Nat} {H0 : Nat → Option va_E} {K1 K2 n : Nat} {f : Nat → Int32} {S : hg_S} {A C : Nat → Nat} {B : Nat → Nat → Int32} {Q : Nat → Int32} {j : Nat} {el : Nat → Option Nat} {P : Nat → Nat} {ND : Nat → ndT} {M : md_S} {b u w p0 : Int}
theorem rest_all (hA : BUalg) (hok : lw_ok G sz) (hK : 40 * n + 70 ≤ K1 ∧ 200 * n + 400 ≤ K2) {D e j0 : Nat} (hb3 : ∀ d, d ≤ D + 1 → ∀ e, StP G t0' H0 K1 K2 n f d 3 ((hm_P2 d).1) ((mm_P2 e).1)) (h : PV G t0' H0 K1 K2 n f S A C B Q j el P ND) (r : RM M C B n f Q j b u w) (hb : b ≤ (M.1 7).toInt) (rp : RP M B Q u w p0 1) (rp4 : ¬ j0 = 28 → RP M B Q u w p0 4) (hd : 5 * (24 - (M.1 11).toInt) + 3 ≤ (D : Int)) {ln g0 : Int32} (hg : g0.toInt = p0) (ho : (M.1 19).toInt < (M.1 11).toInt) (h15 : 2 * (M.1 15).toInt ≤ p0 + 1) {q : md_S × Int32} (hq : rDp e M ln g0 j0 q) : dc_wp (hm_PA_takeRest (hm_P2 (D + 1)) G S (A 0) (some (G.2.1 j0)) ln) (fun z => (∃ S' r, z = .inl (S', r) ∧ stO G t0' H0 K1 K2 n f (100 * (2 * (D + 1)) + (27 - (M.1 11).toInt).toNat) A C B Q P ND M u w p0 S' r q) ∨ ∃ X : hg_X, z = .inr X ∧ thr t0' H0 K1 K2 n (A 0) (A 1) X q.1) := by
  have hb0 := hb3 D (by omega)
  rcases hq with ⟨rfl, hq⟩ | ⟨rfl, hq⟩ | ⟨rfl, hq⟩ | ⟨rfl, hq⟩ | ⟨rfl, hq⟩ | ⟨rfl, hq⟩ | ⟨rfl, hq⟩ | ⟨rfl, hq⟩ | ⟨rfl, hq⟩ | ⟨hj, hq⟩
  · exact rs28 hA hok hK (hb3 (D + 1) (Nat.le_refl _)) h r hb rp (by omega) hq
  · exact rs8 hA hok hK hb0 h r hb (rp4 (by decide)) hd hq
  · exact rs12 hA hok hK hb0 h r hb (rp4 (by decide)) hd hq
  · exact rs14 hA hok hK hb0 h r hb (rp4 (by decide)) hd hg hq
  · exact rs16 hA hok hK hb0 h r hb (rp4 (by decide)) hd ho hq
  · exact rs17 hA hok hK hb0 h r hb (rp4 (by decide)) hd h15 hq
  · exact rs22 hA hok hK hb0 h r hb (rp4 (by decide)) hd hq
  · exact rs23 hA hok hK hb0 h r hb (rp4 (by decide)) hd hq
  · exact rs24 hA hok hK hb0 h r hb (rp4 (by decide)) hd hq
  · rcases hj with rfl | rfl | rfl | rfl | rfl | rfl | rfl
    · exact rs2 hA hok hK h r hb (rp4 (by decide)) hq
    · exact rs3 hA hok hK h r hb (rp4 (by decide)) hq
    · exact rs4 hA hok hK h r hb (rp4 (by decide)) hq
    · exact rs5 hA hok hK h r hb (rp4 (by decide)) hq
    · exact rs6 hA hok hK h r hb (rp4 (by decide)) hq
    · exact rs7 hA hok hK h r hb (rp4 (by decide)) hq
    · exact rs21 hA hok hK h r hb (rp4 (by decide)) hq
theorem evS_op {A' C' P' : Nat → Nat} {B' : Nat → Nat → Int32} {Q' : Nat → Int32} {ND' : Nat → ndT} {M' : md_S} {v : Int32} (h : evS A C B (q1 Q 2 v) P ND (md_i M 11 v) A' C' B' Q' P' ND' M') : evS A C B Q P ND M A' C' B' (q1 Q' 2 (Q 2)) P' ND' (md_i M' 11 (M.1 11)) := by
  obtain ⟨h1, ⟨h2, h3, h4, h5, h6⟩, ⟨h7, h8, h9, h10, h11, h12⟩, h13, h14, h17, h18, h19, h20, h21⟩ := h
  exact ⟨h1, ⟨h2, h3, rfl, h5, h6⟩, ⟨h7, rfl, h9, h10, h11, h12⟩, h13, h14, h17, h18, h19, h20, h21⟩
/-- what the reference does at a statement's start -/
theorem st_i {e : Nat} (x2 : j < 33) (x3 : tokS (some j) (M.1 6) M.2.2.1) (l2 : M.1 10 = 0) {q : md_S × Int32} (hq : mm_statement (mm_P2 e) M = some q) : (tk_st.getD j 0 = 0 ∧ ∃ x y, mm_statement_L51 (mm_P2 e) M (M.1 8) x y = some q) ∨ (¬ tk_st.getD j 0 = 0 ∧ ∃ x y, mm_statement_L57 (mm_P2 e) M (M.1 8) x y = some q ∧ ((j = 28 ∧ y = 1) ∨ (j < 26 ∧ x = kw.getD j 0 ∧ y = 0))) := by
  have sg28 := tk_sign x3 (i := 2) (by decide)
  have key : ∀ x : Int64, mm_statement_L23 (mm_P2 e) M (M.1 8) x = some q → (j < 26 → x = kw.getD j 0) → (tk_st.getD j 0 = 0 ∧ ∃ x y, mm_statement_L51 (mm_P2 e) M (M.1 8) x y = some q) ∨ (¬ tk_st.getD j 0 = 0 ∧ ∃ x y, mm_statement_L57 (mm_P2 e) M (M.1 8) x y = some q ∧ ((j = 28 ∧ y = 1) ∨ (j < 26 ∧ x = kw.getD j 0 ∧ y = 0))) := by
    intro x hq hx
    delta mm_statement_L23 at hq
    rw [isSign_e, Option.bind_some] at hq
    by_cases c : j = 28
    · rw [if_pos (show M.1 6 = 2 ∧ M.2.2.1 = Int32.toInt64 40 from sg28.mpr c)] at hq
      rw [if_neg (show ¬ (1 : Int32) = 0 by decide)] at hq
      exact Or.inr ⟨by rw [c]; decide, x, 1, hq, Or.inl ⟨c, rfl⟩⟩
    · rw [if_neg (show ¬ (M.1 6 = 2 ∧ M.2.2.1 = Int32.toInt64 40) from fun z => c (sg28.mp z))] at hq
      rw [if_pos rfl, isKept_e, kstep] at hq
      by_cases c2 : j < 26
      · rw [if_pos ((tk_kept x3).mpr c2), hx c2, beg_e j c2, Option.bind_some] at hq
        rcases iv_if hq with ⟨d, hq⟩ | ⟨d, hq⟩
        · exact Or.inl ⟨d, _, _, hq⟩
        · exact Or.inr ⟨d, _, _, hq, Or.inr ⟨c2, rfl, rfl⟩⟩
      · rw [if_neg (fun z => c2 ((tk_kept x3).mp z))] at hq
        exact Or.inl ⟨st_0 j x2 c2 c, _, _, hq⟩
  have hq : (if (M.1 6) = 1 then (mm_statement_L23 (mm_P2 e) M (M.1 8) M.2.2.1) else (mm_statement_L23 (mm_P2 e) M (M.1 8) (-1))) = some q := hq
  rcases iv_if hq with ⟨d, hq⟩ | ⟨d, hq⟩
  · exact key _ hq (fun c => ((tk_word x3 c).mpr rfl).2)
  · exact key _ hq (fun c => absurd ((tk_word x3 c).mpr rfl).1 d)
set_option maxHeartbeats 1000000 in
theorem takeStatement_t (hA : BUalg) (hok : lw_ok G sz) (hK : 40 * n + 70 ≤ K1 ∧ 200 * n + 400 ≤ K2) {d e : Nat} (hb3 : ∀ d', d' < d → ∀ e, StP G t0' H0 K1 K2 n f d' 3 ((hm_P2 d').1) ((mm_P2 e).1)) : StP G t0' H0 K1 K2 n f d 1 ((hm_P2 d).2.2.1) ((mm_P2 e).2.2.1) := by
  intro S A C B Q j el P ND M b u w q h r hb rs hd hq
  have r0 := r
  have hn : (n : Int) ≤ 32768 := by have := r.1.1; omega
  obtain ⟨r1, ⟨x2, x3, x4⟩, ⟨q3, q4', q5, -⟩, ⟨l1, l2⟩, ⟨⟨p1, p2, p3⟩, p4, p5⟩, -, ⟨q10, ⟨t1, t2, t3, t4⟩, t5, t6⟩, ⟨op0, op1, op2⟩, -, ⟨⟨b1, b2, b3'⟩, ⟨b4, b5, b6⟩, b7, b8⟩, -⟩ := r
  obtain ⟨d1, rfl⟩ : ∃ d1, d = d1 + 1 := ⟨d - 1, by omega⟩
  cases e with
  | zero => cases hq
  | succ e =>
    have hq : mm_statement (mm_P2 e) M = some q := hq
    show dc_wp (hm_PA_takeStatement (hm_P2 d1) G S (A 0)) _
    delta hm_PA_takeStatement
    refine wq_gr (x := some (A 1)) h.pa rfl ?_
    refine wq_gr (x := some (G.2.1 j)) h.lx.1 rfl ?_
    refine wq_gr (x := some (A 1)) h.pa rfl ?_
    refine wq_gi (x := Q 5) h.lx.1 rfl ?_
    refine wq_gr (x := some (A 1)) h.pa rfl ?_
    rw [tk_eq hok x2, Option.bind_some]
    refine wq_chk h.lx.1 ?_
    rcases st_i x2 x3 l2 hq with ⟨s0, x, y, hq⟩ | ⟨s0, x, y, hq, hxy⟩
    · delta mm_statement_L51 at hq
      obtain ⟨Mf, ef, hq⟩ := iv_bind hq
      have ff : Mf.1 10 = 1 + 8 * M.1 8 := fail_f l2 ef
      have hc := ph_ne (k := 1) (l := M.1 8) (by decide) (by omega)
      rw [s0]
      refine wq_call (req_no h r0 hK (M' := q.1) (Or.inl (mm_statement_L57_fk hc (mm_P2 e) (mm_P2_sk hc e).1 Mf _ _ _ ff q hq))) ?_
      rintro z ⟨X, rfl, g⟩
      exact ⟨_, rfl, Or.inr ⟨X, rfl, g⟩⟩
    · delta mm_statement_L57 at hq
      rw [if_pos l2] at hq
      obtain ⟨M1, eM1, hq⟩ := iv_bind hq
      rw [req_ok s0, Option.bind_some]
      show dc_wp ((hg_chk S (some (A 0)) 4).bind _) _
      refine wq_chk h.pa ?_
      refine wq_call (enter_l h r0 hK (deeper_i l2 eM1)) ?_
      rintro zz (⟨eM, lt24, S1, rfl, v1, w1⟩ | ⟨fa, X, rfl, g⟩)
      · delta mm_statement_L68 at hq
        have m10 : M1.1 10 = 0 := w1.2.2.2.1.2
        rw [m10, if_neg lt00] at hq
        have hq : (mm_advance M1).bind (fun q3 => stT (mm_P2 e) q3 (M.1 8) (M1.1 7) x y) = some q := hq
        obtain ⟨N, eN, hq⟩ := iv_bind hq
        obtain ⟨qd, hD, rfl⟩ : ∃ qd, rDp e N (M.1 8) (M1.1 7) j qd ∧ q = (md_i qd.1 11 (qd.1.1 11 - 1), qd.2) := by
          rcases hxy with ⟨c1, c2⟩ | ⟨c1, c2, c3⟩
          · subst c2
            subst c1
            exact disp28 hq
          · subst c2 c3
            exact dispW c1 s0 hq
        obtain ⟨d2, rfl⟩ : ∃ d2, d1 = d2 + 1 := ⟨d1 - 1, by omega⟩
        obtain ⟨D, rfl⟩ : ∃ D, d2 = D + 1 := ⟨d2 - 1, by omega⟩
        refine wq_gr (x := some (A 1)) v1.pa rfl ?_
        refine wq_chk v1.lx.1 ?_
        refine wq_call (adv_l hok v1 w1 hK eN) ?_
        have sk : ∀ φ, ¬ φ = 0 → stk φ N → stk φ (md_i qd.1 11 (qd.1.1 11 - 1)) := fun φ hφ hs => stk_i (by decide) (by decide) (by decide) (rDp_sk hD hφ hs)
        rintro zz (⟨S2, rfl, j2, v2, w2, ra2, of2⟩ | ⟨X, rfl, g⟩)
        · subst eM
          have c8 : (M.1 4).toInt ≤ (N.1 7).toInt := ra2.2.2.2.2.1.1
          have ma := fun k (d : ¬ (4 ≤ k ∧ k ≤ 8)) => ra2.1 k (by omega) (by omega) (by omega) (by omega) (by omega)
          have k20 : N.1 20 = M.1 20 := ma 20 (by omega)
          have k19 : N.1 19 = M.1 19 := ma 19 (by omega)
          have k15 : N.1 15 = M.1 15 := ma 15 (by omega)
          have k13 : N.1 13 = M.1 13 := ma 13 (by omega)
          have k14 : N.1 14 = M.1 14 := ma 14 (by omega)
          have k11 : N.1 11 = M.1 11 + 1 := ma 11 (by omega)
          have e11 : (M.1 11 + 1).toInt = (M.1 11).toInt + 1 := by rw [i_addS (by rw [il_1]; omega), il_1]
          have rs1 : RS (md_i M 11 (M.1 11 + 1)) B (q1 Q 2 (M.1 11 + 1)) := ⟨rs.1, rs.2.1, rs.2.2.1, rs.2.2.2.1, rs.2.2.2.2⟩
          have rs2 := RS_adv (a := N.1 7) (b := N.1 4) (c := N.1 8) (d := 0) rs1 ra2 p2
          have evb := evS_adv (A := A) (C := C) (B := B) (Q := q1 Q 2 (M.1 11 + 1)) (P := P) (ND := ND) (a := N.1 7) (b := N.1 4) (c := N.1 8) (d := 0) ra2 p2
          have mk : ∀ k : Int, (M.1 7).toInt + k ≤ (M.1 4).toInt → RP N B (q4 (q1 Q 2 (M.1 11 + 1)) (N.1 7) (N.1 4) (N.1 8) 0) u w (M.1 7).toInt k := fun k hk => ⟨rs2, ⟨p1, by omega⟩, ⟨b6, b8⟩, by rw [k13]; exact rs.2.1, by rw [k20]; exact rs.2.2.1⟩
          have t28 : tln 28 = 1 := by decide +kernel
          have rp4 : ¬ j = 28 → RP N B (q4 (q1 Q 2 (M.1 11 + 1)) (N.1 7) (N.1 4) (N.1 8) 0) u w (M.1 7).toInt 4 := by
            intro c
            rcases hxy with ⟨c1, -⟩ | ⟨c1, -⟩
            · exact absurd c1 c
            · have := st_l j c1 s0
              exact mk 4 (by omega)
          have rp1 : RP N B (q4 (q1 Q 2 (M.1 11 + 1)) (N.1 7) (N.1 4) (N.1 8) 0) u w (M.1 7).toInt 1 := by
            by_cases c : j = 28
            · rw [c, t28] at x4
              exact mk 1 (by omega)
            · exact RP_k (rp4 c) (by decide)
          show dc_wp ((hg_chk S2 (some (A 0)) 4).bind _) _
          refine wq_chk v2.pa ?_
          rw [q5]
          refine wq_call (rest_all (D := D) hA hok hK (fun d hd' e => hb3 d (by omega) e) v2 w2 (Int.le_refl _) rp1 rp4 (by rw [k11, e11]; omega) rfl (by rw [k19, k11, e11]; omega) (by rw [k15]; omega) hD) ?_
          rintro zz (⟨S3, r3, rfl, A3, C3, B3, Q3, j3, el3, P3, ND3, T, i, I, g1, g2, g3, g4, g5, g6, g7, g8⟩ | ⟨X, rfl, g⟩)
          · have a0 : A3 0 = A 0 := g3.1 0 (by omega)
            have z11 : qd.1.1 11 = M.1 11 + 1 := (g3.2.2.1.2.1).trans k11
            have z19 : qd.1.1 19 = M.1 19 := (g3.2.2.1.2.2.2.2.2).trans k19
            have zq2 : Q3 2 = M.1 11 + 1 := g3.2.1.2.2.1
            have em : M.1 11 + 1 - 1 = M.1 11 := by
              refine i_eq.mpr ?_
              rw [i_subS (by rw [e11, il_1]; omega), e11, il_1]
              omega
            have ev5 := evS_op (evS_tr evb g3)
            have v5 := PV_pa (i := 2) (v := Q 2) g1 (by omega)
            have w5 := RM_op g2 (v := M.1 11) (by omega) (by omega) (by rw [z19]; omega)
            rw [show q1 Q3 2 (M.1 11) = q1 Q3 2 (Q 2) by rw [op0]] at w5
            have eE : eM B N = eM B M := (eM_ev evb : eM B N = eM B (md_i M 11 (M.1 11 + 1))).trans rfl
            show dc_wp ((hg_gi S3 (some (A 0)) 4 6).bind _) _
            rw [← a0]
            refine wq_gi (x := Q3 2) g1.pa rfl ?_
            refine wq_pf g1.pa (show 6 < 7 by decide) ?_
            rw [zq2, em, ← op0]
            refine ⟨_, rfl, Or.inl ⟨_, r3, rfl, ?_⟩⟩
            show stOc G t0' H0 K1 K2 n f (100 * (2 * (D + 1 + 1 + 1)) + (26 - (Q 2).toInt).toNat) A C B Q P ND M u w (M.1 7).toInt _ r3 (md_i qd.1 11 (qd.1.1 11 - 1)) qd.2 (qd.1.1 29)
            rw [z11, em]
            have hV0 : ∀ y', sV B N y' → sV B (md_i M 11 (M.1 11 + 1)) y' := sV_adv ra2
            have hV : ∀ y', sV B N y' → sV B M y' := hV0
            have fbx : FB M Q B (md_i qd.1 11 (M.1 11)) (q1 Q3 2 (Q 2)) B3 (100 * (2 * (D + 1 + 1 + 1)) + (26 - (Q 2).toInt).toNat) T := g5.2.1.mv0 hV rfl (by rw [k15]; exact Int.le_refl _) (fun _ _ => ⟨rfl, rfl, rfl⟩) rfl (Int.le_refl _) (by rw [op0, k11, e11]; omega)
            have gM : GK 0 (Q3 11).toInt M N := gk_0 (ma 12 (by omega)) (ma 27 (by omega))
            have gE : GK 0 (Q3 11).toInt qd.1 (md_i qd.1 11 (M.1 11)) := gk_0 rfl rfl
            have gkx : GK (tsz T : Int) (Q3 11).toInt M (md_i qd.1 11 (M.1 11)) := gk_tr (gk_tr gM g5.2.2 (Int.le_refl _) (by omega) rfl) gE (Int.le_refl _) (by omega) (by omega)
            rw [eE, k20, k13, k14] at g6
            rw [k20] at g7
            exact ⟨A3, C3, B3, _, j3, el3, P3, ND3, T, i, I, v5, w5, ev5, g4, ⟨fun z => repR_ext (M := qd.1) (M' := md_i qd.1 11 (M.1 11)) (Int.le_refl _) (fun _ _ _ => rfl) T _ (g5.1 z), fbx, gkx⟩, g6, g7, g8⟩
          · exact ⟨_, rfl, Or.inr ⟨X, rfl, g.mono (fun φ hφ hs => stk_i (by decide) (by decide) (by decide) hs)⟩⟩
        · exact ⟨_, rfl, Or.inr ⟨X, rfl, g.mono sk⟩⟩
      · refine ⟨_, rfl, Or.inr ⟨X, rfl, g.mono (fun φ hφ hs => ?_)⟩⟩
        have hc := ph_ne (k := 5) (l := M.1 8) (by decide) (by omega)
        have fq := mm_statement_L68_fk hc (mm_P2 e) (mm_P2_sk hc e).1 M1 _ _ _ fa q hq
        rcases hs with hs | hs
        · exact Or.inl (fq.trans (fa.symm.trans hs))
        · exact absurd (fa.symm.trans hs.1) hc
/-- all statements -/
theorem stms_all (hA : BUalg) (hok : lw_ok G sz) (hK : 40 * n + 70 ≤ K1 ∧ 200 * n + 400 ≤ K2) : ∀ d e : Nat, StP G t0' H0 K1 K2 n f d 3 ((hm_P2 d).1) ((mm_P2 e).1) := by
  intro d
  induction d using Nat.strongRecOn with
  | ind d ihd =>
    intro e
    cases e with
    | zero =>
      intro S A C B Q j el P ND M b u w q h r hb rs hd hq
      cases hq
    | succ e =>
      cases d with
      | zero =>
        intro S A C B Q j el P ND M b u w q h r hb rs hd hq
        have := r.2.2.2.2.2.2.2.1
        omega
      | succ d =>
        refine takeBody_t hA hok hK (d := d) (e := e) ?_
        cases e with
        | zero =>
          intro S A C B Q j el P ND M b u w q h r hb rs hd hq
          cases hq
        | succ e =>
          cases d with
          | zero =>
            intro S A C B Q j el P ND M b u w q h r hb rs hd hq
            have := r.2.2.2.2.2.2.2.1
            omega
          | succ d =>
            exact takeRow_t hA hok hK (d := d) (e := e) (takeStatement_t hA hok hK (fun d' hd' e => ihd d' (by omega) e))
end STM
