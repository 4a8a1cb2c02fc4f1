/-! 'end': the class has made its nodes, the reference makes them behind it -/
section ENDS
variable {G : hg_E} {sz t0' : Nat} {H0 : Nat → Option va_E} {K1 K2 n : Nat} {f : Nat → Int32} {S S' S2 : hg_S} {A C A1 C1 : Nat → Nat} {B B1 : Nat → Nat → Int32} {Q Q1 : Nat → Int32} {j j1 lo : Nat} {el : Nat → Option Nat} {P P1 : Nat → Nat} {ND ND1 : Nat → ndT} {M M' N N2 : md_S} {b b1 u w u1 w1 p0 m : Int} {T : tT} {r' : Option Nat}
def trE (G : hg_E) (t0' : Nat) (H0 : Nat → Option va_E) (K1 K2 n : Nat) (f : Nat → Int32) (A1 C1 : Nat → Nat) (B1 : Nat → Nat → Int32) (Q1 : Nat → Int32) (P1 : Nat → Nat) (ND1 : Nat → ndT) (N : md_S) (T : tT) (lo : Nat) (um w1 : Int) (S3 : hg_S) (r' : Option Nat) (N2 : md_S) : Prop :=
  ∃ A' C' Q' el' P' ND' i I j', PV G t0' H0 K1 K2 n f S3 A' C' B1 Q' j' el' P' ND' ∧ RM N2 C' B1 n f Q' j' (N2.1 7).toInt um w1 ∧ evS A1 C1 B1 Q1 P1 ND1 N A' C' B1 Q' P' ND' N2 ∧ (Q' 9 = Q1 9 ∧ Q' 11 = Q1 11) ∧ (r' = some (P' i) ∧ i + 1 = (Q' 12).toInt.toNat ∧ repC ND' T i I ∧ cov I lo (Q' 12).toInt.toNat) ∧ radv N N2
theorem end_l (hok : lw_ok G sz) (hK : 40 * n + 70 ≤ K1 ∧ 200 * n + 400 ≤ K2) (t : trO G t0' H0 K1 K2 n f B1 j1 A1 C1 Q1 P1 ND1 T lo m S2 r') (r1 : RM N C1 B1 n f Q1 j1 b1 u1 w1) (hb1 : b1 ≤ (N.1 7).toInt) (hm : u1 + m ≤ 6 * (N.1 7).toInt) (hm0 : 0 ≤ m) (he : mm_mustWord N 6647396 = some N2) {o : Nat} (ho : A1 0 = o) : dc_wp ((hg_chk S2 (some o) 4).bind fun b5 => (hm_PA_closedBy G S2 b5 (some (G.2.1 11)) r').bind (Sum.elim (fun q8 => some (.inl (q8.1, q8.2))) (fun z => some (Sum.inr z)))) (fun z => (∃ S3, z = .inl (S3, r') ∧ trE G t0' H0 K1 K2 n f A1 C1 B1 Q1 P1 ND1 N T lo (u1 + m) w1 S3 r' N2) ∨ ∃ X : hg_X, z = .inr X ∧ thr t0' H0 K1 K2 n (A1 0) (A1 1) X N2) := by
  obtain ⟨A', C', Q', el', P', ND', i, I, g1, g2, g3, g4, g5, g6, g7, g8⟩ := t
  subst ho
  have a0 : A' 0 = A1 0 := g3.1 0 (by omega)
  have a1 : A' 1 = A1 1 := g3.1 1 (by omega)
  have bn := r1.2.2.2.2.2.2.2.2.2.1.2.1
  have pp := r1.2.2.2.2.1.1
  have r2 := RM_C (RM_b r1 hb1) g3 g2 (u' := u1 + m) (by omega) hm
  have mt := must_i (i := 11) r2.2.1.2.1 r2.2.2.2.1.2 (by decide) (by decide) he
  rw [← a0, ← a1]
  refine wq_chk g1.pa ?_
  delta hm_PA_closedBy
  refine wq_call (P := fun z => (∃ S', z = .inl (S', r') ∧ okA G t0' H0 K1 K2 n f S2 A' C' B1 Q' el' P' ND' N (u1 + m) w1 S' N2) ∨ ∃ X : hg_X, z = .inr X ∧ thr t0' H0 K1 K2 n (A' 0) (A' 1) X N2) ?_ ?_
  · refine wq_chk g1.pa ?_
    refine wq_call (take_l hok g1 r2 hK (i := 11) (by decide) mt) ?_
    rintro zz (⟨ej3, S4, rfl, g⟩ | ⟨X, rfl, g⟩)
    · exact ⟨_, rfl, Or.inl ⟨S4, rfl, g⟩⟩
    · exact ⟨_, rfl, Or.inr ⟨X, rfl, g⟩⟩
  · rintro zz (⟨S4, rfl, j4, v4, w4, ra4, of4⟩ | ⟨X, rfl, g⟩)
    · refine ⟨_, rfl, Or.inl ⟨S4, rfl, A', C', _, el', P', ND', i, I, j4, v4, w4, evS_tr (evS_C g3) (evS_adv ra4 pp.2.1), ⟨g3.2.2.1 9 (by omega) (by omega), g3.2.2.1 11 (by omega) (by omega)⟩, ⟨g5, g6, g7, g8⟩, ra4⟩⟩
    · exact ⟨_, rfl, Or.inr ⟨X, rfl, g⟩⟩
theorem fin_e {d2 : Nat} {um : Int} {s c : Int32} {S3 : hg_S} (ev1 : evS A C B Q P ND M A1 C1 B1 Q1 P1 ND1 N) (t : trE G t0' H0 K1 K2 n f A1 C1 B1 Q1 P1 ND1 N T lo um w1 S3 r' N2) (hlo : lo = (Q 12).toInt.toNat) (evr : ∀ (A C : Nat → Nat) (B : Nat → Nat → Int32) (Q : Nat → Int32) (P : Nat → Nat) (ND : Nat → ndT), evS A C B Q P ND N2 A C B Q P ND M') (rmr : ∀ (C : Nat → Nat) (B : Nat → Nat → Int32) (Q : Nat → Int32) (j : Nat) (b u w : Int), RM N2 C B n f Q j b u w → RM M' C B n f Q j b u w) (f7 : M'.1 7 = N2.1 7) (hR : M'.1 12 = 0 → repR M' T s) (hm : um ≤ u + 6 * ((M'.1 7).toInt - p0)) (hw1 : w1 ≤ w + ((M'.1 7).toInt - p0)) (hu : u ≤ 6 * p0) (hw' : w ≤ p0) (bu : BU (eM B M) (M.1 20) (Q 9) (M.1 13) (M.1 14) p0 T c (M'.1 20) (Q1 9) (M'.1 13) (M'.1 14) (M'.1 7).toInt) (hs : (M'.1 20).toInt ≤ (M.1 20).toInt + ((M'.1 7).toInt - p0)) (hpos : p0 < (M'.1 7).toInt) (fb : FB M Q B M' Q1 B1 d2 T) (gk : GK (tsz T : Int) (Q1 11).toInt M M') : stOc G t0' H0 K1 K2 n f d2 A C B Q P ND M u w p0 S3 r' M' s c := by
  obtain ⟨A', C', Q', el', P', ND', i, I, j', g1, g2, g3, g4, g5, g6⟩ := t
  subst hlo
  refine ⟨A', C', B1, Q', j', el', P', ND', T, i, I, g1, ?_, evS_tr ev1 (evS_tr g3 (evr _ _ _ _ _ _)), g5, ⟨hR, fb.q g4.2, by rw [g4.2]; exact gk⟩, by rw [g4.1]; exact bu, hs, hpos⟩
  have k := rmr _ _ _ _ _ _ _ g2
  rw [← f7] at k
  exact RM_w (RM_u k hm (by omega)) hw1 (by omega)
/-- 'when' and a test -/
theorem when_l (hok : lw_ok G sz) (hK : 40 * n + 70 ≤ K1 ∧ 200 * n + 400 ≤ K2) (h : PV G t0' H0 K1 K2 n f S A C B Q j el P ND) (r : RM M C B n f Q j b u w) (hb : b ≤ (M.1 7).toInt) {i : Nat} {wd : Int64} (hi : i < 26) (hwd : wd = kw.getD i 0) (hl : 1 ≤ tln i) {N : md_S} {q : md_S × Int32} (h1 : mm_mustWord M wd = some N) (h2 : (if (0 : Int32) < N.1 10 then some (N, (0 : Int32)) else mm_asked_r N) = some q) {o : Nat} (ho : A 0 = o) {τ : Type} {E : hg_S → Int32 → Option (τ ⊕ hg_X)} {F : τ ⊕ hg_X → Prop} (kk : ∀ S' x, tsO G t0' H0 K1 K2 n f A C B Q el P ND M u w S' x q → dc_wp (E S' x) F) (kt : ∀ X, thr t0' H0 K1 K2 n (A 0) (A 1) X q.1 → F (.inr X)) : dc_wp ((hg_chk S (some o) 4).bind fun b5 => (hm_PA_take G S b5 (some (G.2.1 i))).bind (Sum.elim (fun q8 => (hg_chk q8 (some o) 4).bind fun b9 => (hm_PA_takeEither_r G q8 b9).bind (Sum.elim (fun q12 => E q12.1 q12.2) (fun z => some (Sum.inr z)))) (fun z => some (Sum.inr z)))) F := by
  subst ho
  have pp := r.2.2.2.2.1.1
  have x4 := r.2.1.2.2
  have hn : (n : Int) ≤ 32768 := by have := r.1.1; omega
  have pl := r.2.2.2.2.1.2
  have mt := must_i (i := i) r.2.1.2.1 r.2.2.2.1.2 hi hwd h1
  refine wq_chk h.pa ?_
  refine wq_call (take_l hok h r hK (i := i) (by omega) mt) ?_
  rintro zz (⟨ej, S2, rfl, j2, v2, w2, ra2, of2⟩ | ⟨X, rfl, g⟩)
  · have c8 : (M.1 4).toInt ≤ (N.1 7).toInt := ra2.2.2.2.2.1.1
    rw [ej] at x4
    have f0 : N.1 10 = 0 := w2.2.2.2.1.2
    rw [f0, if_neg lt00] at h2
    refine wq_chk v2.pa ?_
    refine wq_call (either_l hok hK v2 w2 (Int.le_refl _) h2) ?_
    rintro zz (⟨S3, x3, rfl, A3, C3, B3, Q3, j3, v3, w3, ev3, ea3, ex3, ext3, eq3, ep3⟩ | ⟨X, rfl, g⟩)
    · refine kk S3 x3 ⟨A3, C3, B3, Q3, j3, v3, RM_w w3 (by omega) ?_, evT_tr (evT_adv ra2 pp.2.1) ev3, ea3, ex3, ext3, eq3, by omega⟩
      have := r.2.2.2.2.2.2.2.2.2.1.2.2
      omega
    · exact ⟨_, rfl, kt X g⟩
  · refine ⟨_, rfl, kt X (g.mono (fun φ hφ hs => ?_))⟩
    rcases iv_if h2 with ⟨-, y⟩ | ⟨-, y⟩
    · have y := (Option.some.inj y).symm
      subst y
      exact hs
    · exact mm_asked_r_sk hφ N hs _ y
end ENDS
