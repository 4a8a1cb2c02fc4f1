/-! present: one branch -/
section PRS
variable {G : hg_E} {sz t0' : Nat} {H0 : Nat → Option va_E} {K1 K2 n : Nat} {f : Nat → Int32} {S : hg_S} {A C : Nat → Nat} {B : Nat → Nat → Int32} {Q : Nat → Int32} {j : Nat} {el : Nat → Option Nat} {P : Nat → Nat} {ND : Nat → ndT} {M : md_S} {b u w p0 : Int}
/-- nodes of the reference for a branch: one that is missing is made later -/
def GB (s : Int32) (k w : Int) (M N : md_S) : Prop := M.1 12 = 0 → (M.1 27).toInt + k ≤ 1200 → w ≤ 1000 → N.1 12 = 0 ∧ (N.1 27).toInt = (M.1 27).toInt + (if s = -1 then 0 else k) ∧ (s = -1 → k = 1)
/-- what a branch comes to -/
def brO (G : hg_E) (t0' : Nat) (H0 : Nat → Option va_E) (K1 K2 n : Nat) (f : Nat → Int32) (d2 : Nat) (A C : Nat → Nat) (B : Nat → Nat → Int32) (Q : Nat → Int32) (P : Nat → Nat) (ND : Nat → ndT) (M : md_S) (u w : Int) (ln : Int32) (S' : hg_S) (r : Option Nat) (N : md_S) (s c : Int32) : Prop :=
  ∃ A' C' B' Q' j' el' P' ND' T i I, PV G t0' H0 K1 K2 n f S' A' C' B' Q' j' el' P' ND' ∧ RM N C' B' n f Q' j' (N.1 7).toInt (u + 6 * ((N.1 7).toInt - (M.1 7).toInt) + 1) (w + ((N.1 7).toInt - (M.1 7).toInt)) ∧ evS A C B Q P ND M A' C' B' Q' P' ND' N ∧ (r = some (P' i) ∧ i + 1 = (Q' 12).toInt.toNat ∧ repC ND' T i I ∧ cov I (Q 12).toInt.toNat (Q' 12).toInt.toNat) ∧ ((N.1 12 = 0 → (s = -1 ∧ T = Tnot ln) ∨ (¬ s = -1 ∧ repR N T s)) ∧ FB M Q B N Q' B' d2 T ∧ GB s (tsz T : Int) (Q' 11).toInt M N) ∧ BU (eM B M) (M.1 20) (Q 9) (M.1 13) (M.1 14) (M.1 7).toInt T c (N.1 20) (Q' 9) (N.1 13) (N.1 14) (N.1 7).toInt ∧ (N.1 20).toInt ≤ (M.1 20).toInt + ((N.1 7).toInt - (M.1 7).toInt) ∧ RS N B' Q'
theorem br_l (hA : BUalg) (hok : lw_ok G sz) (hK : 40 * n + 70 ≤ K1 ∧ 200 * n + 400 ≤ K2) {d e : Nat} (ih : StP G t0' H0 K1 K2 n f d 3 ((hm_P2 d).1) ((mm_P2 e).1)) (h : PV G t0' H0 K1 K2 n f S A C B Q j el P ND) (r : RM M C B n f Q j b u w) (hb : b ≤ (M.1 7).toInt) (rs : RS M B Q) (hsl : u + 1 ≤ 6 * (M.1 7).toInt) (hd : 5 * (24 - (M.1 11).toInt) + 3 ≤ (d : Int)) {i : Nat} {wd : Int64} (hi : i = 9 ∨ i = 10) (hwd : wd = kw.getD i 0) {ln : Int32} {q10 : md_S × Int32} (e1 : mm_meetsWord M wd = some q10) {N : md_S} {s c : Int32} (hN : (q10.2 = 0 ∧ N = q10.1 ∧ s = -1 ∧ c = 1) ∨ (¬ q10.2 = 0 ∧ ∃ q12, (mm_P2 e).1 q10.1 = some q12 ∧ N = q12.1 ∧ s = q12.2 ∧ c = q12.1.1 29)) {o : Nat} (ho : A 0 = o) {τ : Type} {E : hg_S → Option Nat → Option (τ ⊕ hg_X)} {F : τ ⊕ hg_X → Prop} (kk : ∀ S' r', brO G t0' H0 K1 K2 n f (100 * (2 * d) + (26 - (M.1 11).toInt).toNat) A C B Q P ND M u w ln S' r' N s c → dc_wp (E S' r') F) (kt : ∀ X, thr t0' H0 K1 K2 n (A 0) (A 1) X N → F (.inr X)) : dc_wp ((hg_chk S (some o) 4).bind fun b23 => (hm_PA_skip G S b23 (some (G.2.1 i))).bind (Sum.elim (fun q26 => if q26.2 = 0 then ((hg_gr q26.1 (some o) 4 3).bind fun e27 => (hg_chk q26.1 e27 6).bind fun b28 => (hm_DR_leaf G q26.1 b28 (0 : Int32) ((-1) : Int32) ln).bind fun q31 => E q31.1 q31.2) else ((hg_chk q26.1 (some o) 4).bind fun b32 => ((hm_P2 d).1 G q26.1 b32).bind (Sum.elim (fun q35 => E q35.1 q35.2) (fun z => some (Sum.inr z))))) (fun z => some (Sum.inr z)))) F := by
  subst ho
  have pp := r.2.2.2.2.1.1
  have hn : (n : Int) ≤ 32768 := by have := r.1.1; omega
  have x4 := r.2.1.2.2
  have bn := r.2.2.2.2.2.2.2.2.2.1.2
  have mt := meetsW_i (i := i) r.2.1.2.1 r.2.2.2.1.2 (by omega) hwd e1
  refine wq_chk h.pa ?_
  refine wq_call (skip_l hok h r hK (i := i) (by omega) (M' := q10.1) (by
    rcases mt with ⟨m1, m2, m3⟩ | ⟨m1, m2⟩
    · exact Or.inl ⟨m1, m3⟩
    · exact Or.inr ⟨m1, congrArg Prod.fst m2⟩)) ?_
  rintro zz (⟨ej, S2, rfl, j2, v2, w2, ra2, of2⟩ | ⟨ej, rfl, eM'⟩ | ⟨ej, X, rfl, g⟩)
  · have m2 : q10.2 = 1 := by
      rcases mt with ⟨m1, m2, m3⟩ | ⟨m1, m2⟩
      · exact m2
      · exact absurd ej m1
    rcases hN with ⟨y, -⟩ | ⟨-, q12, e12, rfl, rfl, rfl⟩
    · rw [m2] at y; exact absurd y (by decide)
    · have c8 : (M.1 4).toInt ≤ (q10.1.1 7).toInt := ra2.2.2.2.2.1.1
      have m := fun k (d : ¬ (4 ≤ k ∧ k ≤ 8)) => ra2.1 k (by omega) (by omega) (by omega) (by omega) (by omega)
      have evA : evS A C B Q P ND M A C B (q4 Q (q10.1.1 7) (q10.1.1 4) (q10.1.1 8) 0) P ND q10.1 := evS_adv ra2 pp.2.1
      refine wq_chk v2.pa ?_
      refine wq_call (ih S2 A C B _ j2 el P ND q10.1 _ u w q12 v2 w2 (Int.le_refl _) (RS_adv rs ra2 pp.2.1) (by rw [m 11 (by omega)]; exact hd) e12) ?_
      rintro zz (⟨S3, r3, rfl, A3, C3, B3, Q3, j3, el3, P3, ND3, T, i3, I3, v3, w3, ev3, ⟨er3, ei3, hT3, cv3⟩, ⟨hR3, fb3, gk3⟩, bu3, hser3, hpos3⟩ | ⟨X, rfl, g⟩)
      · have p3 := w3.2.2.2.2.1.1
        have evx := evS_tr evA ev3
        rw [eM_ev evA, m 20 (by omega), m 13 (by omega), m 14 (by omega)] at bu3
        rw [m 20 (by omega)] at hser3
        have r20 : (M.1 20).toInt ≤ 100000 := by have := rs.2.2.1; omega
        have h13' : (q10.1.1 13).toInt < (M.1 7).toInt ∨ q10.1.1 13 = 32768 := by rw [m 13 (by omega)]; exact rs.2.1
        have bu := ((hA (eM B M) (M.1 20) (Q 9) (M.1 13) (M.1 14) (q10.1.1 7).toInt rs.1 (by have := rs.2.1; rcases this with y | y; exact Or.inl (by omega); exact Or.inr y) r20).2.2.2.2.1 T 0 _ _ _ _ _ (M.1 7).toInt _ bu3 (by omega) rs.2.1 (by have := rs.2.2.1; omega)).2.2.1
        have sne : q12.1.1 12 = 0 → ¬ q12.2 = -1 := by
          intro z y
          have k := (repR_lt (hR3 z)).1
          rw [y] at k
          exact absurd k (by decide)
        have gbx : GB q12.2 (tsz T : Int) (Q3 11).toInt M q12.1 := by
          intro z1 z2 z3
          obtain ⟨y1, y2⟩ := gk_tr (k := (tsz T : Int)) (gk_adv (w := (Q3 11).toInt) ra2) gk3 (Int.le_refl _) (by omega) (by omega) z1 z2 z3
          exact ⟨y1, by rw [if_neg (sne y1)]; exact y2, fun z => absurd z (sne y1)⟩
        refine kk S3 r3 ⟨A3, C3, B3, Q3, j3, el3, P3, ND3, T, i3, I3, v3, RM_w (RM_u w3 (by omega) (by omega)) (by omega) (by omega), evx, ⟨er3, ei3, hT3, cv3⟩, ⟨fun z => Or.inr ⟨sne z, hR3 z⟩, fb3.mv evA (evS_rf (A := A3) (C := C3) (P := P3) (ND := ND3)) rfl rfl (by rw [m 11 (by omega)]; exact ⟨Nat.le_refl _, Nat.le_refl _⟩), gbx⟩, bu, by omega, RS_next rs evx bu (by omega) rs.2.1 rs.2.2.1⟩
      · exact ⟨_, rfl, kt X g⟩
  · have m2 : q10 = (M, 0) := by
      rcases mt with ⟨m1, m2, m3⟩ | ⟨m1, m2⟩
      · exact absurd m1 ej
      · exact m2
    subst m2
    rcases hN with ⟨-, eN, rfl, rfl⟩ | ⟨y, -⟩
    · have eN : M = N := eN.symm
      subst eN
      refine wq_gr (x := some (A 5)) h.pa rfl ?_
      refine chkD h rfl ?_
      refine wq_call (lf_t h (RC_of h r hK) rfl (by omega) (sv := -1)) ?_
      rintro ⟨S2, r2⟩ ⟨A2, C2, Q2, el2, P2, ND2, i2, I2, v2, rc2, ev2, m2, er2, il2, T2, cv2⟩
      have q9 : Q2 9 = Q 9 := ev2.2.2.1 9 (by omega) (by omega)
      have al := ((hA (eM B M) (M.1 20) (Q 9) (M.1 13) (M.1 14) (M.1 7).toInt rs.1 rs.2.1 (by have := rs.2.2.1; omega)).1 ln (M.1 7).toInt (Int.le_refl _)).1
      refine kk S2 r2 ⟨A2, C2, B, Q2, j, el2, P2, ND2, Tnot ln, i2, I2, v2, ?_, evS_C ev2, ⟨er2, il2, T2, cv2⟩, ⟨fun z => Or.inl ⟨rfl, rfl⟩, FB_0 FU_not (ev2.2.2.1 11 (by omega) (by omega)), fun z1 _ _ => ⟨z1, by rw [if_pos rfl]; omega, fun _ => rfl⟩⟩, by rw [q9]; exact al, by omega, RS_next rs (evS_C ev2) (c := 1) (T := Tnot ln) (by rw [q9]; exact al) (by omega) rs.2.1 rs.2.2.1⟩
      refine RM_w (RM_C (RM_b r hb) ev2 rc2 ?_ ?_) ?_ ?_
      · omega
      · omega
      · omega
      · omega
    · exact absurd rfl y
  · have m2 : q10.2 = 1 := by
      rcases mt with ⟨m1, m2, m3⟩ | ⟨m1, m2⟩
      · exact m2
      · exact absurd ej m1
    rcases hN with ⟨y, -⟩ | ⟨-, q12, e12, rfl, rfl, rfl⟩
    · rw [m2] at y; exact absurd y (by decide)
    · exact ⟨_, rfl, kt X (g.mono (fun φ hφ hs => (mm_P2_sk hφ e).2.1 q10.1 hs _ e12))⟩
end PRS
