/-! local signals -/
noncomputable def Tl1 (ln x : Int32) (T : tT) : tT := t1 (10, ln, x, -1, -1, -1) T
noncomputable def Tlc (ln x : Int32) (m : Nat) (T : tT) : tT := Nat.rec (motive := fun _ => Int32 → tT → tT) (fun _ T => T) (fun _ g x T => g (x + (-1)) (Tl1 ln x T)) m x T
theorem Tlc_s {ln x : Int32} {m : Nat} {T : tT} : Tlc ln x (m + 1) T = Tlc ln (x + (-1)) m (t1 (10, ln, x, -1, -1, -1) T) := by
  delta Tlc
  exact rfl
theorem tsz_lc {ln : Int32} : ∀ (m : Nat) (x : Int32) (T : tT), tsz (Tlc ln x m T) = m + tsz T
  | 0, x, T => by
    show tsz T = 0 + tsz T
    omega
  | m + 1, x, T => by
    rw [Tlc_s, tsz_lc m]
    show m + (1 + tsz T) = m + 1 + tsz T
    omega
/-- facts under local signals -/
theorem FU_lc {θ : (Int32 → Prop) → Int32 → Prop} {xx : Nat → Int32} {V : Int32 → Prop} {c : Nat} {t st : Int} {ln : Int32} (hθ : ∀ V V' e, (∀ y, V y → V' y) → θ V e → θ V' e) : ∀ (m : Nat) (x : Int32) (T : tT) (L : List Int32), x.toInt = st + (m : Int) - 1 → 0 ≤ st → FU θ xx (fun y => V y ∨ (st ≤ y.toInt ∧ y.toInt < st + (m : Int))) T c t L → ∃ L', FU θ xx V (Tlc ln x m T) c t L' ∧ (∀ y, y ∈ L' → y ∈ L ∨ (st ≤ y.toInt ∧ y.toInt < st + (m : Int))) ∧ (L.Nodup → (∀ y, y ∈ L → st + (m : Int) ≤ y.toInt) → L'.Nodup)
  | 0, x, T, L, hx, hs, h => by
    refine ⟨L, ⟨okT_V hθ T _ _ (fun y hy => ?_) h.1, h.2⟩, fun y hy => Or.inl hy, fun hn _ => hn⟩
    rcases hy with hy | hy
    · exact hy
    · omega
  | m + 1, x, T, L, hx, hs, h => by
    have h1 : FU θ xx (fun y => (V y ∨ (st ≤ y.toInt ∧ y.toInt < st + (m : Int))) ∨ y = x) T c t L := by
      refine ⟨okT_V hθ T _ _ (fun y hy => ?_) h.1, h.2⟩
      rcases hy with hy | ⟨y1, y2⟩
      · exact Or.inl (Or.inl hy)
      · by_cases e : y = x
        · exact Or.inr e
        · have ne : ¬ y.toInt = x.toInt := fun z => e (i_eq.mpr z)
          exact Or.inl (Or.inr ⟨y1, by omega⟩)
    have xd : (x + (-1)).toInt = st + (m : Int) - 1 := (i_dec (by omega)).trans (by omega)
    obtain ⟨L', k1, k2, k3⟩ := FU_lc hθ m (x + (-1)) (t1 (10, ln, x, -1, -1, -1) T) (x :: L) xd hs (FU_lcl h1)
    rw [Tlc_s]
    refine ⟨L', k1, fun y hy => ?_, fun hn hL => k3 (List.nodup_cons.mpr ⟨fun z => ?_, hn⟩) (fun y hy => ?_)⟩
    · rcases k2 y hy with z | z
      · rcases List.mem_cons.mp z with z | z
        · right
          rw [z]
          omega
        · exact Or.inl z
      · right
        omega
    · have := hL x z
      omega
    · rcases List.mem_cons.mp hy with z | z
      · rw [z]
        omega
      · have := hL y z
        omega
theorem BU_lc (hA : BUalg) {E : List (Int32 × Int32)} {s tm a l c s1 tm1 a1 l1 ln : Int32} {p0 p1 : Int} (he : EOK E s tm) (h13 : a.toInt < p0 ∨ a = 32768) (hs : s.toInt ≤ 100000) (hs1 : s1.toInt ≤ 99000) (m : Nat) : ∀ (x : Int32) (T : tT), BU E s tm a l p0 T c s1 tm1 a1 l1 p1 → BU E s tm a l p0 (Tlc ln x m T) c s1 tm1 a1 l1 p1 := by
  induction m with
  | zero => exact fun _ _ h => h
  | succ m ihm =>
    intro x T h
    rw [Tlc_s]
    exact ihm (x + (-1)) _ (((hA E s tm a l p0 he h13 hs).2.2.2.2.1 T ln c s1 tm1 a1 l1 p0 p1 h (Int.le_refl _) h13 hs1).2.1 x)
section LOC
variable {G : hg_E} {sz t0' : Nat} {H0 : Nat → Option va_E} {K1 K2 n : Nat} {f : Nat → Int32} {S : hg_S} {A C : Nat → Nat} {B : Nat → Nat → Int32} {Q : Nat → Int32} {j : Nat} {el : Nat → Option Nat} {P : Nat → Nat} {ND : Nat → ndT} {M : md_S} {b u w p0 : Int}
theorem RS_N {A1 C1 : Nat → Nat} {B1 : Nat → Nat → Int32} {Q1 : Nat → Int32} {N : md_S} (rs : RS M B Q) (ev : evN A C B Q M A1 C1 B1 Q1 N) (h7 : (M.1 7).toInt ≤ (N.1 7).toInt) : RS N B1 Q1 := by
  obtain ⟨n1, n2, n3, n4, n5, n6, n7, n8⟩ := ev
  obtain ⟨z1, z2, z3, z4, z5⟩ := rs
  have ee : eM B1 N = eM B M := by
    show envP (B1 5) (N.2.1 26) (N.1 19).toInt.toNat = _
    rw [n3 5 (by omega), n6 26 (by omega), n5 19 (by omega) (by omega) (by omega)]
  refine ⟨?_, ?_, ?_, ?_, ?_⟩
  · rw [ee, n5 20 (by omega) (by omega) (by omega), n4 9 (by omega)]; exact z1
  · rw [n5 13 (by omega) (by omega) (by omega)]
    exact z2.imp (fun y => by omega) id
  · rw [n5 20 (by omega) (by omega) (by omega)]; omega
  · rw [n5 16 (by omega) (by omega) (by omega), n4 0 (by omega)]; exact z4
  · rw [n5 16 (by omega) (by omega) (by omega)]; exact z5
theorem eM_N {A1 C1 : Nat → Nat} {B1 : Nat → Nat → Int32} {Q1 : Nat → Int32} {N : md_S} (ev : evN A C B Q M A1 C1 B1 Q1 N) : eM B1 N = eM B M := by
  obtain ⟨n1, n2, n3, n4, n5, n6, n7, n8⟩ := ev
  show envP (B1 5) (N.2.1 26) (N.1 19).toInt.toNat = _
  rw [n3 5 (by omega), n6 26 (by omega), n5 19 (by omega) (by omega) (by omega)]
theorem evS_lb {A1 C1 A' C' P' : Nat → Nat} {B1 B' : Nat → Nat → Int32} {Q1 Q' : Nat → Int32} {ND' : Nat → ndT} {M1 M' : md_S} (hN : evN A C B Q M A1 C1 B1 Q1 M1) (hm : (M.1 7).toInt ≤ (M1.1 7).toInt) (h : evS A1 C1 B1 Q1 P ND M1 A' C' B' Q' P' ND' M') : evS A C B Q P ND M A' C' B' (q1 Q' 8 (Q 8)) P' ND' (md_i M' 18 (M.1 18)) := by
  obtain ⟨n1, n2, n3, n4, n5, n6, n7, n8, n9, n10⟩ := hN
  obtain ⟨h1, ⟨h2, h3, h4, h5, h6⟩, ⟨h7, h8, h9, h10, h11, h12⟩, ⟨h13, h13'⟩, ⟨h14, h14'⟩, h17, h18, h19, h20, h21⟩ := h
  have m := fun k (d : ¬ (4 ≤ k ∧ k ≤ 8)) (e : ¬ k = 15) (g : ¬ k = 18) => n5 k d e g
  refine ⟨fun k d => (h1 k d).trans (n1 k (by omega)), ⟨h2.trans (n4 0 (by omega)), h3.trans (n4 1 (by omega)), h4.trans (n4 2 (by omega)), rfl, h6.trans (n4 10 (by omega))⟩, ⟨h7.trans (m 2 (by omega) (by omega) (by omega)), h8.trans (m 11 (by omega) (by omega) (by omega)), h9.trans (m 16 (by omega) (by omega) (by omega)), h10.trans (m 17 (by omega) (by omega) (by omega)), rfl, h12.trans (m 19 (by omega) (by omega) (by omega))⟩, ⟨?_, fun i hi => h13' i (by rw [n4 12 (by omega)]; exact hi)⟩, ⟨?_, fun k hk => ?_⟩, fun k hk => ?_, fun z => ?_, Int.le_trans hm h19, fun k hk => (h20 k (by omega)).trans (n9 k hk), Int.le_trans n8 h21⟩
  · show (Q 12).toInt ≤ (Q' 12).toInt
    rw [← n4 12 (by omega)]; exact h13
  · show (Q 11).toInt ≤ (Q' 11).toInt
    rw [← n4 11 (by omega)]; exact h14
  · have y := h14' k (by rw [n4 11 (by omega)]; exact hk)
    rw [n3 6 (by omega), n3 7 (by omega), n3 8 (by omega), n3 9 (by omega)] at y
    exact y
  · have y := h17 k (by rw [m 19 (by omega) (by omega) (by omega)]; exact hk)
    rw [n3 5 (by omega), n6 26 (by omega)] at y
    exact y
  · obtain ⟨y1, y2, y3⟩ := h18 z
    rw [m 12 (by omega) (by omega) (by omega)] at y1
    rw [m 27 (by omega) (by omega) (by omega)] at y2 y3
    exact ⟨y1, y2, fun k i k1 k2 hi => (y3 k i k1 k2 hi).trans (by rw [n6 k (by omega)])⟩
/-- the class's nodes for them -/
theorem lcl_c (h : PV G t0' H0 K1 K2 n f S A C B Q j el P ND) (rc : RC n K1 K2 C Q) {TT : hm_T2} {T : tT} {i lo : Nat} {I : List Nat} (hT : repC ND T i I) (cv : cov I lo (Q 12).toInt.toNat) (hlo : lo ≤ (Q 12).toInt.toNat) (hi : i + 1 = (Q 12).toInt.toNat) {ln st x6 : Int32} {m : Nat} (hx : x6.toInt = st.toInt + m - 1) (hs : 0 ≤ st.toInt) (hr : (Q 12).toInt + m ≤ 6 * (n : Int)) {o : Nat} (ho : A 0 = o) : dc_wp (hm_PA_takeLocals_L57 TT G S o ln st (some (P i)) x6) (fun z => ∃ S' r', z = .inl (S', r') ∧ trO G t0' H0 K1 K2 n f B j A C Q P ND (Tlc ln x6 m T) lo (m : Int) S' r') := by
  subst ho
  delta hm_PA_takeLocals_L57
  refine wq_call (P := fun (z : hg_S × Option Nat) => trO G t0' H0 K1 K2 n f B j A C Q P ND (Tlc ln x6 m T) lo (m : Int) z.1 z.2) ?_ (fun z hz => ⟨_, rfl, z.1, z.2, rfl, hz⟩)
  refine dc_itK (fun k (x : hg_S × Option Nat × Int32) => ∃ T', (trO G t0' H0 K1 K2 n f B j A C Q P ND T' lo ((m : Int) - (k : Int)) x.1 x.2.1 ∧ k ≤ m) ∧ x.2.2.toInt = st.toInt + (k : Int) - 1 ∧ Tlc ln x.2.2 k T' = Tlc ln x6 m T) ?_ m (S, some (P i), x6) ⟨T, ⟨⟨A, C, Q, el, P, ND, i, I, h, rc, evC_rf, by omega, rfl, hi, hT, cv⟩, Nat.le_refl _⟩, hx, rfl⟩
  rintro k ⟨Sx, rx, x⟩ ⟨T', ⟨⟨A', C', Q', el', P', ND', i', I', g1, g2, g3, g4, g5, g6, g7, g8⟩, hk⟩, e1, e2⟩
  have e1 : x.toInt = st.toInt + (k : Int) - 1 := e1
  show dc_wp (hm_PA_takeLocals_b57 TT G Sx (A 0) ln st rx x) _
  delta hm_PA_takeLocals_b57
  refine wq_if (fun d1 => ?_) (fun d1 => ?_)
  · have d2 := i_lt.mp d1
    have k0 : k = 0 := by omega
    subst k0
    have e2 : T' = Tlc ln x6 m T := e2
    rw [e2] at g7
    exact ⟨_, rfl, A', C', Q', el', P', ND', i', I', g1, g2, g3, by omega, g5, g6, g7, g8⟩
  · have d2 : ¬ x.toInt < st.toInt := fun z => d1 (i_lt.mpr z)
    obtain ⟨t, rfl⟩ : ∃ t, k = t + 1 := ⟨k - 1, by omega⟩
    have a0 : A' 0 = A 0 := g3.1 0 (by omega)
    have xd : (x + (-1)).toInt = st.toInt + (t : Int) - 1 := (i_dec (by omega)).trans (by omega)
    rw [← a0]
    refine wq_gr (x := some (A' 5)) g1.pa rfl ?_
    refine chkD g1 rfl ?_
    refine js1_t g1 g2 rfl (by clear xd; omega) g7 g8 (by clear xd; omega) g5 (k := 10) (l := ln) (y1 := x) (y2 := -1) (y3 := -1) (sv := -1) (fl := 4) (y := x) (by decide) (fun _ => rfl) (E := fun S' r' => some (Sum.inl (S', r', x + (-1)))) ?_
    rintro S2 r2 ⟨A2, C2, Q2, el2, P2, ND2, i2, I2, f1, f2, f3, f4, f5, f6, f7, f8⟩
    refine ⟨_, rfl, t, Nat.lt_succ_self t, t1 (10, ln, x, -1, -1, -1) T', ⟨⟨A2, C2, Q2, el2, P2, ND2, i2, I2, f1, f2, evC_tr g3 f3, by clear xd; omega, f5, f6, f7, f8⟩, by clear xd; omega⟩, xd, Tlc_s.symm.trans e2⟩
/-- the reference's -/
theorem lcl_r {TT : mm_T2} {N : md_S} {ln st x5 x6 : Int32} {q : md_S × Int32} {T : tT} {m : Nat} (hf : N.1 10 = 0) (hx : x6.toInt = st.toInt + m - 1) (hs : 0 ≤ st.toInt) (hT : N.1 12 = 0 → repR N T x5) (hq : mm_locals_L63 TT N ln st x5 x6 = some q) : evR N q.1 ∧ (q.1.1 12 = 0 → repR q.1 (Tlc ln x6 m T) q.2) := by
  have main : dc_pw (mm_locals_L63 TT N ln st x5 x6) (fun q => evR N q.1 ∧ (q.1.1 12 = 0 → repR q.1 (Tlc ln x6 m T) q.2)) := by
    delta mm_locals_L63
    refine pw_loop (fun (x : md_S × Int32 × Int32) => ∃ (k : Nat) (T' : tT), x.1.1 10 = 0 ∧ x.2.2.toInt = st.toInt + (k : Int) - 1 ∧ evR N x.1 ∧ (x.1.1 12 = 0 → repR x.1 T' x.2.1) ∧ Tlc ln x.2.2 k T' = Tlc ln x6 m T) (fun (z : md_S × Int32) => evR N z.1 ∧ (z.1.1 12 = 0 → repR z.1 (Tlc ln x6 m T) z.2)) ⟨m, T, hf, hx, evR_rf, hT, rfl⟩ ?_ ?_
    · rintro ⟨Sx, y5, x⟩ ⟨k, T', h1, h2, h3, h4, h5⟩ q hq
      have h1 : Sx.1 10 = 0 := h1
      have h2 : x.toInt = st.toInt + (k : Int) - 1 := h2
      have hq : mm_locals_b63 TT Sx ln st y5 x = some q := hq
      delta mm_locals_b63 at hq
      rcases iv_if hq with ⟨d1, hq⟩ | ⟨d1, hq⟩
      · have d2 := i_lt.mp d1
        have k0 : k = 0 := by omega
        subst k0
        have h5 : T' = Tlc ln x6 m T := h5
        rw [h5] at h4
        have hq := (Option.some.inj hq).symm
        subst hq
        exact ⟨h3, h4⟩
      · have d2 : ¬ x.toInt < st.toInt := fun z => d1 (i_lt.mpr z)
        obtain ⟨t, rfl⟩ : ∃ t, k = t + 1 := ⟨k - 1, by omega⟩
        rw [if_pos h1] at hq
        obtain ⟨q1', e1, hq⟩ := iv_bind hq
        have hq := (Option.some.inj hq).symm
        subst hq
        obtain ⟨a, b⟩ := nd1_r (k := 10) (u := x) (m := -1) (sv := -1) h4 rfl e1
        exact ⟨t, t1 (10, ln, x, -1, -1, -1) T', (a.1 10 (by omega) (by omega)).trans h1, (i_dec (by omega)).trans (by omega), evR_tr h3 a, b, Tlc_s.symm.trans h5⟩
    · rintro ⟨Sz, z0⟩ hz q hq
      have hq := (Option.some.inj hq).symm
      subst hq
      exact hz
  exact main q hq
theorem gk_lcl {TT : mm_T2} {N : md_S} {ln st x5 x6 : Int32} {q : md_S × Int32} {m : Nat} {wi : Int} (hf : N.1 10 = 0) (hx : x6.toInt = st.toInt + m - 1) (hs : 0 ≤ st.toInt) (hq : mm_locals_L63 TT N ln st x5 x6 = some q) : GK (m : Int) wi N q.1 := by
  have main : dc_pw (mm_locals_L63 TT N ln st x5 x6) (fun q => GK (m : Int) wi N q.1) := by
    delta mm_locals_L63
    refine pw_loop (fun (x : md_S × Int32 × Int32) => ∃ (k : Nat), k ≤ m ∧ x.1.1 10 = 0 ∧ x.2.2.toInt = st.toInt + (k : Int) - 1 ∧ GK ((m : Int) - (k : Int)) wi N x.1) (fun (z : md_S × Int32) => GK (m : Int) wi N z.1) ⟨m, Nat.le_refl _, hf, hx, by rw [Int.sub_self]; exact gk_0 rfl rfl⟩ ?_ ?_
    · rintro ⟨Sx, y5, x⟩ ⟨k, hk, h1, h2, h3⟩ q hq
      have h1 : Sx.1 10 = 0 := h1
      have h2 : x.toInt = st.toInt + (k : Int) - 1 := h2
      have h3 : GK ((m : Int) - (k : Int)) wi N Sx := h3
      have hq : mm_locals_b63 TT Sx ln st y5 x = some q := hq
      delta mm_locals_b63 at hq
      rcases iv_if hq with ⟨d1, hq⟩ | ⟨d1, hq⟩
      · have d2 := i_lt.mp d1
        have k0 : k = 0 := by omega
        subst k0
        have hq := (Option.some.inj hq).symm
        subst hq
        have h3 : GK ((m : Int) - ((0 : Nat) : Int)) wi N Sx := h3
        rw [show (m : Int) - ((0 : Nat) : Int) = (m : Int) by omega] at h3
        exact h3
      · have d2 : ¬ x.toInt < st.toInt := fun z => d1 (i_lt.mpr z)
        obtain ⟨t, rfl⟩ : ∃ t, k = t + 1 := ⟨k - 1, by omega⟩
        rw [if_pos h1] at hq
        obtain ⟨q1', e1, hq⟩ := iv_bind hq
        have hq := (Option.some.inj hq).symm
        subst hq
        have f10 : q1'.1.1 10 = Sx.1 10 := (node_r e1).1.1 10 (by omega) (by omega)
        exact ⟨t, by omega, f10.trans h1, (i_dec (by omega)).trans (by omega), gk_tr h3 (gk_node e1) (Int.le_refl _) (by omega) (by omega)⟩
    · rintro ⟨Sz, z0⟩ hz q hq
      have hq := (Option.some.inj hq).symm
      subst hq
      exact hz
  exact main q hq
set_option maxHeartbeats 2000000 in
theorem locals_c (hA : BUalg) (hok : lw_ok G sz) (hK : 40 * n + 70 ≤ K1 ∧ 200 * n + 400 ≤ K2) {d e : Nat} (ih : StP G t0' H0 K1 K2 n f d 3 ((hm_P2 d).1) ((mm_P2 e).1)) (h : PV G t0' H0 K1 K2 n f S A C B Q j el P ND) (r : RM M C B n f Q j b u w) (hb : b ≤ (M.1 7).toInt) (rp : RP M B Q u w p0 4) (hd : 5 * (24 - (M.1 11).toInt) + 3 ≤ (d : Int)) (h15 : 2 * (M.1 15).toInt ≤ p0 + 1) {ln : Int32} {q : md_S × Int32} (hq : mm_locals (mm_P2 e) M ln = some q) : dc_wp (ceX G (A 0) (hm_PA_takeLocals (hm_P2 d) G S (A 0) ln)) (fun z => (∃ S' r, z = .inl (S', r) ∧ stO G t0' H0 K1 K2 n f (100 * (2 * (d + 1)) + (27 - (M.1 11).toInt).toNat) A C B Q P ND M u w p0 S' r q) ∨ ∃ X : hg_X, z = .inr X ∧ thr t0' H0 K1 K2 n (A 0) (A 1) X q.1) := by
  obtain ⟨rs, ⟨p00, p01⟩, ⟨hu0, hw'⟩, h13, h20⟩ := rp
  have hn : (n : Int) ≤ 32768 := by have := r.1.1; omega
  have pp := r.2.2.2.2.1.1
  have opx := r.2.2.2.2.2.2.2.1
  have nm := r.2.2.2.2.2.1
  have q7 : Q 7 = M.1 15 := nm.1.1
  have q8 : Q 8 = M.1 18 := nm.1.2
  have nb := nm.2.1
  delta mm_locals at hq
  have hq : (mm_list M (M.1 18)).bind (fun q7 => (mm_mustWord q7 26990).bind fun q8 => if (0 : Int32) < (q8.1 10) then (mm_locals_L43 (mm_P2 e) q8 ln (M.1 18) (M.1 15) (q8.1 15) 0) else (((mm_P2 e).1 q8).bind fun q10 => mm_locals_L43 (mm_P2 e) q10.1 ln (M.1 18) (M.1 15) (q8.1 15) q10.2)) = some q := hq
  obtain ⟨N1, eN1, hq⟩ := iv_bind hq
  obtain ⟨N2, eN2, hq⟩ := iv_bind hq
  have sN : ∀ φ, ¬ φ = 0 → stk φ N2 → stk φ q.1 := by
    intro φ hφ hs
    rcases iv_if hq with ⟨-, hq⟩ | ⟨-, hq⟩
    · exact mm_locals_L43_sk hφ (mm_P2 e) (mm_P2_sk hφ e) _ _ _ _ _ _ hs _ hq
    · obtain ⟨q17, e17, hq⟩ := iv_bind hq
      exact mm_locals_L43_sk hφ (mm_P2 e) (mm_P2_sk hφ e) _ _ _ _ _ _ ((mm_P2_sk hφ e).2.1 N2 hs _ e17) _ hq
  refine ce_l ?_
  delta hm_PA_takeLocals
  refine wq_gr (x := some (A 3)) h.pa rfl ?_
  refine wq_gi (x := Q 8) h.sn.1 rfl ?_
  refine wq_gr (x := some (A 3)) h.pa rfl ?_
  refine wq_gi (x := Q 7) h.sn.1 rfl ?_
  refine wq_chk h.pa ?_
  refine wq_call (names_l hok h r hb hK (st := Q 7) (low := M.1 18) (by rw [q7]; exact ⟨⟨nb.1, by omega, Int.le_refl _, by omega⟩, fun k k1 k2 => by omega⟩) (by omega) eN1) ?_
  rintro zz (⟨S1, rfl, A1, C1, B1, Q1, j1, v1, w1, lr1, ev1, ep1, en1, ec1⟩ | ⟨X, rfl, g⟩)
  · have a0 : A1 0 = A 0 := ev1.1 0 (by omega)
    have a1 : A1 1 = A 1 := ev1.1 1 (by omega)
    have p1 := w1.2.2.2.2.1.1
    have nb1 := w1.2.2.2.2.2.1.2.1
    have q71 : Q1 7 = N1.1 15 := w1.2.2.2.2.2.1.1.1
    have lrb := lr1.1
    rw [q7] at lrb
    have mt := must_i (i := 0) w1.2.1.2.1 w1.2.2.2.1.2 (by decide) (by decide) eN2
    show dc_wp ((hg_gr S1 (some (A 0)) 4 1).bind _) _
    rw [← a0]
    refine wq_gr (x := some (A1 3)) v1.pa rfl ?_
    refine wq_gi (x := Q1 7) v1.sn.1 rfl ?_
    refine wq_chk v1.pa ?_
    refine wq_call (take_l hok v1 w1 hK (i := 0) (by decide) mt) ?_
    rintro zz (⟨ej, S3, rfl, j3, v3, w3, ra3, of3⟩ | ⟨X, rfl, g⟩)
    · have c83 : (N1.1 4).toInt ≤ (N2.1 7).toInt := ra3.2.2.2.2.1.1
      have p3' := w3.2.2.2.2.1.1
      have f0 : N2.1 10 = 0 := w3.2.2.2.1.2
      rw [f0, if_neg lt00] at hq
      obtain ⟨q17, e17, hq⟩ := iv_bind hq
      have ma := fun k (d : ¬ (4 ≤ k ∧ k ≤ 8)) (d1 : ¬ k = 15) (d2 : ¬ k = 18) => ev1.2.2.2.2.1 k d d1 d2
      have mb := fun k (d : ¬ (4 ≤ k ∧ k ≤ 8)) => ra3.1 k (by omega) (by omega) (by omega) (by omega) (by omega)
      have k20 : N2.1 20 = M.1 20 := (mb 20 (by omega)).trans (ma 20 (by omega) (by omega) (by omega))
      have k13 : N2.1 13 = M.1 13 := (mb 13 (by omega)).trans (ma 13 (by omega) (by omega) (by omega))
      have k14 : N2.1 14 = M.1 14 := (mb 14 (by omega)).trans (ma 14 (by omega) (by omega) (by omega))
      have k11 : N2.1 11 = M.1 11 := (mb 11 (by omega)).trans (ma 11 (by omega) (by omega) (by omega))
      have k15 : N2.1 15 = N1.1 15 := mb 15 (by omega)
      have k18 : N2.1 18 = N1.1 18 := mb 18 (by omega)
      have k9 : Q1 9 = Q 9 := ev1.2.2.2.1 9 (by omega)
      have k12 : Q1 12 = Q 12 := ev1.2.2.2.1 12 (by omega)
      have rs1 := RS_N rs ev1 (by omega)
      have rs2 := RS_adv (a := N2.1 7) (b := N2.1 4) (c := N2.1 8) (d := 0) rs1 ra3 p1.2.1
      have evb := evS_adv (A := A1) (C := C1) (B := B1) (Q := Q1) (P := P) (ND := ND) (a := N2.1 7) (b := N2.1 4) (c := N2.1 8) (d := 0) ra3 p1.2.1
      have eE2 := (eM_ev evb).trans (eM_N ev1)
      refine wq_chk v3.pa ?_
      refine wq_call (ih S3 _ _ _ _ j3 el P ND N2 _ u w q17 v3 w3 (Int.le_refl _) rs2 (by rw [k11]; exact hd) e17) ?_
      rintro zz (⟨S4, r4, rfl, A4, C4, B4, Q4, j4, el4, P4, ND4, T, i, I, v4, w4, ev4, ⟨er4, ei4, hT, cv⟩, ⟨hR4, fb4, gk4⟩, bu4, hser4, hpos4⟩ | ⟨X, rfl, g⟩)
      · have a04 : A4 0 = A1 0 := ev4.1 0 (by omega)
        have a14 : A4 1 = A1 1 := ev4.1 1 (by omega)
        rw [k20] at hser4
        have p4' := w4.2.2.2.2.1.1
        have pl4 := w4.2.2.2.2.1.2
        have bn4 := w4.2.2.2.2.2.2.2.2.2.1.2
        have bu4 := back hA rs2 (p0 := p0) (by omega) (by rw [k13]; exact h13) (by omega) (by rw [k20]; omega) bu4
        rw [eE2, k20, k13, k14] at bu4
        have bu4 : BU (eM B M) (M.1 20) (Q1 9) (M.1 13) (M.1 14) p0 T (q17.1.1 29) (q17.1.1 20) (Q4 9) (q17.1.1 13) (q17.1.1 14) (q17.1.1 7).toInt := bu4
        rw [k9] at bu4
        have cv : cov I (Q1 12).toInt.toNat (Q4 12).toInt.toNat := cv
        rw [k12] at cv
        have z18 : q17.1.1 18 = N1.1 18 := (ev4.2.2.1.2.2.2.2.1).trans k18
        have sz4 : (Q1 12).toInt ≤ (Q4 12).toInt := ev4.2.2.2.1.1
        rw [k12] at sz4
        have ev5 := evS_lb ev1 (by omega) (evS_tr evb ev4)
        have v5 := PV_ss v4 (v := Q 8)
        have w5 := RM_ss w4 (v := M.1 18) nb.1 (by rw [z18]; omega)
        rw [show q1 Q4 8 (M.1 18) = q1 Q4 8 (Q 8) by rw [q8]] at w5
        have rc5 := RC_of v5 w5 hK
        have c15 : (N1.1 15 - 1).toInt = (N1.1 15).toInt - 1 := by rw [i_subS (by rw [il_1]; omega), il_1]
        obtain ⟨m, hm⟩ : ∃ m : Nat, (m : Int) = (N1.1 15).toInt - (M.1 15).toInt := ⟨((N1.1 15).toInt - (M.1 15).toInt).toNat, by omega⟩
        have hx6 : (N1.1 15 - 1).toInt = (M.1 15).toInt + (m : Int) - 1 := by omega
        delta mm_locals_L43 at hq
        obtain ⟨N3, eN3, hq⟩ := iv_bind hq
        have hq : mm_locals_L63 (mm_P2 e) (md_i N3 18 (M.1 18)) ln (M.1 15) q17.2 (N2.1 15 - 1) = some q := hq
        rw [k15] at hq
        have w41 := w4.1.1
        have eN4 := must_comm (k := 18) (v := M.1 18) (by omega) (by omega) (by omega) (by omega) w4.2.2.2.1.2 eN3
        show dc_wp ((hg_gr S4 (some (A1 0)) 4 1).bind _) _
        rw [← a04]
        refine wq_gr (x := some (A4 3)) v4.pa rfl ?_
        refine wq_pf v4.sn.1 (show 5 < 6 by decide) ?_
        show dc_wp (hm_PA_takeLocals_L57 (hm_P2 d) G (hu S4 (A4 3) (.inr (3, [.ref (A4 2), .ref (A4 8), .ref (A4 9), .ref (A4 10), .int (Q4 7), .int (Q 8)]))) (A4 0) ln (Q 7) r4 (Q1 7 - 1)) _
        rw [q71, q7, er4]
        refine dc_mono (lcl_c v5 rc5 hT cv (by show _ ≤ (Q4 12).toInt.toNat; omega) ei4 hx6 (by omega) (by show (Q4 12).toInt + _ ≤ _; omega) rfl) ?_
        rintro zz ⟨S6, r6, rfl, t⟩
        refine Or.inl ⟨S6, r6, rfl, ?_⟩
        refine dc_mono (end_l hok hK t w5 (Int.le_refl _) (by show _ ≤ 6 * (q17.1.1 7).toInt; omega) (by omega) eN4 rfl) ?_
        rintro z (⟨S7, rfl, te⟩ | ⟨X, rfl, g⟩)
        · left
          refine ⟨S7, r6, rfl, ?_⟩
          have te0 := te
          obtain ⟨A', C', Q', el', P', ND', i', I', j', y1, y2, y3, y4, y5, ra⟩ := te
          have c84 : (q17.1.1 4).toInt ≤ (N3.1 7).toInt := ra.2.2.2.2.1.1
          have mm := fun k (d : ¬ (4 ≤ k ∧ k ≤ 8)) => ra.1 k (by omega) (by omega) (by omega) (by omega) (by omega)
          have n29 : N3.1 29 = q17.1.1 29 := mm 29 (by omega)
          have n20 : N3.1 20 = q17.1.1 20 := mm 20 (by omega)
          have n13 : N3.1 13 = q17.1.1 13 := mm 13 (by omega)
          have n14 : N3.1 14 = q17.1.1 14 := mm 14 (by omega)
          have n12 : N3.1 12 = q17.1.1 12 := mm 12 (by omega)
          have n27 : N3.1 27 = q17.1.1 27 := mm 27 (by omega)
          have hT' : (md_i N3 18 (M.1 18)).1 12 = 0 → repR (md_i N3 18 (M.1 18)) T q17.2 := fun z => repR_ext (M := q17.1) (M' := md_i N3 18 (M.1 18)) (by show _ ≤ (N3.1 27).toInt; rw [n27]; exact Int.le_refl _) (fun k i _ => by rw [ra.2.1]; rfl) T _ (hR4 (n12.symm.trans z))
          obtain ⟨k1, k2⟩ := lcl_r (N := md_i N3 18 (M.1 18)) y2.2.2.2.1.2 hx6 (by omega) hT' hq
          have ee := fun k (d : ¬ k = 12) (d2 : ¬ k = 27) => k1.1 k d d2
          have e7 : q.1.1 7 = N3.1 7 := ee 7 (by omega) (by omega)
          have e29 : q.1.1 29 = q17.1.1 29 := (ee 29 (by omega) (by omega)).trans n29
          have e20 : q.1.1 20 = q17.1.1 20 := (ee 20 (by omega) (by omega)).trans n20
          have e13 : q.1.1 13 = q17.1.1 13 := (ee 13 (by omega) (by omega)).trans n13
          have e14 : q.1.1 14 = q17.1.1 14 := (ee 14 (by omega) (by omega)).trans n14
          have e15 : q.1.1 15 = q17.1.1 15 := (ee 15 (by omega) (by omega)).trans (mm 15 (by omega))
          have r15 : (N2.1 15).toInt ≤ (q17.1.1 15).toInt := ev4.2.2.2.2.2.2.2.2.2
          have q111 : Q1 11 = Q 11 := ev1.2.2.2.1 11 (by omega)
          have z11 : (N2.1 11).toInt = (M.1 11).toInt := by rw [k11]
          have k15i : (N2.1 15).toInt = (N1.1 15).toInt := by rw [k15]
          have hV : ∀ y', sV B1 N2 y' → (sV B M y' ∨ ((M.1 15).toInt ≤ y'.toInt ∧ y'.toInt < (M.1 15).toInt + (m : Int))) := by
            rintro y' ⟨i', i1, i2⟩
            rw [k18] at i1
            by_cases c' : i' < (M.1 18).toInt.toNat
            · left
              exact ⟨i', c', by rw [← ev1.2.2.2.2.2.2.2.2.1 i' c']; exact i2⟩
            · right
              have z := lr1.2 i' (by omega) i1
              rw [i2, q7] at z
              omega
          have fb : FB M Q B q.1 (q1 Q4 8 (Q 8)) B4 (100 * (2 * (d + 1)) + (27 - (M.1 11).toInt).toNat) (Tlc ln (N1.1 15 - 1) m T) := by
            obtain ⟨t', L, f1, f2, f3, f4⟩ := fb4
            have f1 : FU (pOk (B4 6) (B4 7) (B4 9) (Q1 11).toInt (Q4 11).toInt) (B4 9) (sV B1 N2) T (100 * (2 * d) + (26 - (N2.1 11).toInt).toNat) t' L := f1
            have f2 : (Q4 11).toInt - (Q1 11).toInt ≤ t' ∧ t' ≤ 3 * ((Q4 11).toInt - (Q1 11).toInt) := f2
            rw [q111] at f1 f2
            obtain ⟨L', l1, l2, l3⟩ := FU_lc (ln := ln) (V := sV B M) (st := (M.1 15).toInt) (θ := pOk (B4 6) (B4 7) (B4 9) (Q 11).toInt (Q4 11).toInt) (fun V V' e hV h => pOk_ext (fun _ _ => ⟨rfl, rfl, rfl⟩) (Int.le_refl _) (Int.le_refl _) hV h) m (N1.1 15 - 1) T L hx6 (by omega) ⟨okT_V (θ := pOk (B4 6) (B4 7) (B4 9) (Q 11).toInt (Q4 11).toInt) (θ' := pOk (B4 6) (B4 7) (B4 9) (Q 11).toInt (Q4 11).toInt) (fun V V' e hV h => pOk_ext (fun _ _ => ⟨rfl, rfl, rfl⟩) (Int.le_refl _) (Int.le_refl _) hV h) T _ _ hV f1.1, f1.2⟩
            refine ⟨t', L', l1.up (by omega), f2, fun y hy => ?_, l3 f4 (fun y hy => ?_)⟩
            · rw [e15]
              rcases l2 y hy with z | z
              · have := f3 y z
                omega
              · omega
            · have := f3 y hy
              omega
          have n11 : (Q1 11).toInt ≤ (Q4 11).toInt := ev4.2.2.2.2.1.1
          have gM : GK 0 (Q1 11).toInt M N2 := gk_0 ((mb 12 (by omega)).trans (ma 12 (by omega) (by omega) (by omega))) ((mb 27 (by omega)).trans (ma 27 (by omega) (by omega) (by omega)))
          have gN : GK 0 (Q4 11).toInt q17.1 (md_i N3 18 (M.1 18)) := gk_0 n12 n27
          have gk : GK (tsz (Tlc ln (N1.1 15 - 1) m T) : Int) (Q4 11).toInt M q.1 := gk_tr (gk_tr (gk_tr gM gk4 n11 (by omega) rfl) gN (Int.le_refl _) (by omega) rfl) (gk_lcl (N := md_i N3 18 (M.1 18)) y2.2.2.2.1.2 hx6 (by omega) hq) (Int.le_refl _) (by omega) (by rw [tsz_lc]; omega)
          refine fin_e ev5 te0 rfl (fun A C B Q P ND => evS_R k1) (fun C B Q j b u w r => RM_R r k1) e7 k2 ?_ ?_ hu0 hw' ?_ ?_ ?_ fb gk
          · rw [e7]; omega
          · rw [e7]; omega
          · rw [e29, e20, e13, e14, e7]
            exact BU_end (BU_lc hA rs.1 h13 (by omega) (by omega) m _ T bu4) (by omega)
          · rw [e20, e7]; omega
          · rw [e7]; omega
        · right
          rw [a14, a1] at g
          exact ⟨X, rfl, g.mono (fun φ hφ hs => mm_locals_L63_sk hφ (mm_P2 e) (mm_P2_sk hφ e) _ _ _ _ _ hs _ hq)⟩
      · rw [a1] at g
        exact ⟨_, rfl, Or.inr ⟨X, rfl, Or.inr ⟨X, rfl, g.mono (fun φ hφ hs => mm_locals_L43_sk hφ (mm_P2 e) (mm_P2_sk hφ e) _ _ _ _ _ _ hs _ hq)⟩⟩⟩
    · rw [a1] at g
      exact ⟨_, rfl, Or.inr ⟨X, rfl, Or.inr ⟨X, rfl, g.mono sN⟩⟩⟩
  · exact ⟨_, rfl, Or.inr ⟨X, rfl, Or.inr ⟨X, rfl, g.mono (fun φ hφ hs => sN φ hφ (mm_mustWord_sk hφ _ _ hs _ eN2))⟩⟩⟩
end LOC
