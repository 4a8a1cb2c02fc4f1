/-! the reference's react, whole -/
/-- what an instant may change -/
def rxF (S q : md_S) : Prop := (∀ i, ¬ (i = 78 ∨ i = 79 ∨ i = 80 ∨ i = 81) → q.1 i = S.1 i) ∧ ∀ i, ¬ (i = 67 ∨ i = 70 ∨ i = 71 ∨ i = 72 ∨ i = 73 ∨ i = 75 ∨ i = 76) → q.2.1 i = S.2.1 i
theorem rxF_tr {S q r : md_S} (h : rxF S q) (g : rxF q r) : rxF S r := ⟨fun i hi => (g.1 i hi).trans (h.1 i hi), fun i hi => (g.2 i hi).trans (h.2 i hi)⟩
/-- held pauses of a row, counted -/
def hsC (Q : Nat → Nat → Int32) (C : Nat → Int32) (j : Nat) : Prop := (C (pfQ Q j)).toInt < (C (ptQ Q j)).toInt
def mdB (b : Int32) : Option Nat := if b = 0 then none else some 0
section RX3
variable {M : md_S} {names : Int32} {kk ff ss xx : Nat → Int32} {m ins io inst pa : Nat} {T : tT}
/-- the program stands, its numbers are these -/
def rxN (M : md_S) (ins io inst pa : Nat) (T : tT) : Prop := (M.1 45 = Int32.ofNat ins ∧ M.1 45 + M.1 46 = Int32.ofNat io ∧ M.1 50 = Int32.ofNat inst ∧ M.1 47 = Int32.ofNat pa) ∧ (ins ≤ io ∧ io ≤ 62 ∧ 62 ≤ inst ∧ inst ≤ 1662 ∧ pa ≤ 200) ∧ pas T = (pa : Int) ∧ (M.1 77 = 0 ∨ M.1 77 = 1)
/-- an outcome that speaks of the meaning e -/
def rxE (q : md_S) (pa : Nat) (e : zvT) : Prop := (cB (q.1 81) (zC e) ∧ mB (q.1 80) (zM e)) ∧ ((zD e → q.1 78 = 1) ∧ (¬ zD e → q.1 78 = 0)) ∧ ((∃ c, zM e c) → ∀ p, p < pa → (zN e p → q.2.1 75 p = 1) ∧ (¬ zN e p → q.2.1 75 p = 0))
theorem rx_it (hm : m ≤ 1000) (W : pcW names kk ff ss xx m) (hT : sfT M kk ff xx m T (fun y => 0 ≤ y.toInt ∧ y.toInt < (io : Int)) 0 (-1) 1 (-1) 0 0 []) (hn : rxN M ins io inst pa T) {C : Nat → Int32} (hC : ∀ p p', p ≤ p' → p' ≤ pa → (C p).toInt ≤ (C p').toInt) {Y : md_S} (hF : rxF M Y) (hY : Y.2.1 76 = C) (h3 : ∀ i, v3 (Y.2.1 70 i)) {r : (md_S × Int32) ⊕ md_S} (hq : mm_react_L99 Y 0 = some r) : ∃ q more, r = .inl (q, more) ∧ rxF M q ∧ q.2.1 76 = C ∧ (∀ i, v3 (q.2.1 70 i)) ∧ lrn M.2.1 (hsC M.2.1 C) (seM M) T (fun s => s) (mdB (M.1 77)) (lnR ins io inst) (fun i => Y.2.1 70 i) (fun i => q.2.1 70 i) ∧ (more = 0 ∨ more = 1) ∧ (more = 0 → (∀ i, lnR ins io inst i → Y.2.1 70 i = 2 → zE (rtZ M.2.1 (hsC M.2.1 C) (seM M) T (fun s => s) (mdB (M.1 77)) (fun i => Y.2.1 70 i)) i ∧ ¬ zS (rtZ M.2.1 (hsC M.2.1 C) (seM M) T (fun s => s) (mdB (M.1 77)) (fun i => Y.2.1 70 i)) i)) ∧ rxE q pa (rtZ M.2.1 (hsC M.2.1 C) (seM M) T (fun s => s) (mdB (M.1 77)) (fun i => Y.2.1 70 i)) := by
  obtain ⟨⟨e45, eio, e50, e47⟩, ⟨b1, b2, b3, b4, b5⟩, hpa, h77⟩ := hn
  delta mm_react_L99 at hq
  obtain ⟨Z1, z1, hq⟩ := iv_bind hq
  obtain ⟨u1, u2, u3⟩ := lp_99 (inst := inst) (by rw [hF.1 50 (by omega)]; exact e50) b4 z1
  have hq : (dc_it mm_react_s129 (Z1, 0)).bind (fun (z : md_S) => mm_react_L155 z) = some r := hq
  obtain ⟨Z2, z2, hq⟩ := iv_bind hq
  obtain ⟨v1, v2, v3'⟩ := lp_129 (io := io) (by rw [u1, hF.1 45 (by omega), hF.1 46 (by omega)]; exact eio) b2 z2
  have hq : (dc_it mm_react_s157 (Z2, 0)).bind (fun (z : md_S) => mm_react_L178 z) = some r := hq
  obtain ⟨Z3, z3, hq⟩ := iv_bind hq
  obtain ⟨w1, w2, w3⟩ := lp_157 (pa := pa) (by rw [v1, u1, hF.1 47 (by omega)]; exact e47) b5 z3
  have hq : (mm_run_r (md_i (md_i Z3 79 1) 78 0) 0 ((md_i (md_i Z3 79 1) 78 0).1 77) 1).bind (fun q8 => (mm_learns q8).bind fun q9 => some (.inl (q9.1, q9.2))) = some r := hq
  have x1 : ∀ i, ¬ (i = 78 ∨ i = 79) → (md_i (md_i Z3 79 1) 78 0).1 i = Y.1 i := fun i hi => by rw [md_ij (by omega), md_ij (by omega), w1, v1, u1]
  have x78 : (md_i (md_i Z3 79 1) 78 0).1 78 = 0 ∧ (md_i (md_i Z3 79 1) 78 0).1 79 = 1 := ⟨rfl, rfl⟩
  have x2 : (md_i (md_i Z3 79 1) 78 0).2 = Z3.2 := rfl
  generalize md_i (md_i Z3 79 1) 78 0 = X at hq x1 x78 x2
  have xa : ∀ i, ¬ (i = 71 ∨ i = 72 ∨ i = 73 ∨ i = 75) → X.2.1 i = Y.2.1 i := fun i hi => by rw [x2, w2 i (by omega), v2 i (by omega), u2 i (by omega)]
  have x71 : ∀ i, i < inst → X.2.1 71 i = 0 ∧ X.2.1 72 i = 0 := fun i hi => by
    rw [x2, w2 71 (by omega), v2 71 (by omega), w2 72 (by omega), v2 72 (by omega)]
    exact u3 i hi
  have x73 : ∀ i, i < io → X.2.1 73 i = Int32.ofNat i := fun i hi => by rw [x2, w2 73 (by omega)]; exact (v3' i).1 hi
  have x75 : ∀ i, i < pa → X.2.1 75 i = 0 := fun i hi => by rw [x2]; exact (w3 i).1 hi
  have xM : rxF M X := ⟨fun i hi => by rw [x1 i (by omega)]; exact hF.1 i hi, fun i hi => by rw [xa i (by omega)]; exact hF.2 i hi⟩
  have eM : ∀ i, 51 ≤ i → i ≤ 66 → X.2.1 i = M.2.1 i := fun i i1 i2 => xM.2 i (by omega)
  have x70 : X.2.1 70 = Y.2.1 70 := xa 70 (by omega)
  have x76 : X.2.1 76 = C := by rw [xa 76 (by omega)]; exact hY
  have sX := sfT_c W eM hT
  have r3 : ∀ i, v3 (X.2.1 70 i) := fun i => by rw [x70]; exact h3 i
  obtain ⟨q8, e8, hq⟩ := iv_bind hq
  -- the run
  have hp : rnP X X (fun y => 0 ≤ y.toInt ∧ y.toInt < (io : Int)) (fun s => s) (mdB (M.1 77)) True (X.1 77) 1 ((1 : Int).toNat) := by
    refine ⟨rnF_rf, fun y hy => ⟨x73 _ (by omega), (show y.toInt.toNat < 1662 by omega)⟩, ?_, Or.inl ⟨trivial, rfl⟩, Or.inl x78.1⟩
    have e77 : X.1 77 = M.1 77 := xM.1 77 (by omega)
    unfold mdB
    rcases h77 with z | z
    · rw [if_pos z]
      exact e77.trans z
    · rw [if_neg (by rw [z]; decide)]
      exact ⟨e77.trans z, x78.2, by omega⟩
  have rT := (run_T (P := pa) hm W r3 (fun p p' h1 h2 => by rw [x76]; exact hC p p' h1 h2) T _ 0 _ _ _ _ _ _ sX (by omega)).1 mm_d3 X q8 _ _ True _ _ hp e8
  have rg := sfT_p sX
  -- the meaning, over the program's own rows
  have ez : zv X.2.1 (tvQ X.2.1 (siM X)) (siM X) (hsM X) (seM X) T 0 (fun s => s) (mdB (M.1 77)) True = rtZ M.2.1 (hsC M.2.1 C) (seM M) T (fun s => s) (mdB (M.1 77)) (fun i => Y.2.1 70 i) := by
    have es : siM X = fun i => Y.2.1 70 i := by funext i; show X.2.1 70 i = _; rw [x70]
    have et : tvQ X.2.1 (siM X) = tvQ M.2.1 (fun i => Y.2.1 70 i) := by
      rw [es]
      funext ρ n
      unfold tvQ
      exact tvF_q (eM 63 (by omega) (by omega)) (eM 64 (by omega) (by omega)) (eM 65 (by omega) (by omega)) _ _
    have eh : hsM X = hsC M.2.1 C := by
      funext j
      unfold hsC pfQ ptQ
      show ((X.2.1 76 (pfQ X.2.1 j)).toInt < (X.2.1 76 (ptQ X.2.1 j)).toInt) = _
      unfold pfQ ptQ
      rw [x76, eM 62 (by omega) (by omega), eM 59 (by omega) (by omega)]
    have ee : seM X = seM M := by
      funext p
      show (¬ X.2.1 74 p = 0) = (¬ M.2.1 74 p = 0)
      rw [xM.2 74 (by omega)]
    rw [et, es, eh, ee]
    unfold rtZ
    exact zv_Q (fun i hi => eM i (by omega) (by omega)) T 0 _ _ _
  rw [ez] at rT
  have ok := zv_ok (Q := M.2.1) (tv := tvQ M.2.1 (fun i => Y.2.1 70 i)) (σ := fun i => Y.2.1 70 i) (hs := hsC M.2.1 C) (sel := seM M) T 0 (fun s => s) (mdB (M.1 77)) True
  have ok : zOk True (rtZ M.2.1 (hsC M.2.1 C) (seM M) T (fun s => s) (mdB (M.1 77)) (fun i => Y.2.1 70 i)) := ok
  unfold lrn
  generalize rtZ M.2.1 (hsC M.2.1 C) (seM M) T (fun s => s) (mdB (M.1 77)) (fun i => Y.2.1 70 i) = e at *
  obtain ⟨⟨o1, o2⟩, ⟨o3, o4⟩, o5, o6, o7, o8, o9, o10⟩ := rT
  obtain ⟨q9, e9, hq⟩ := iv_bind hq
  have hq := (Option.some.inj hq).symm
  have i8 : ∀ i, ¬ (i = 78 ∨ i = 79 ∨ i = 80 ∨ i = 81) → q8.1 i = M.1 i := fun i hi => by rw [o1.1 i hi]; exact xM.1 i hi
  obtain ⟨⟨l1, l2⟩, l3, l4, l5⟩ := learn_r (ins := ins) (io := io) (inst := inst) (by rw [i8 45 (by omega)]; exact e45) (by rw [i8 45 (by omega), i8 46 (by omega)]; exact eio) (by rw [i8 50 (by omega)]; exact e50) ⟨b1, b2, b3, b4⟩ e9
  have s70 : ∀ i, q8.2.1 70 i = Y.2.1 70 i := fun i => by rw [o1.2 70 (by omega), x70]
  have m71 : ∀ i, lnR ins io inst i → (q8.2.1 71 i = 0 ↔ ¬ zS e i) ∧ (q8.2.1 72 i = 0 ↔ ¬ zE e i) := by
    intro i hi
    have li : i < inst := by unfold lnR at hi; omega
    obtain ⟨y1, y2⟩ := x71 i li
    refine ⟨⟨fun z y => ?_, fun z => by rw [(o6 i).2 z]; exact y1⟩, ⟨fun z y => ?_, fun z => by rw [(o5 i).2 z]; exact y2⟩⟩
    · rw [(o6 i).1 y] at z
      exact absurd z (by decide)
    · rw [(o5 i).1 y] at z
      exact absurd z (by decide)
  refine ⟨q9.1, q9.2, hq, ⟨fun i hi => by rw [l1]; exact i8 i hi, fun i hi => by rw [l2 i (by omega), o1.2 i (by omega)]; exact xM.2 i hi⟩, by rw [l2 76 (by omega), o1.2 76 (by omega)]; exact x76, fun i => ?_, fun i => ⟨fun z1 z2 z3 => ?_, fun z1 z2 z3 => ?_, fun z => ?_⟩, l4, fun z i hi h2 => ?_, ⟨by rw [l1]; exact ⟨o3, o4⟩, ?_, fun hM p hp => ?_⟩⟩
  · by_cases c : lnR ins io inst i ∧ q8.2.1 70 i = 2 ∧ (¬ q8.2.1 71 i = 0 ∨ q8.2.1 72 i = 0)
    · obtain ⟨c1, c2, c3⟩ := c
      by_cases d : q8.2.1 71 i = 0
      · rw [(l3 i).2.1 c1 c2 d (c3.resolve_left (fun t => t d))]
        exact Or.inl rfl
      · rw [(l3 i).1 c1 c2 d]
        exact Or.inr (Or.inl rfl)
    · rw [(l3 i).2.2 c, s70]
      exact h3 i
  · exact (l3 i).1 z1 (by rw [s70]; exact z2) (fun t => (m71 i z1).1.mp t z3)
  · exact (l3 i).2.1 z1 (by rw [s70]; exact z2) ((m71 i z1).1.mpr (fun t => z3 (ok.2.2.2.2.2.1 i t))) ((m71 i z1).2.mpr z3)
  · show q9.1.2.1 70 i = Y.2.1 70 i
    rw [(l3 i).2.2 (fun t => z ⟨t.1, by have := t.2.1; rw [s70] at this; exact this, t.2.2.imp (fun t2 => Classical.byContradiction (fun t3 => t2 ((m71 i t.1).1.mpr t3))) (fun t2 => (m71 i t.1).2.mp t2)⟩)]
    exact s70 i
  · obtain ⟨y1, y2⟩ := l5 z i hi (by rw [s70]; exact h2)
    exact ⟨Classical.byContradiction (fun t => y2 ((m71 i hi).2.mpr t)), (m71 i hi).1.mp y1⟩
  · rw [l1]
    refine ⟨o8.1, fun z => by rw [o8.2 z]; exact x78.1⟩
  · rw [l2 75 (by omega)]
    have a0 : pfQ X.2.1 0 = 0 := by rw [rg.1]; rfl
    have a1 : ptQ X.2.1 0 = pa := by rw [rg.2]; omega
    exact o10 hM (fun p p1 p2 => x75 p (by omega)) p (by omega) (by omega)
end RX3
