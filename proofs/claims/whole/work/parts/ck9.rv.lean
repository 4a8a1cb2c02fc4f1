/-! the class's reactor: valueOf -/
/-- the value of a signal, as the class looks it up -/
def vK (q : rsT) (s : Nat) : Int32 := q.1 1 (q.1 4 s).toInt.toNat
theorem of_m1 {j : Nat} (h : j < 2147483647) {z : Int} (hz : z = (j : Int) - 1) : (Int32.ofNat j + (-1)).toInt = z := by
  have t0 : Int32.ofNat j + (-1) = Int32.ofNat j - 1 := by rw [Int32.sub_eq_add_neg]
  rw [t0, hz]
  rcases Nat.eq_zero_or_pos j with z | z
  · subst z; decide
  · obtain ⟨i, e⟩ : ∃ i, j = i + 1 := ⟨j - 1, by omega⟩
    subst e
    have : Int32.ofNat (i + 1) - 1 = Int32.ofNat i := by
      rw [Int32.ofNat_add]
      show Int32.ofNat i + 1 - 1 = _
      rw [Int32.add_sub_cancel]
    rw [this, Int32.toInt_ofNat_of_lt (by omega)]
    omega
theorem of_lex {lo ex : Nat} (h1 : 1 ≤ ex) (hb : lo + ex ≤ 1000) : (Int32.ofNat lo + Int32.ofNat ex - 1).toInt = (lo : Int) + ex - 1 := by
  obtain ⟨i, e⟩ : ∃ i, ex = i + 1 := ⟨ex - 1, by omega⟩
  subst e
  have : Int32.ofNat lo + Int32.ofNat (i + 1) - 1 = Int32.ofNat (lo + i) := by
    rw [← Int32.ofNat_add, ← Nat.add_assoc, Int32.ofNat_add]
    show Int32.ofNat (lo + i) + 1 - 1 = _
    rw [Int32.add_sub_cancel]
  rw [this, Int32.toInt_ofNat_of_lt (by omega)]
  omega
theorem wq_so {α β : Type} {x : α} {o : Option α} {F : α → Option β} {Φ : β → Prop} (e : o = some x) (h : dc_wp (F x) Φ) : dc_wp (o.bind F) Φ := by subst e; exact h
section RVC
variable {G : hg_E} {E : rvP} {S : hg_S} {q : rsT} {x y : Int32}
/-- what a step of valueOf keeps: behind d pieces all have their truth w -/
def voI (G : hg_E) (E : rvP) (q : rsT) (w : Nat → Int32) (lo ex d : Nat) (y : hg_S × Int32) : Prop := y.2.toInt = (lo : Int) + d - 1 ∧ d ≤ ex ∧ ∃ f, RV G E y.1 (fX q 5 f) ∧ ∀ j, lo + d ≤ j → j < lo + ex → f j = w j
def voF (G : hg_E) (E : rvP) (q : rsT) (w : Nat → Int32) (lo ex : Nat) (S' : hg_S) : Prop := ∃ f, RV G E S' (fX q 5 f) ∧ ∀ j, lo ≤ j → j < lo + ex → f j = w j
theorem vo_fin {w f : Nat → Int32} {lo ex d j : Nat} {Y : hg_S} {u x1 : Int32} {x2 : Option Nat} (g : RV G E Y (fX q 5 f)) (hf : ∀ j, lo + d ≤ j → j < lo + ex → f j = w j) (hb : lo + ex ≤ 1000) (hL : lo + ex ≤ vL' E 5) (dj : lo + d = j + 1) (de : d ≤ ex) (d1 : 1 ≤ d) (hu : u = w j) : dc_wp ((hg_st Y (some (vB E 5)) (G.1 0) (Int32.ofNat j) u).bind fun S13 => hm_RE_valueOf_L170 G S13 (vO E) x1 x2 (Int32.ofNat j)) (Sum.elim (fun y => ∃ k', k' < d ∧ voI G E q w lo ex k' y) (voF G E q w lo ex)) := by
  have tj : (Int32.ofNat j).toInt = (j : Int) := Int32.toInt_ofNat_of_lt (by omega)
  have tj' : (Int32.ofNat j).toInt.toNat = j := by omega
  refine rv_s g (by decide) (by decide) rfl (by omega) (by omega) (fun S' g' => ?_)
  rw [tj', uX_fX] at g'
  refine ⟨_, rfl, d - 1, by omega, of_m1 (by omega) (by omega), by omega, _, g', fun i i1 i2 => ?_⟩
  by_cases e : i = j
  · rw [e, upd_s]; exact hu
  · rw [upd_n e]; exact hf i (by omega) i2
theorem vo_k {Q : Nat → Nat → Int32} {w : Nat → Int32} {lo ex : Nat} (h : RV G E S q) (he : vR E 14 lo = Int32.ofNat ex) (h1 : 1 ≤ ex) (hb : lo + ex ≤ 1000) (hN : (lo + ex ≤ vN E 11 ∧ lo + ex ≤ vN E 12 ∧ lo + ex ≤ vN E 13 ∧ lo + ex ≤ vN E 14) ∧ lo + ex ≤ vL' E 5) (hQ : ∀ j, lo ≤ j → j < lo + ex → vR E 11 j = Q 63 j ∧ vR E 12 j = Q 64 j ∧ vR E 13 j = Q 65 j) (hk : blk Q lo (lo + ex)) (hl : ∀ j, lo ≤ j → j < lo + ex → Q 63 j = 0 → (0 ≤ (Q 64 j).toInt ∧ (Q 64 j).toInt < (vL' E 4 : Int)) ∧ 0 ≤ (q.1 4 (Q 64 j).toInt.toNat).toInt ∧ (q.1 4 (Q 64 j).toInt.toNat).toInt < (vL' E 1 : Int)) (v3t : ∀ j, v3 (w j)) (hw : ∀ j, lo ≤ j → j < lo + ex → w j = if Q 63 j = 0 then vK q (Q 64 j).toInt.toNat else if Q 63 j = 1 then n3 (w (Q 64 j).toInt.toNat) else if Q 63 j = 2 then an3 (w (Q 64 j).toInt.toNat) (w (Q 65 j).toInt.toNat) else or3 (w (Q 64 j).toInt.toNat) (w (Q 65 j).toInt.toNat)) : dc_wp (hm_RE_valueOf G S (vO E) (Int32.ofNat lo)) (fun r => r.2 = w lo ∧ ∃ f, RV G E r.1 (fX q 5 f)) := by
  have tl : (Int32.ofNat lo).toInt = (lo : Int) := Int32.toInt_ofNat_of_lt (by omega)
  have tln : (Int32.ofNat lo).toInt.toNat = lo := by omega
  delta hm_RE_valueOf
  refine rv_p h ?_
  refine rv_k h ?_
  refine rv_q h (j := 3) (by decide) ?_
  refine rv_d h (j := 14) (by decide) (by decide) (by omega) (by omega) ?_
  rw [tln, he]
  show dc_wp (hm_RE_valueOf_L19 G S (vO E) (Int32.ofNat lo) (some (vPc E)) (Int32.ofNat lo + Int32.ofNat ex - 1)) _
  have ts := of_lex h1 hb
  generalize Int32.ofNat lo + Int32.ofNat ex - 1 = top at ts
  delta hm_RE_valueOf_L19
  have key := dc_itK (step := hm_RE_valueOf_s19 G (vO E) (Int32.ofNat lo) (some (vPc E))) (voI G E q w lo ex) (F := voF G E q w lo ex) (by
    rintro d ⟨Y, v⟩ ⟨ev, ed, f, g, hf⟩
    have ev : v.toInt = (lo : Int) + d - 1 := ev
    have g : RV G E Y (fX q 5 f) := g
    show dc_wp (hm_RE_valueOf_b19 G Y (vO E) (Int32.ofNat lo) (some (vPc E)) v) _
    delta hm_RE_valueOf_b19
    refine wq_if (fun c => ?_) (fun c => ?_)
    · have c := i_lt.mp c
      rw [tl] at c
      have e0 : d = 0 := by omega
      subst e0
      exact ⟨_, rfl, f, g, fun j j1 j2 => hf j (by omega) j2⟩
    · have c : ¬ v.toInt < (lo : Int) := fun z => c (i_lt.mpr (by rw [tl]; exact z))
      obtain ⟨j, ej⟩ : ∃ j : Nat, v.toInt = (j : Int) := ⟨v.toInt.toNat, by omega⟩
      have evj : v = Int32.ofNat j := by
        have := Int32.toInt_ofNat_of_lt (n := j) (by omega)
        exact Int32.toInt_inj.mp (by rw [ej, this])
      subst evj
      have tj : (Int32.ofNat j).toInt.toNat = j := by omega
      have j1 : lo ≤ j := by omega
      have j2 : j < lo + ex := by omega
      have dj : lo + d = j + 1 := by omega
      obtain ⟨q1, q2, q3⟩ := hQ j j1 j2
      have t1 := hw j j1 j2
      have g5 : (fX q 5 f).1 5 = f := fX_s
      have g1 : (fX q 5 f).1 1 = q.1 1 := fX_n (by decide)
      have g4 : (fX q 5 f).1 4 = q.1 4 := fX_n (by decide)
      have d1 : 1 ≤ d := by omega
      refine rv_q g (j := 1) (by decide) ?_
      refine rv_d g (j := 12) (by decide) (by decide) (by omega) (by omega) ?_
      refine rv_q g (j := 0) (by decide) ?_
      refine rv_d g (j := 11) (by decide) (by decide) (by omega) (by omega) ?_
      rw [tj, q1, q2]
      refine wq_let (fun kd ek => ?_)
      subst ek
      rcases hk j j1 j2 with z | ⟨z, z1, z2⟩ | ⟨z, ⟨z1, z2⟩, z3, z4⟩
      · obtain ⟨⟨a1, a2⟩, a3, a4⟩ := hl j j1 j2 z
        rw [if_pos z]
        rw [if_pos z] at t1
        refine rv_g g (by decide) (by decide) ?_
        refine rv_g g (by decide) (by decide) ?_
        refine rv_g g (by decide) (by decide) ?_
        refine rv_l g (by decide) (by decide) rfl a1 a2 ?_
        rw [g4]
        refine rv_l g (by decide) (by decide) rfl a3 a4 ?_
        rw [g1]
        exact vo_fin g hf hb hN.2 dj ed d1 t1.symm
      · have n0 : ¬ Q 63 j = 0 := by rw [z]; decide
        rw [if_neg n0, if_pos z]
        rw [if_neg n0, if_pos z] at t1
        refine rv_g g (by decide) (by decide) ?_
        refine rv_g g (by decide) (by decide) ?_
        refine rv_l g (by decide) (by decide) rfl (by omega) (by omega) ?_
        rw [g5, hf _ (by omega) (by omega)]
        refine wq_so (sv_0 (v3t _)) ?_
        exact vo_fin g hf hb hN.2 dj ed d1 t1.symm
      · have n0 : ¬ Q 63 j = 0 := by rcases z with z | z <;> (rw [z]; decide)
        have n1 : ¬ Q 63 j = 1 := by rcases z with z | z <;> (rw [z]; decide)
        rw [if_neg n0, if_neg n1]
        rw [if_neg n0, if_neg n1] at t1
        by_cases c2 : Q 63 j = 2
        · rw [if_pos c2]
          rw [if_pos c2] at t1
          refine rv_g g (by decide) (by decide) ?_
          refine rv_g g (by decide) (by decide) ?_
          refine rv_l g (by decide) (by decide) rfl (by omega) (by omega) ?_
          refine rv_g g (by decide) (by decide) ?_
          refine rv_q g (j := 2) (by decide) ?_
          refine rv_d g (j := 13) (by decide) (by decide) (by omega) (by omega) ?_
          rw [tj, q3]
          refine rv_l g (by decide) (by decide) rfl (by omega) (by omega) ?_
          rw [g5, hf _ (by omega) (by omega), hf _ (by omega) (by omega)]
          refine wq_so (sv_1 (v3t _) (v3t _)) ?_
          exact vo_fin g hf hb hN.2 dj ed d1 t1.symm
        · rw [if_neg c2]
          rw [if_neg c2] at t1
          refine rv_g g (by decide) (by decide) ?_
          refine rv_g g (by decide) (by decide) ?_
          refine rv_l g (by decide) (by decide) rfl (by omega) (by omega) ?_
          refine rv_g g (by decide) (by decide) ?_
          refine rv_q g (j := 2) (by decide) ?_
          refine rv_d g (j := 13) (by decide) (by decide) (by omega) (by omega) ?_
          rw [tj, q3]
          refine rv_l g (by decide) (by decide) rfl (by omega) (by omega) ?_
          rw [g5, hf _ (by omega) (by omega), hf _ (by omega) (by omega)]
          refine wq_so (sv_2 (v3t _) (v3t _)) ?_
          exact vo_fin g hf hb hN.2 dj ed d1 t1.symm)
  refine wq_call (key ex (S, top) ⟨ts, Nat.le_refl _, q.1 5, ?_, fun j j1 j2 => by omega⟩) ?_
  · rw [fX_id rfl]; exact h
  · rintro S' ⟨f, g, hf⟩
    delta hm_RE_valueOf_L176
    refine rv_g g (by decide) (by decide) ?_
    refine rv_l g (by decide) (by decide) rfl (by omega) (by omega) ?_
    refine ⟨_, rfl, ?_, f, g⟩
    show (fX q 5 f).1 5 (Int32.ofNat lo).toInt.toNat = _
    rw [fX_s, tln]
    exact hf lo (Nat.le_refl _) (by omega)
theorem vo_w {Q : Nat → Nat → Int32} {lo ex : Nat} (h : RV G E S q) (he : vR E 14 lo = Int32.ofNat ex) (h1 : 1 ≤ ex) (hb : lo + ex ≤ 1000) (hN : (lo + ex ≤ vN E 11 ∧ lo + ex ≤ vN E 12 ∧ lo + ex ≤ vN E 13 ∧ lo + ex ≤ vN E 14) ∧ lo + ex ≤ vL' E 5) (hQ : ∀ j, lo ≤ j → j < lo + ex → vR E 11 j = Q 63 j ∧ vR E 12 j = Q 64 j ∧ vR E 13 j = Q 65 j) (hk : blk Q lo (lo + ex)) (hl : ∀ j, lo ≤ j → j < lo + ex → Q 63 j = 0 → (0 ≤ (Q 64 j).toInt ∧ (Q 64 j).toInt < (vL' E 4 : Int)) ∧ 0 ≤ (q.1 4 (Q 64 j).toInt.toNat).toInt ∧ (q.1 4 (Q 64 j).toInt.toNat).toInt < (vL' E 1 : Int)) (h3 : ∀ s, v3 (vK q s)) : dc_wp (hm_RE_valueOf G S (vO E) (Int32.ofNat lo)) (fun r => r.2 = tvF Q (vK q) 1001 lo ∧ ∃ f, RV G E r.1 (fX q 5 f)) := vo_k h he h1 hb hN hQ hk hl (fun j => tvF_3 h3 1001 j) (fun j j1 j2 => tvF_1 hk (by omega) j1 j2)
end RVC
