/-! ask: a whole test -/
section ASW
variable {names : Int32} {pk pf ps xx : Nat → Int32} {m : Nat} {x2 : Int32}
theorem askF.dn {S S' : md_S} {n n' : Nat} (h : askF S S' n') (hn : n ≤ n') : askF S S' n := ⟨h.1, h.2.1, h.2.2.1, fun j hj => h.2.2.2 j (by omega)⟩
theorem ofN_i {x : Int32} {k : Nat} (h : x.toInt = (k : Int)) (hk : k ≤ 100000) : x = Int32.ofNat k := by
  refine i_eq.mpr ?_
  rw [Int32.toInt_ofNat_of_lt (by omega)]
  exact h
set_option maxHeartbeats 1000000 in
theorem ask_E (W : pcW names pk pf ps xx m) (hm : m ≤ 1000) : ∀ (g e n : Nat) (S z : md_S), e < m → (xx e).toInt ≤ (g : Int) → (n : Int) + (xx e).toInt ≤ 2800 → S.2.1 36 = pk → S.2.1 37 = pf → S.2.1 38 = ps → S.2.1 99 (2 * n) = Int32.ofNat e → ucK (S.2.1 99 (2 * n + 1)) (S.1 43).toInt.toNat → 0 ≤ (S.1 43).toInt → (S.1 43).toInt + (xx e).toInt ≤ 90000 → dc_it (mm_ask_s23 x2) (S, Int32.ofNat (n + 1)) = some z → ∃ S', dc_it (mm_ask_s23 x2) (S', Int32.ofNat n) = some z ∧ askO pk pf xx g e n S S'
  | 0, e, n, S, z, he, hx, _, _, _, _, _, _, _, _, _ => by
    have := (W e he).1
    omega
  | g + 1, e, n, S, z, he, hx, hn, r36, r37, r38, e99, hu, p0, p1, hz => by
    have we := (W e he).1
    have ep : S.1 43 = Int32.ofNat (S.1 43).toInt.toNat := ofN_i (by omega) (by omega)
    rcases ask_1 W he hm (by omega) r36 r37 r38 e99 hz p0 (by omega) with ⟨ge, hz⟩ | ⟨lt, hc⟩
    · have ad : (S.1 43 + 1).toInt = (S.1 43).toInt + 1 := by rw [i_addS (by rw [il_1]; omega), il_1]
      have e43 : (md_i S 43 (S.1 43 + 1)).1 43 = S.1 43 + 1 := md_ii
      refine ⟨_, hz, ⟨fun k hk => md_ij hk, fun _ _ => rfl, rfl, fun _ _ => rfl⟩, ?_, fun t => ?_, fun _ => ?_, ?_⟩
      · rw [e43]; omega
      · omega
      · rw [e43]; omega
      · rw [e43]; omega
    · obtain ⟨k1, k2⟩ := lkS_r (uc := S.2.1 99 (2 * n + 1)) (p := (S.1 43).toInt.toNat) (by omega) ep hu
      obtain ⟨l1, l2, l3⟩ := lkS_f (S := S) (uc := S.2.1 99 (2 * n + 1))
      obtain ⟨r1, r2, r3, r4, ⟨r5, r6, r7⟩, r8⟩ := rwS_f (S := lkS S (S.2.1 99 (2 * n + 1))) (p := (S.1 43).toInt.toNat) (a := pk e) (b := pf e)
      generalize eP : (S.1 43).toInt.toNat = p at *
      have pP : (p : Int) = (S.1 43).toInt := by omega
      generalize eR : rwS (lkS S (S.2.1 99 (2 * n + 1))) p (pk e) (pf e) = R at *
      have R43 : (R.1 43).toInt = (p : Int) + 1 := by
        rw [r2, i_addS (by rw [il_1, Int32.toInt_ofNat_of_lt (by omega)]; omega), il_1, Int32.toInt_ofNat_of_lt (by omega)]
      have fR : ∀ n', askF S R n' := fun n' => ⟨fun k hk => by rw [r1 k hk, l1], fun k hk => by rw [r3 k (by omega), l2 k (by omega)], r4.trans l3, fun j _ => by rw [r3 99 (by omega), l2 99 (by omega)]⟩
      have kR : LKp S R (S.2.1 99 (2 * n + 1)) p := by
        intro j hj
        obtain ⟨a1, a2, a3, a4, a5⟩ := k1 j hj
        obtain ⟨b1, b2, b3⟩ := r8 j (by omega)
        rw [b1, b2, b3]
        exact ⟨a1, a2, a3, a4, a5⟩
      rcases hc with ⟨y, hz⟩ | ⟨y, hz⟩ | ⟨y, hz⟩
      · have x1 : (xx e).toInt = 1 := by
          rcases (W e he).2 with ⟨-, -, t, -⟩ | ⟨t, -⟩ | ⟨t | t, -⟩
          · exact t
          · rw [y] at t; exact absurd t (by decide)
          · rw [y] at t; exact absurd t (by decide)
          · rw [y] at t; exact absurd t (by decide)
        refine ⟨R, hz, fR n, by omega, fun t => ⟨by omega, ?_, by rw [eP]; exact kR⟩, fun t => by omega, by omega⟩
        rw [eP]
        refine ⟨r5, fun _ => ⟨r6, r7⟩, fun t => ?_, fun t => ?_⟩
        · rw [y] at t; exact absurd t (by decide)
        · rcases t with t | t <;> (rw [y] at t; exact absurd t (by decide))
      · obtain ⟨w1, w2, w3, w4⟩ : ps e = -1 ∧ 1 ≤ e ∧ (pf e).toInt = (e : Int) - 1 ∧ (xx e).toInt = 1 + (xx (e - 1)).toInt := by
          rcases (W e he).2 with ⟨t, -⟩ | ⟨-, t1, t2, t3, t4⟩ | ⟨t | t, -⟩
          · rw [y] at t; exact absurd t (by decide)
          · exact ⟨t1, t2, t3, t4⟩
          · rw [y] at t; exact absurd t (by decide)
          · rw [y] at t; exact absurd t (by decide)
        obtain ⟨s1, s2, s3, s4, s5, s6⟩ := puS_f (S := R) (n := n) (a := pf e) (b := 2 * Int32.ofNat p)
        generalize eX : puS R n (pf e) (2 * Int32.ofNat p) = X at *
        have X43 : (X.1 43).toInt = (p : Int) + 1 := by rw [s1]; exact R43
        have Xn : (X.1 43).toInt.toNat = p + 1 := by omega
        have fX : askF S X n := ⟨fun k hk => by rw [s1]; exact (fR n).1 k hk, fun k hk => by rw [s2 k (by omega)]; exact (fR n).2.1 k hk, s3.trans (fR n).2.2.1, fun j hj => (s6 j hj).trans ((fR n).2.2.2 j hj)⟩
        have rows : ∀ k, k = 63 ∨ k = 64 ∨ k = 65 → X.2.1 k = R.2.1 k := fun k hk => s2 k (by omega)
        obtain ⟨S', hz', q1, q2, q3, q4, q5⟩ := ask_E W hm g (e - 1) n X z (by omega) (by omega) (by omega) (by rw [fX.2.1 36 (by omega)]; exact r36) (by rw [fX.2.1 37 (by omega)]; exact r37) (by rw [fX.2.1 38 (by omega)]; exact r38) (by rw [s4]; exact ofN_i (by omega) (by omega)) (by rw [s5]; exact Or.inr ⟨p, by omega, Or.inl rfl⟩) (by omega) (by omega) hz
        refine ⟨S', hz', fX.tr q1 (Nat.le_refl _), by omega, fun t => ?_, fun t => q4 (by omega), by omega⟩
        obtain ⟨u1, u2, u3⟩ := q3 (by omega)
        rw [Xn] at u2 u3
        rw [s5] at u3
        obtain ⟨v1, v2, v3, v4, v5⟩ := u3 p (by omega)
        have io := uc_inj (v := p) (v' := p) (by omega) (by omega)
        refine ⟨by omega, ?_, ?_⟩
        · rw [eP]
          refine ⟨by rw [v1, rows 63 (by omega)]; exact r5, fun t => ?_, fun _ => ⟨v4 rfl, by rw [v3 io.2.2, rows 65 (by omega)]; exact r7, u2⟩, fun t => ?_⟩
          · rw [y] at t; exact absurd t (by decide)
          · rcases t with t | t <;> (rw [y] at t; exact absurd t (by decide))
        · rw [eP]
          intro j hj
          obtain ⟨a1, a2, a3, a4, a5⟩ := u3 j (by omega)
          have ij := uc_inj (v := p) (v' := j) (by omega) (by omega)
          have n1 : ¬ 2 * Int32.ofNat p = 2 * Int32.ofNat j := fun t => by have := ij.1 t; omega
          rw [a1, a2 n1, a3 ij.2.2, rows 63 (by omega), rows 64 (by omega), rows 65 (by omega)]
          exact kR j hj
      · obtain ⟨w1, w2, w3, w4, w5⟩ : 2 ≤ e ∧ (ps e).toInt = (e : Int) - 1 ∧ (pf e).toInt = (e : Int) - 1 - (xx (e - 1)).toInt ∧ 0 ≤ (pf e).toInt ∧ (xx e).toInt = 1 + (xx (pf e).toInt.toNat).toInt + (xx (e - 1)).toInt := by
          rcases (W e he).2 with ⟨t, -⟩ | ⟨t, -⟩ | ⟨-, t1, t2, t3, t4, t5⟩
          · rcases y with y | y <;> (rw [y] at t; exact absurd t (by decide))
          · rcases y with y | y <;> (rw [y] at t; exact absurd t (by decide))
          · exact ⟨t1, t2, t3, t4, t5⟩
        have wl := (W (e - 1) (by omega)).1
        have wf := (W (pf e).toInt.toNat (by omega)).1
        obtain ⟨s1, s2, s3, s4, s5, s6⟩ := puS_f (S := R) (n := n) (a := ps e) (b := 2 * Int32.ofNat p + 1)
        generalize eX : puS R n (ps e) (2 * Int32.ofNat p + 1) = X at *
        obtain ⟨o1, o2, o3, o4, o5, o6⟩ := puS_f (S := X) (n := n + 1) (a := pf e) (b := 2 * Int32.ofNat p)
        generalize eY : puS X (n + 1) (pf e) (2 * Int32.ofNat p) = Y at *
        have Y43 : (Y.1 43).toInt = (p : Int) + 1 := by rw [o1, s1]; exact R43
        have Yn : (Y.1 43).toInt.toNat = p + 1 := by omega
        have fY : askF S Y n := ⟨fun k hk => by rw [o1, s1]; exact (fR n).1 k hk, fun k hk => by rw [o2 k (by omega), s2 k (by omega)]; exact (fR n).2.1 k hk, o3.trans (s3.trans (fR n).2.2.1), fun j hj => (o6 j (by omega)).trans ((s6 j hj).trans ((fR n).2.2.2 j hj))⟩
        have rows : ∀ k, k = 63 ∨ k = 64 ∨ k = 65 → Y.2.1 k = R.2.1 k := fun k hk => (o2 k (by omega)).trans (s2 k (by omega))
        have pe : pf e = Int32.ofNat (pf e).toInt.toNat := ofN_i (by omega) (by omega)
        obtain ⟨S2, hz2, q1, q2, q3, q4, q5⟩ := ask_E W hm g (pf e).toInt.toNat (n + 1) Y z (by omega) (by omega) (by omega) (by rw [fY.2.1 36 (by omega)]; exact r36) (by rw [fY.2.1 37 (by omega)]; exact r37) (by rw [fY.2.1 38 (by omega)]; exact r38) (by rw [o4]; exact pe) (by rw [o5]; exact Or.inr ⟨p, by omega, Or.inl rfl⟩) (by omega) (by omega) hz
        have e2n : S2.2.1 99 (2 * n) = ps e := (q1.2.2.2 (2 * n) (by omega)).trans ((o6 (2 * n) (by omega)).trans s4)
        have e2n1 : S2.2.1 99 (2 * n + 1) = 2 * Int32.ofNat p + 1 := (q1.2.2.2 (2 * n + 1) (by omega)).trans ((o6 (2 * n + 1) (by omega)).trans s5)
        have g36 : S2.2.1 36 = pk := by rw [q1.2.1 36 (by omega), fY.2.1 36 (by omega)]; exact r36
        have g37 : S2.2.1 37 = pf := by rw [q1.2.1 37 (by omega), fY.2.1 37 (by omega)]; exact r37
        have g38 : S2.2.1 38 = ps := by rw [q1.2.1 38 (by omega), fY.2.1 38 (by omega)]; exact r38
        obtain ⟨S3, hz3, h1, h2, h3, h4, h5⟩ := ask_E W hm g (e - 1) n S2 z (by omega) (by omega) (by omega) g36 g37 g38 (by rw [e2n]; exact ofN_i (by omega) (by omega)) (by rw [e2n1]; exact Or.inr ⟨p, by omega, Or.inr rfl⟩) (by omega) (by omega) hz2
        refine ⟨S3, hz3, ((fY.tr (q1.dn (n := n) (by omega)) (Nat.le_refl _)).tr h1 (Nat.le_refl _)), by omega, fun t => ?_, fun t => ?_, by omega⟩
        · obtain ⟨u1, u2, u3⟩ := q3 (by omega)
          obtain ⟨x1, x2', x3⟩ := h3 (by omega)
          have n2 : (S2.1 43).toInt.toNat = p + 1 + (xx (pf e).toInt.toNat).toInt.toNat := by omega
          rw [Yn] at u2 u3
          rw [o5] at u3
          rw [n2] at x2' x3
          rw [e2n1] at x3
          obtain ⟨v1, v2, v3, v4, v5⟩ := u3 p (by omega)
          obtain ⟨y1, y2, y3, y4, y5⟩ := x3 p (by omega)
          have io := uc_inj (v := p) (v' := p) (by omega) (by omega)
          refine ⟨by omega, ?_, ?_⟩
          · rw [eP]
            refine ⟨by rw [y1, v1, rows 63 (by omega)]; exact r5, fun t => ?_, fun t => ?_, fun _ => ⟨?_, y5 rfl, ?_, x2'⟩⟩
            · rcases y with y | y <;> (rw [y] at t; exact absurd t (by decide))
            · rcases y with y | y <;> (rw [y] at t; exact absurd t (by decide))
            · rw [y2 (fun t => io.2.2 t.symm)]
              exact v4 rfl
            · refine PPr_ext W g _ (p + 1) (by omega) (by omega) (fun j j1 j2 => ?_) u2
              obtain ⟨a1, a2, a3, -, -⟩ := x3 j (by omega)
              have ij := uc_inj (v := p) (v' := j) (by omega) (by omega)
              have ij' := uc_inj (v := j) (v' := p) (by omega) (by omega)
              exact ⟨a1, a2 (fun t => ij'.2.2 t.symm), a3 (fun t => by have := ij.2.1 t; omega)⟩
          · rw [eP]
            intro j hj
            obtain ⟨a1, a2, a3, -, -⟩ := x3 j (by omega)
            obtain ⟨b1, b2, b3, -, -⟩ := u3 j (by omega)
            have ij := uc_inj (v := p) (v' := j) (by omega) (by omega)
            have ij' := uc_inj (v := j) (v' := p) (by omega) (by omega)
            rw [a1, a2 (fun t => ij'.2.2 t.symm), a3 (fun t => by have := ij.2.1 t; omega), b1, b2 (fun t => by have := ij.1 t; omega), b3 ij.2.2, rows 63 (by omega), rows 64 (by omega), rows 65 (by omega)]
            exact kR j hj
        · by_cases c : 1000 < (S2.1 43).toInt + (xx (e - 1)).toInt
          · exact h4 c
          · exfalso
            by_cases c2 : (Y.1 43).toInt + (xx (pf e).toInt.toNat).toInt ≤ 1000
            · have := (q3 c2).1
              omega
            · have := q4 (by omega)
              omega
end ASW
