/-! restart and stand: the class beside the reference -/
section STD
variable {G : hg_E} {S S1 : hg_S} {M : md_S} {T : tT} {t0 u n ps sg io pa o t : Nat} {R : Nat → Nat → Int32} {c : Nat → Int32} {X : Nat → Nat → Int32} {cn : Nat → Int32} {hf sf : Nat → Int32} {nn f st en rn ex la x1 : Int32} {ta tn : Value}
/-- an array of numbers is filled -/
theorem fl_g {Sx : hg_S} {fs : List Value} (ho : o < u) (h : enH G S1 Sx o u io pa fs hf sf) (hio : io ≤ 62) {v : Int32} : dc_wp (hm_JA_fill G Sx (some (u + 31)) v) (fun S' => enH G S1 S' o u io pa fs hf (fun p => if p < io then v else sf p)) := by
  delta hm_JA_fill
  refine wq_ln h.2.2.2.2 ?_
  delta hm_JA_fill_L5
  have tl : (Int32.ofNat io).toInt = (io : Int) := Int32.toInt_ofNat_of_lt (by omega)
  have key := dc_itK (step := hm_JA_fill_s5 G (some (u + 31)) v (Int32.ofNat io)) (fun d (y : hg_S × Int32) => ∃ j, y.2 = Int32.ofNat j ∧ j ≤ io ∧ d = io - j ∧ enH G S1 y.1 o u io pa fs hf (fun p => if p < j then v else sf p)) (F := fun S' => enH G S1 S' o u io pa fs hf (fun p => if p < io then v else sf p)) (by
    rintro d ⟨Y, y⟩ ⟨j, ev, j1, ed, g⟩
    have ev' : y = Int32.ofNat j := ev
    have g' : enH G S1 Y o u io pa fs hf (fun p => if p < j then v else sf p) := g
    have tj : (Int32.ofNat j).toInt = (j : Int) := Int32.toInt_ofNat_of_lt (by omega)
    have tjn : (Int32.ofNat j).toInt.toNat = j := by omega
    show dc_wp (hm_JA_fill_b5 G Y (some (u + 31)) v y (Int32.ofNat io)) _
    rw [ev']
    delta hm_JA_fill_b5
    refine wq_if (fun c => ?_) (fun c => ?_)
    · have c := i_lt.mp c
      rw [tj, tl] at c
      refine wq_st g'.2.2.2.2 (by omega) (by omega) ?_
      rw [tjn]
      refine ⟨_, rfl, io - (j + 1), by omega, j + 1, ad_m (by omega), by omega, rfl, ?_⟩
      have e : upd (fun p => if p < j then v else sf p) j v = (fun p => if p < j + 1 then v else sf p) := by
        funext p
        by_cases ep : p = j
        · subst ep
          rw [upd_s, if_pos (by omega)]
        · rw [upd_n ep]
          by_cases c1 : p < j
          · rw [if_pos c1, if_pos (by omega)]
          · rw [if_neg c1, if_neg (by omega)]
      rw [e]
      exact enH_s ho g'
    · have c : ¬ (Int32.ofNat j).toInt < (Int32.ofNat io).toInt := fun z => c (i_lt.mpr z)
      rw [tj, tl] at c
      have ej : j = io := by omega
      rw [ej] at g'
      exact ⟨_, rfl, g'⟩)
  refine wq_call (key io (Sx, 0) ⟨0, rfl, Nat.zero_le _, rfl, ?_⟩) ?_
  · have e : (fun p => if p < 0 then v else sf p) = sf := by
      funext p
      rw [if_neg (by omega)]
    rw [e]
    exact h
  · intro S' g
    delta hm_JA_fill_L20
    exact ⟨_, rfl, g⟩
/-- the bit of a state -/
def stB (x : Int32) (y : Int32) (p : Nat) : Int32 := if y = 0 then 0 else if inB x p = 0 then 0 else 1
theorem sta_w {y : Int32} (hy : y = 0 ∨ y = 1) (ho : o < u) (h : enH G S1 S o u io pa (enL t nn f (.ref u) (.ref (u + 18)) (.ref (u + 30)) (.ref (u + 31)) st en rn ta tn ex la) hf sf) (hio : io ≤ 62) (hpa : pa ≤ 200) (hx : (x1 = 256 ∧ y = 0) ∨ (¬ x1 = 256 ∧ y = 1)) : dc_wp (hm_SE_stand G S o x1) (fun S' => ∃ hf', enH G S1 S' o u io pa (enL t nn f (.ref u) (.ref (u + 18)) (.ref (u + 30)) (.ref (u + 31)) y 0 0 ta tn ex la) hf' (fun p => if p < io then 0 else sf p) ∧ ∀ p, p < pa → hf' p = stB x1 y p) := by
  have e0 : hm_SE_stand G S o x1 = hm_SE_stand_L13 G S o x1 y := by
    delta hm_SE_stand
    rcases hx with ⟨a1, a2⟩ | ⟨a1, a2⟩
    · rw [if_pos a1, a2]
    · rw [if_neg a1, a2]
  rw [e0]
  delta hm_SE_stand_L13
  refine zb_s hy ?_
  refine wq_pfT (fs' := enL t nn f (.ref u) (.ref (u + 18)) (.ref (u + 30)) (.ref (u + 31)) y en rn ta tn ex la) h.2.1 (Nat.le_of_ble_eq_true rfl) rfl (fun S8 e8 => ?_)
  have h8 : enH G S1 S8 o u io pa (enL t nn f (.ref u) (.ref (u + 18)) (.ref (u + 30)) (.ref (u + 31)) y en rn ta tn ex la) hf sf := by rw [← e8]; exact enH_f ho h
  refine wq_pfT (fs' := enL t nn f (.ref u) (.ref (u + 18)) (.ref (u + 30)) (.ref (u + 31)) y 0 rn ta tn ex la) h8.2.1 (Nat.le_of_ble_eq_true rfl) rfl (fun S9 e9 => ?_)
  have h9 : enH G S1 S9 o u io pa (enL t nn f (.ref u) (.ref (u + 18)) (.ref (u + 30)) (.ref (u + 31)) y 0 rn ta tn ex la) hf sf := by rw [← e9]; exact enH_f ho h8
  refine wq_pfT (fs' := enL t nn f (.ref u) (.ref (u + 18)) (.ref (u + 30)) (.ref (u + 31)) y 0 0 ta tn ex la) h9.2.1 (Nat.le_of_ble_eq_true rfl) rfl (fun S10 e10 => ?_)
  have h10 : enH G S1 S10 o u io pa (enL t nn f (.ref u) (.ref (u + 18)) (.ref (u + 30)) (.ref (u + 31)) y 0 0 ta tn ex la) hf sf := by rw [← e10]; exact enH_f ho h9
  refine wq_gr (x := some (u + 31)) h10.2.1 rfl ?_
  refine wq_call (fl_g (v := 0) ho h10 hio) (fun S12 h12 => ?_)
  delta hm_SE_stand_L36
  have tp : (Int32.ofNat pa).toInt = (pa : Int) := Int32.toInt_ofNat_of_lt (by omega)
  have key := dc_itK (step := hm_SE_stand_s36 G o x1) (fun d (z : hg_S × Int32) => ∃ j, z.2 = Int32.ofNat j ∧ j ≤ pa ∧ d = pa - j ∧ ∃ hf', enH G S1 z.1 o u io pa (enL t nn f (.ref u) (.ref (u + 18)) (.ref (u + 30)) (.ref (u + 31)) y 0 0 ta tn ex la) hf' (fun p => if p < io then 0 else sf p) ∧ ∀ p, p < j → hf' p = stB x1 y p) (F := fun S' => ∃ hf', enH G S1 S' o u io pa (enL t nn f (.ref u) (.ref (u + 18)) (.ref (u + 30)) (.ref (u + 31)) y 0 0 ta tn ex la) hf' (fun p => if p < io then 0 else sf p) ∧ ∀ p, p < pa → hf' p = stB x1 y p) (by
    rintro d ⟨Y, z⟩ ⟨j, ev, j1, ed, hf', g, hb⟩
    have ev' : z = Int32.ofNat j := ev
    have g' : enH G S1 Y o u io pa (enL t nn f (.ref u) (.ref (u + 18)) (.ref (u + 30)) (.ref (u + 31)) y 0 0 ta tn ex la) hf' (fun p => if p < io then 0 else sf p) := g
    have tj : (Int32.ofNat j).toInt = (j : Int) := Int32.toInt_ofNat_of_lt (by omega)
    have tjn : (Int32.ofNat j).toInt.toNat = j := by omega
    show dc_wp (hm_SE_stand_b36 G Y o x1 z) _
    rw [ev']
    delta hm_SE_stand_b36
    refine wq_gr (x := some (u + 30)) g'.2.1 rfl ?_
    refine wq_ln g'.2.2.2.1 ?_
    refine wq_if (fun c => ?_) (fun c => ?_)
    · have c := i_lt.mp c
      rw [tj, tp] at c
      have last : ∀ v : Int32, (v = 0 ∨ v = 1) → v = stB x1 y j → dc_wp (hm_SE_stand_L70 G Y o x1 (Int32.ofNat j) v (Int32.ofNat j) (some (u + 30))) (Sum.elim (fun z => ∃ k', k' < d ∧ ∃ j, z.2 = Int32.ofNat j ∧ j ≤ pa ∧ k' = pa - j ∧ ∃ hf', enH G S1 z.1 o u io pa (enL t nn f (.ref u) (.ref (u + 18)) (.ref (u + 30)) (.ref (u + 31)) y 0 0 ta tn ex la) hf' (fun p => if p < io then 0 else sf p) ∧ ∀ p, p < j → hf' p = stB x1 y p) (fun S' => ∃ hf', enH G S1 S' o u io pa (enL t nn f (.ref u) (.ref (u + 18)) (.ref (u + 30)) (.ref (u + 31)) y 0 0 ta tn ex la) hf' (fun p => if p < io then 0 else sf p) ∧ ∀ p, p < pa → hf' p = stB x1 y p)) := by
        intro v v1 v2
        delta hm_SE_stand_L70
        refine zb_s v1 ?_
        refine wq_st g'.2.2.2.1 (by omega) (by omega) ?_
        rw [tjn]
        refine ⟨_, rfl, pa - (j + 1), by omega, j + 1, ad_m (by omega), by omega, rfl, _, enH_h ho g', fun p hp => ?_⟩
        by_cases ep : p = j
        · subst ep
          rw [upd_s]; exact v2
        · rw [upd_n ep]
          exact hb p (by omega)
      refine wq_gr (x := some (u + 30)) g'.2.1 rfl ?_
      refine wq_gi (x := y) g'.2.1 rfl ?_
      refine wq_if (fun c1 => ?_) (fun c1 => ?_)
      · delta hm_SE_stand_L69
        exact last 0 (Or.inl rfl) (by unfold stB; rw [if_pos c1])
      · refine wq_if (fun c2 => ?_) (fun c2 => ?_)
        · delta hm_SE_stand_L69
          have c2 : inB x1 j = 0 := c2
          exact last 0 (Or.inl rfl) (by unfold stB; rw [if_neg c1, if_pos c2])
        · have c2 : ¬ inB x1 j = 0 := c2
          exact last 1 (Or.inr rfl) (by unfold stB; rw [if_neg c1, if_neg c2])
    · have c : ¬ (Int32.ofNat j).toInt < (Int32.ofNat pa).toInt := fun z => c (i_lt.mpr z)
      rw [tj, tp] at c
      have ej : j = pa := by omega
      rw [ej] at hb
      exact ⟨_, rfl, hf', g', hb⟩)
  refine wq_call (key pa (S12, 0) ⟨0, rfl, Nat.zero_le _, rfl, hf, h12, fun p hp => absurd hp (by omega)⟩) ?_
  intro S' h
  delta hm_SE_stand_L77
  exact ⟨_, rfl, h⟩
/-- rest -/
theorem rest_r {S r : md_S} (hq : mm_rest S = some r) : (∀ i, ¬ i = 83 → r.1 i = S.1 i) ∧ r.1 83 = 0 ∧ (∀ i, ¬ i = 84 → r.2.1 i = S.2.1 i) ∧ ∀ i, i < 62 → r.2.1 84 i = 0 := by
  have key : dc_pw (mm_rest S) (fun r => (∀ i, ¬ i = 83 → r.1 i = S.1 i) ∧ r.1 83 = 0 ∧ (∀ i, ¬ i = 84 → r.2.1 i = S.2.1 i) ∧ ∀ i, i < 62 → r.2.1 84 i = 0) := by
    delta mm_rest mm_rest_L7 dc_let
    dsimp only
    refine pw_loop (fun (y : md_S × Int32) => ∃ k, y.2 = Int32.ofNat k ∧ k ≤ 62 ∧ y.1.1 = (md_i S 83 0).1 ∧ (∀ i, ¬ i = 84 → y.1.2.1 i = S.2.1 i) ∧ ∀ i, i < k → y.1.2.1 84 i = 0) (fun Z => Z.1 = (md_i S 83 0).1 ∧ (∀ i, ¬ i = 84 → Z.2.1 i = S.2.1 i) ∧ ∀ i, i < 62 → Z.2.1 84 i = 0) ⟨0, rfl, by omega, rfl, fun _ _ => rfl, fun i hi => absurd hi (by omega)⟩ ?_ (fun Z hZ r hr => ?_)
    · rintro ⟨Y, v⟩ ⟨k, ev, k1, f1, f2, f3⟩
      have ev : v = Int32.ofNat k := ev
      have f1 : Y.1 = (md_i S 83 0).1 := f1
      have f2 : ∀ i, ¬ i = 84 → Y.2.1 i = S.2.1 i := f2
      have f3 : ∀ i, i < k → Y.2.1 84 i = 0 := f3
      subst ev
      have tk : (Int32.ofNat k).toInt = (k : Int) := Int32.toInt_ofNat_of_lt (by omega)
      have tkn : (Int32.ofNat k).toInt.toNat = k := by omega
      have t62 : (62 : Int32).toInt = 62 := by decide
      show dc_pw (mm_rest_b7 Y (Int32.ofNat k)) _
      delta mm_rest_b7
      refine pw_ifc (fun c => ?_) (fun c => ?_)
      · have c := i_lt.mp c
        rw [tk, t62] at c
        refine pw_ix (fun _ _ => ?_)
        rw [tkn]
        refine pw_some ⟨k + 1, ad_m (by omega), by omega, f1, fun i hi => by show (md_a Y 84 k 0).2.1 i = _; rw [md_a2, if_neg hi]; exact f2 i hi, fun i hi => ?_⟩
        show (md_a Y 84 k 0).2.1 84 i = _
        rw [md_a2, if_pos rfl]
        by_cases e : i = k
        · subst e
          rw [upd_s]
        · rw [upd_n e]
          exact f3 i (by omega)
      · have c : ¬ (Int32.ofNat k).toInt < (62 : Int32).toInt := fun z => c (i_lt.mpr z)
        rw [tk, t62] at c
        have : k = 62 := by omega
        subst this
        exact pw_some ⟨f1, f2, f3⟩
    · have hr : some Z = some r := hr
      rw [← Option.some.inj hr]
      exact ⟨fun i hi => by rw [hZ.1, md_i1, if_neg hi], by rw [hZ.1, md_i1, if_pos rfl], hZ.2.1, hZ.2.2⟩
  exact key r hq
end STD
