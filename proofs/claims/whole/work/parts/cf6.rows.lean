/-! the class's program: its rows told of the tree -/
def rowC (c1 c2 : Nat → Option Nat) (F : Nat → Nat → Int32) (R : Nat → Nat → Int32) (i : Nat) : Prop :=
  R 0 (F i 8).toInt.toNat = F i 0 ∧ R 1 (F i 8).toInt.toNat = plN F (c1 i) ∧ R 2 (F i 8).toInt.toNat = plN F (c2 i) ∧ R 3 (F i 8).toInt.toNat = F i 9 ∧ R 4 (F i 8).toInt.toNat = F i 4 ∧ R 5 (F i 8).toInt.toNat = F i 12 ∧ R 6 (F i 8).toInt.toNat = F i 1 ∧ R 7 (F i 8).toInt.toNat = F i 11 ∧ R 10 (F i 8).toInt.toNat = F i 6
theorem ad_m {m : Nat} (hm : m ≤ 1000000) : Int32.ofNat m + 1 = Int32.ofNat (m + 1) := by
  rw [i_eq, i_addS (by rw [Int32.toInt_ofNat_of_lt (by omega), il_1]; omega), Int32.toInt_ofNat_of_lt (by omega), il_1, Int32.toInt_ofNat_of_lt (by omega)]
  omega
section CYL
variable {G : hg_E} {S0 S : hg_S} {o pc dp : Nat} {a N : Nat → Nat} {R : Nat → Nat → Int32} {made : Int32} {P : Nat → Nat} {c1 c2 : Nat → Option Nat} {F : Nat → Nat → Int32} {m a5 a7 xc : Nat} {xx : Nat → Int32} {D : Nat → Int32}
theorem cyl_w (d : DV G S0 a5 dp a7 P m c1 c2 (a 20) xc xx F D) (v : GV G S0 S o pc dp a N R made) (hx : R 20 = xx) (no : o ≠ pc) (n5 : a5 ≠ pc) (n7 : a7 ≠ pc) (nP : ∀ i, i < m → P i ≠ pc) (hM : ∀ i, i < 11 → N i = m) (hp : ∀ i, i < m → 0 ≤ (F i 8).toInt ∧ (F i 8).toInt < (m : Int)) (hj : ∀ i i', i < m → i' < m → (F i 8).toInt = (F i' 8).toInt → i = i') : dc_wp (dc_it (hm_PG_init_s158 G o (some a5) (Int32.ofNat m) (some (a 10))) (S, 0)) (fun S' => ∃ R', GV G S0 S' o pc dp a N R' made ∧ (∀ k, ¬ (k < 8 ∨ k = 10) → R' k = R k) ∧ ∀ i, i < m → rowC c1 c2 F R' i) := by
  have hm := d.1.2
  refine dc_itK (I := fun k (q : hg_S × Int32) => ∃ n R', k = m - n ∧ n ≤ m ∧ q.2 = Int32.ofNat n ∧ GV G S0 q.1 o pc dp a N R' made ∧ (∀ k, ¬ (k < 8 ∨ k = 10) → R' k = R k) ∧ ∀ i, i < n → rowC c1 c2 F R' i) ?_ m _ ⟨0, R, rfl, Nat.zero_le _, rfl, v, fun _ _ => rfl, fun i hi => by omega⟩
  rintro k ⟨S1, x5⟩ ⟨n, R1, ek, hn, e5, v1, i1, i2⟩
  have e5 : x5 = Int32.ofNat n := e5
  have v1 : GV G S0 S1 o pc dp a N R1 made := v1
  subst e5
  have tn : (Int32.ofNat n).toInt = (n : Int) := Int32.toInt_ofNat_of_lt (by omega)
  have tm : (Int32.ofNat m).toInt = (m : Int) := Int32.toInt_ofNat_of_lt (by omega)
  show dc_wp (hm_PG_init_b158 G S1 o (some a5) (Int32.ofNat m) (some (a 10)) (Int32.ofNat n)) _
  delta hm_PG_init_b158
  refine wq_if (fun c => ?_) (fun c => ?_)
  · have c := i_lt.mp c
    rw [tn, tm] at c
    have hn' : n < m := by omega
    have d1 : DV G S1 a5 dp a7 P m c1 c2 (a 20) xc xx F D := GV_DV d v1 (by rw [i1 20 (by omega)]; exact hx) n5 n7 nP
    refine wq_gr (x := some a7) d1.2.1 rfl ?_
    obtain ⟨ee, md, cap, el, w6, -⟩ := d1.2.2.2.2.1
    refine wq_chk w6 ?_
    refine wn_get d1 hn' ?_
    refine wq_chk (d1.nd hn') ?_
    refine wg_ok v1 no ?_
    have hpn := hp n hn'
    refine wq_call (cy_w v1 no (fun j hj => ⟨d.nd hj, nP j hj⟩) hn' (fun c hc => by have := d.ch hn' (Or.inl hc); omega) (fun c hc => by have := d.ch hn' (Or.inr hc); omega) (p := (F n 8).toInt.toNat) (by omega) (fun k hk => by rw [hM k hk]; omega)) ?_
    rintro S2 ⟨R2, v2, y0, q0, q1, q2, q3, q4, q5, q6, q7⟩
    refine wq_gi (x := F n 8) (v2.ob (d.nd hn') (nP n hn')) rfl ?_
    refine wq_gi (x := F n 6) (v2.ob (d.nd hn') (nP n hn')) rfl ?_
    refine wg_st v2 (i := 10) (by omega) (by omega) (by rw [hM 10 (by omega)]; omega) (fun S3 v3 => ?_)
    refine ⟨_, rfl, m - (n + 1), by omega, n + 1, _, rfl, by omega, ad_m (by omega), v3, fun k hk => ?_, fun i hi => ?_⟩
    · rw [fU_r (by omega), y0 k (by omega)]
      exact i1 k hk
    · unfold rowC
      rw [fU_r (show ¬ 0 = 10 by omega), fU_r (show ¬ 1 = 10 by omega), fU_r (show ¬ 2 = 10 by omega), fU_r (show ¬ 3 = 10 by omega), fU_r (show ¬ 4 = 10 by omega), fU_r (show ¬ 5 = 10 by omega), fU_r (show ¬ 6 = 10 by omega), fU_r (show ¬ 7 = 10 by omega), fU_ru, q0, q1, q2, q3, q4, q5, q6, q7, y0 10 (by omega)]
      by_cases ei : i = n
      · subst ei
        rw [upd_s, upd_s, upd_s, upd_s, upd_s, upd_s, upd_s, upd_s, upd_s]
        exact ⟨rfl, rfl, rfl, rfl, rfl, rfl, rfl, rfl, rfl⟩
      · have hpi := hp i (by omega)
        have ne : ¬ (F i 8).toInt.toNat = (F n 8).toInt.toNat := fun t => ei (hj i n (by omega) hn' (by omega))
        rw [upd_n ne, upd_n ne, upd_n ne, upd_n ne, upd_n ne, upd_n ne, upd_n ne, upd_n ne, upd_n ne]
        exact i2 i (by omega)
  · have c : ¬ (n : Int) < (m : Int) := fun t => c (i_lt.mpr (by rw [tn, tm]; exact t))
    have en : n = m := by omega
    subst en
    exact ⟨_, rfl, R1, v1, i1, i2⟩
end CYL
