/-! the class's program: numbers given -/
def gPa (kd : Nat → Int32) : Nat → Nat
  | 0 => 0
  | n + 1 => gPa kd n + if kd n = 1 then 1 else 0
def gEx (ts xx : Nat → Int32) : Nat → Nat
  | 0 => 0
  | n + 1 => gEx ts xx n + if ts n = -1 then 0 else (xx (ts n).toInt.toNat).toInt.toNat
theorem gPa_le {kd : Nat → Int32} : ∀ n, gPa kd n ≤ n
  | 0 => Nat.le_refl _
  | n + 1 => by
    have := gPa_le (kd := kd) n
    show gPa kd n + (if kd n = 1 then 1 else 0) ≤ n + 1
    split <;> omega
theorem gEx_m {ts xx : Nat → Int32} {n : Nat} : ∀ k, gEx ts xx n ≤ gEx ts xx (n + k)
  | 0 => Nat.le_refl _
  | k + 1 => Nat.le_trans (gEx_m k) (Nat.le_add_right _ _)
theorem gEx_le {ts xx : Nat → Int32} {n k : Nat} (h : n ≤ k) : gEx ts xx n ≤ gEx ts xx k := by
  have := gEx_m (ts := ts) (xx := xx) (n := n) (k - n)
  rw [show n + (k - n) = k by omega] at this
  exact this
def numF (kd ts xx nb : Nat → Int32) (j : Nat) : Int32 := if ts j = -1 then (if kd j = 1 then Int32.ofNat (gPa kd j) else nb j) else Int32.ofNat (gEx ts xx j)
section GN
variable {G : hg_E} {S0 : hg_S} {o pc dp : Nat} {a N : Nat → Nat} {names : Int32} {kk ff ss xx : Nat → Int32} {m L M : Nat}
/-- how far the numbers are given -/
def gnI (kk ff xx : Nat → Int32) (R R' : Nat → Nat → Int32) (n : Nat) : Prop :=
  (∀ i, ¬ (i = 4 ∨ i = 8 ∨ (11 ≤ i ∧ i ≤ 14) ∨ i = 16) → R' i = R i) ∧ (∀ j, j < n → R' 8 j = Int32.ofNat (gPa (R 0) j) ∧ R' 4 j = numF (R 0) (R 10) xx (R 4) j ∧ (¬ R 10 j = -1 → PPr (cR R') kk ff xx (xx (R 10 j).toInt.toNat).toInt.toNat (R 10 j).toInt.toNat (gEx (R 10) xx j) ∧ R' 14 (gEx (R 10) xx j) = xx (R 10 j).toInt.toNat)) ∧ ∀ j, n ≤ j → R' 4 j = R 4 j
theorem gn_w (W : pcW names kk ff ss xx m) (hN : ∀ i, 16 ≤ i → i < 21 → m ≤ N i) (hL : ∀ i, 11 ≤ i → i < 15 → L ≤ N i) (hb : L ≤ 4000) (hm : m ≤ 50000) (hM : ∀ i, i < 11 → N i = M) (hM0 : M ≤ 5000) (no : o ≠ pc) {S : hg_S} {R : Nat → Nat → Int32} (v : GV G S0 S o pc dp a N R 0) (hr : R 17 = kk ∧ R 18 = ff ∧ R 19 = ss ∧ R 20 = xx) (ht : ∀ j, j < M → R 10 j = -1 ∨ (0 ≤ (R 10 j).toInt ∧ (R 10 j).toInt < (m : Int))) (hE : gEx (R 10) xx M ≤ L) : dc_wp (hm_PG_giveNumbers G S o (some (a 10)) (some dp)) (fun S' => ∃ R', GV G S0 S' o pc dp a N R' (Int32.ofNat (gEx (R 10) xx M)) ∧ gnI kk ff xx R R' M) := by
  obtain ⟨r17, r18, r19, r20⟩ := hr
  have N0 := hM 0 (by omega)
  have N4 := hM 4 (by omega)
  have N8 := hM 8 (by omega)
  have N10 := hM 10 (by omega)
  delta hm_PG_giveNumbers hm_PG_giveNumbers_L5
  refine wq_call (P := fun S' => ∃ R', GV G S0 S' o pc dp a N R' (Int32.ofNat (gEx (R 10) xx M)) ∧ gnI kk ff xx R R' M) ?_ (fun S' h => ⟨S', rfl, h⟩)
  refine dc_itK (I := fun k (q : hg_S × Int32 × Int32) => ∃ n R', k = M - n ∧ n ≤ M ∧ q.2.2 = Int32.ofNat n ∧ q.2.1 = Int32.ofNat (gPa (R 0) n) ∧ GV G S0 q.1 o pc dp a N R' (Int32.ofNat (gEx (R 10) xx n)) ∧ gnI kk ff xx R R' n) ?_ M _ ⟨0, R, rfl, Nat.zero_le _, rfl, rfl, v, fun _ _ => rfl, fun j hj => by omega, fun _ _ => rfl⟩
  rintro k ⟨S1, x3, x4⟩ ⟨n, R1, ek, hn, e4, e3, v1, i1, i2, i3⟩
  have e4 : x4 = Int32.ofNat n := e4
  have e3 : x3 = Int32.ofNat (gPa (R 0) n) := e3
  have v1 : GV G S0 S1 o pc dp a N R1 (Int32.ofNat (gEx (R 10) xx n)) := v1
  show dc_wp (hm_PG_giveNumbers_b5 G S1 o (some (a 10)) (some dp) x3 x4) _
  subst e4
  subst e3
  have tn : (Int32.ofNat n).toInt = (n : Int) := Int32.toInt_ofNat_of_lt (by omega)
  have tnn : (Int32.ofNat n).toInt.toNat = n := by omega
  have gp := gPa_le (kd := R 0) n
  delta hm_PG_giveNumbers_b5
  refine wg_pg v1 no (i := 0) (by omega) rfl ?_
  refine wg_ln v1 (i := 0) (by omega) ?_
  rw [N0]
  refine wq_if (fun c => ?_) (fun c => ?_)
  · have c := i_lt.mp c
    rw [tn, Int32.toInt_ofNat_of_lt (by omega)] at c
    have ge : gEx (R 10) xx (n + 1) ≤ gEx (R 10) xx M := gEx_le (by omega)
    have ge1 : gEx (R 10) xx (n + 1) = gEx (R 10) xx n + if R 10 n = -1 then 0 else (xx (R 10 n).toInt.toNat).toInt.toNat := rfl
    have gp1 : gPa (R 0) (n + 1) = gPa (R 0) n + if R 0 n = 1 then 1 else 0 := rfl
    refine wg_pg v1 no (i := 8) (by omega) rfl ?_
    refine wg_st v1 (i := 8) (by omega) (by omega) (by rw [tn, N8]; omega) (fun S2 v2 => ?_)
    rw [tnn] at v2
    refine wg_pg v2 no (i := 0) (by omega) rfl ?_
    refine wg_ld v2 (i := 0) (by omega) (by omega) (by rw [tn, N0]; omega) ?_
    rw [tnn, show fU R1 8 n (Int32.ofNat (gPa (R 0) n)) 0 n = R 0 n by rw [fU_i (by omega), i1 0 (by omega)]]
    -- behind the pause
    have l45 : ∀ (S3 : hg_S) (R3 : Nat → Nat → Int32), GV G S0 S3 o pc dp a N R3 (Int32.ofNat (gEx (R 10) xx n)) → (∀ i, ¬ (i = 4 ∨ i = 8) → R3 i = R1 i) → R3 8 = upd (R1 8) n (Int32.ofNat (gPa (R 0) n)) → R3 4 = (if R 0 n = 1 then upd (R1 4) n (Int32.ofNat (gPa (R 0) n)) else R1 4) → dc_wp (hm_PG_giveNumbers_L45 G S3 o (some (a 10)) (some dp) (Int32.ofNat (gPa (R 0) (n + 1))) (Int32.ofNat n)) (Sum.elim (fun (y : hg_S × Int32 × Int32) => ∃ k', k' < k ∧ ∃ n R', k' = M - n ∧ n ≤ M ∧ y.2.2 = Int32.ofNat n ∧ y.2.1 = Int32.ofNat (gPa (R 0) n) ∧ GV G S0 y.1 o pc dp a N R' (Int32.ofNat (gEx (R 10) xx n)) ∧ gnI kk ff xx R R' n) (fun S' => ∃ R', GV G S0 S' o pc dp a N R' (Int32.ofNat (gEx (R 10) xx M)) ∧ gnI kk ff xx R R' M)) := by
      intro S3 R3 v3 o3 e8 e4
      have t10 : R3 10 = R 10 := by rw [o3 10 (by omega), i1 10 (by omega)]
      delta hm_PG_giveNumbers_L45
      refine wg_ld v3 (i := 10) (by omega) (by omega) (by rw [tn, N10]; omega) ?_
      rw [tnn, t10]
      refine wq_if (fun d => ?_) (fun d => ?_)
      · rw [if_pos d, Nat.add_zero] at ge1
        refine ⟨_, rfl, M - (n + 1), by omega, n + 1, R3, rfl, by omega, ad_n (by omega), rfl, by rw [ge1]; exact v3, fun i hi => (o3 i (by omega)).trans (i1 i hi), fun j hj => ?_, fun j hj => ?_⟩
        · by_cases ej : j = n
          · subst ej
            refine ⟨by rw [e8, upd_s], ?_, fun t => absurd d t⟩
            unfold numF
            rw [if_pos d, e4]
            by_cases f : R 0 j = 1
            · rw [if_pos f, if_pos f, upd_s]
            · rw [if_neg f, if_neg f]
              exact i3 j (Nat.le_refl _)
          · obtain ⟨u1, u2, u3⟩ := i2 j (by omega)
            refine ⟨by rw [e8, upd_n ej]; exact u1, ?_, fun t => ?_⟩
            · rw [e4]
              by_cases f : R 0 n = 1
              · rw [if_pos f, upd_n ej]; exact u2
              · rw [if_neg f]; exact u2
            · obtain ⟨y1, y2⟩ := u3 t
              refine ⟨PPr_c ?_ ?_ ?_ _ _ _ y1, by rw [o3 14 (by omega)]; exact y2⟩
              · exact congrArg (fun g : Nat → Int32 => fun j => g j) (o3 11 (by omega))
              · exact congrArg (fun g : Nat → Int32 => fun j => g j) (o3 12 (by omega))
              · exact congrArg (fun g : Nat → Int32 => fun j => g j) (o3 13 (by omega))
        · rw [e4]
          by_cases f : R 0 n = 1
          · rw [if_pos f, upd_n (by omega)]; exact i3 j (by omega)
          · rw [if_neg f]; exact i3 j (by omega)
      · rw [if_neg d] at ge1
        have hv := (ht n (by omega)).resolve_left d
        have ee : R 10 n = Int32.ofNat (R 10 n).toInt.toNat := ofN_i (by omega) (by omega)
        refine wg_pg v3 no (i := 4) (by omega) rfl ?_
        refine wg_pp v3 no ?_
        refine wg_ld v3 (i := 10) (by omega) (by omega) (by rw [tn, N10]; omega) ?_
        rw [tnn, t10]
        refine wg_pk v3 ?_
        have wx := (W (R 10 n).toInt.toNat (by omega)).1
        have cw := co_w W hN hL hb hm v3 ⟨(o3 17 (by omega)).trans ((i1 17 (by omega)).trans r17), (o3 18 (by omega)).trans ((i1 18 (by omega)).trans r18), (o3 19 (by omega)).trans ((i1 19 (by omega)).trans r19), (o3 20 (by omega)).trans ((i1 20 (by omega)).trans r20)⟩ (e := (R 10 n).toInt.toNat) (by omega) (by omega)
        rw [← ee] at cw
        refine wq_call cw ?_
        rintro ⟨S4, y⟩ ⟨ey, R4, v4, g1, g2, P4, r14⟩
        have ey : y = Int32.ofNat (gEx (R 10) xx n) := ey
        subst ey
        refine wg_st v4 (i := 4) (by omega) (by omega) (by rw [tn, N4]; omega) (fun S5 v5 => ?_)
        rw [tnn] at v5
        have f11 : ∀ i, 11 ≤ i → i ≤ 14 → fU R4 4 n (Int32.ofNat (gEx (R 10) xx n)) i = R4 i := fun i _ _ => fU_r (by omega)
        have pc5 : ∀ g e k, PPr (cR R4) kk ff xx g e k → PPr (cR (fU R4 4 n (Int32.ofNat (gEx (R 10) xx n)))) kk ff xx g e k := fun g e k h => PPr_c (congrArg (fun g : Nat → Int32 => fun j => g j) (f11 11 (by omega) (by omega))) (congrArg (fun g : Nat → Int32 => fun j => g j) (f11 12 (by omega) (by omega))) (congrArg (fun g : Nat → Int32 => fun j => g j) (f11 13 (by omega) (by omega))) _ _ _ h
        refine ⟨_, rfl, M - (n + 1), by omega, n + 1, _, rfl, by omega, ad_n (by omega), rfl, by rw [ge1]; exact v5, fun i hi => ?_, fun j hj => ?_, fun j hj => ?_⟩
        · rw [fU_r (by omega), g1 i (by omega), o3 i (by omega), i1 i hi]
        · by_cases ej : j = n
          · subst ej
            refine ⟨by rw [fU_r (by omega), g1 8 (by omega), e8, upd_s], ?_, fun _ => ⟨pc5 _ _ _ P4, by rw [fU_i (by omega)]; exact r14⟩⟩
            unfold numF
            rw [if_neg d, fU_s]
          · obtain ⟨u1, u2, u3⟩ := i2 j (by omega)
            refine ⟨by rw [fU_r (by omega), g1 8 (by omega), e8, upd_n ej]; exact u1, ?_, fun t => ?_⟩
            · rw [fU_k ej, g1 4 (by omega), e4]
              by_cases f : R 0 n = 1
              · rw [if_pos f, upd_n ej]; exact u2
              · rw [if_neg f]; exact u2
            · obtain ⟨y1, y2⟩ := u3 t
              have hj' := (ht j (by omega)).resolve_left t
              have gj : gEx (R 10) xx (j + 1) ≤ gEx (R 10) xx n := gEx_le (by omega)
              have gj1 : gEx (R 10) xx (j + 1) = gEx (R 10) xx j + if R 10 j = -1 then 0 else (xx (R 10 j).toInt.toNat).toInt.toNat := rfl
              rw [if_neg t] at gj1
              have wj := (W (R 10 j).toInt.toNat (by omega)).1
              refine ⟨pc5 _ _ _ (PPr_ext W _ _ _ (by omega) (by omega) (fun l l1 l2 => ⟨?_, ?_, ?_⟩) y1), ?_⟩
              · show R4 11 l = R1 11 l
                rw [g2 11 l (by omega) (by omega) (by omega), o3 11 (by omega)]
              · show R4 12 l = R1 12 l
                rw [g2 12 l (by omega) (by omega) (by omega), o3 12 (by omega)]
              · show R4 13 l = R1 13 l
                rw [g2 13 l (by omega) (by omega) (by omega), o3 13 (by omega)]
              · rw [fU_i (by omega), g2 14 _ (by omega) (by omega) (by omega), o3 14 (by omega)]
                exact y2
        · rw [fU_k (by omega), g1 4 (by omega), e4]
          by_cases f : R 0 n = 1
          · rw [if_pos f, upd_n (by omega)]; exact i3 j (by omega)
          · rw [if_neg f]; exact i3 j (by omega)
    refine wq_if (fun d => ?_) (fun d => ?_)
    · refine wg_pg v2 no (i := 4) (by omega) rfl ?_
      refine wg_st v2 (i := 4) (by omega) (by omega) (by rw [tn, N4]; omega) (fun S3 v3 => ?_)
      rw [tnn] at v3
      rw [ad_n (by omega), show gPa (R 0) n + 1 = gPa (R 0) (n + 1) by rw [gp1, if_pos d]]
      refine l45 S3 _ v3 (fun i hi => by rw [fU_r (by omega), fU_r (by omega)]) (by rw [fU_r (by omega), fU_ru]) ?_
      rw [if_pos d, fU_ru, fU_r (by omega)]
    · rw [show gPa (R 0) n = gPa (R 0) (n + 1) by rw [gp1, if_neg d, Nat.add_zero]]
      rw [if_neg d, Nat.add_zero] at gp1
      refine l45 S2 _ v2 (fun i hi => by rw [fU_r (by omega)]) (by rw [fU_ru]) ?_
      rw [if_neg d, fU_r (by omega)]
  · have c : ¬ (n : Int) < (M : Int) := fun t => c (i_lt.mpr (by rw [tn, Int32.toInt_ofNat_of_lt (by omega)]; exact t))
    have en : n = M := by omega
    subst en
    exact ⟨_, rfl, R1, v1, i1, i2, i3⟩
end GN
