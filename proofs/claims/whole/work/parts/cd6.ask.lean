/-! ask: a whole test -/
def ucK (uc : Int32) (p : Nat) : Prop := uc = -1 ∨ ∃ v, v < p ∧ (uc = 2 * Int32.ofNat v ∨ uc = 2 * Int32.ofNat v + 1)
theorem lkS_f {S : md_S} {uc : Int32} : (lkS S uc).1 = S.1 ∧ (∀ k, ¬ (k = 64 ∨ k = 65) → (lkS S uc).2.1 k = S.2.1 k) ∧ (lkS S uc).2.2 = S.2.2 := by
  unfold lkS
  by_cases c : uc = -1
  · rw [if_pos c]; exact ⟨rfl, fun _ _ => rfl, rfl⟩
  · rw [if_neg c]
    by_cases c1 : (uc &&& 1) = 1
    · rw [if_pos c1]; exact ⟨rfl, fun k hk => by rw [md_a2, if_neg (by omega)], rfl⟩
    · rw [if_neg c1]; exact ⟨rfl, fun k hk => by rw [md_a2, if_neg (by omega)], rfl⟩
theorem lkS_r {S : md_S} {uc : Int32} {p : Nat} (hp : p < 1000) (e43 : S.1 43 = Int32.ofNat p) (hu : ucK uc p) : LKp S (lkS S uc) uc p ∧ ∀ j, p ≤ j → (lkS S uc).2.1 64 j = S.2.1 64 j ∧ (lkS S uc).2.1 65 j = S.2.1 65 j := by
  have un := up_e
  rcases hu with rfl | ⟨v, hv, rfl | rfl⟩
  · have e : lkS S (-1) = S := if_pos rfl
    rw [e]
    refine ⟨fun j hj => ⟨rfl, fun _ => rfl, fun _ => rfl, fun z => absurd z.symm (un j (by omega)).2.2.2.2.1, fun z => absurd z.symm (un j (by omega)).2.2.2.2.2⟩, fun j _ => ⟨rfl, rfl⟩⟩
  · obtain ⟨a1, a2, a3, a4, a5, a6⟩ := un v (by omega)
    have e : lkS S (2 * Int32.ofNat v) = md_a S 64 v (S.1 43) := by
      unfold lkS
      rw [if_neg a5, a3, if_neg (show ¬ (0 : Int32) = 1 by decide), a1, Int32.toInt_ofNat_of_lt (by omega)]
      rfl
    rw [e]
    have r64 : ∀ j, (md_a S 64 v (S.1 43)).2.1 64 j = upd (S.2.1 64) v (S.1 43) j := fun j => by rw [md_a2, if_pos rfl]
    have r65 : ∀ j, (md_a S 64 v (S.1 43)).2.1 65 j = S.2.1 65 j := fun j => by rw [md_a2, if_neg (by omega)]
    refine ⟨fun j hj => ⟨by rw [md_a2, if_neg (by omega)], fun z => ?_, fun _ => r65 j, fun z => ?_, fun z => ?_⟩, fun j hj => ⟨?_, r65 j⟩⟩
    · rw [r64, upd_n (fun t => z (by rw [t]))]
    · have := (uc_inj (v := v) (v' := j) (by omega) (by omega)).1 z
      rw [r64, ← this, upd_s, e43]
    · exact absurd z (uc_inj (v := v) (v' := j) (by omega) (by omega)).2.2
    · rw [r64, upd_n (by omega)]
  · obtain ⟨a1, a2, a3, a4, a5, a6⟩ := un v (by omega)
    have e : lkS S (2 * Int32.ofNat v + 1) = md_a S 65 v (S.1 43) := by
      unfold lkS
      rw [if_neg a6, if_pos a4, a2, Int32.toInt_ofNat_of_lt (by omega)]
      rfl
    rw [e]
    have r65 : ∀ j, (md_a S 65 v (S.1 43)).2.1 65 j = upd (S.2.1 65) v (S.1 43) j := fun j => by rw [md_a2, if_pos rfl]
    have r64 : ∀ j, (md_a S 65 v (S.1 43)).2.1 64 j = S.2.1 64 j := fun j => by rw [md_a2, if_neg (by omega)]
    refine ⟨fun j hj => ⟨by rw [md_a2, if_neg (by omega)], fun _ => r64 j, fun z => ?_, fun z => ?_, fun z => ?_⟩, fun j hj => ⟨r64 j, ?_⟩⟩
    · rw [r65, upd_n (fun t => z (by rw [t]))]
    · exact absurd z.symm (uc_inj (v := j) (v' := v) (by omega) (by omega)).2.2
    · have := (uc_inj (v := v) (v' := j) (by omega) (by omega)).2.1 z
      rw [r65, ← this, upd_s, e43]
    · rw [r65, upd_n (by omega)]
/-- a row made for a piece -/
def rwS (S : md_S) (p : Nat) (a b : Int32) : md_S := md_a (md_a (md_a (md_i S 43 (Int32.ofNat p + 1)) 63 p a) 64 p b) 65 p (-1)
theorem rwS_f {S : md_S} {p : Nat} {a b : Int32} : (∀ k, ¬ k = 43 → (rwS S p a b).1 k = S.1 k) ∧ (rwS S p a b).1 43 = Int32.ofNat p + 1 ∧ (∀ k, ¬ (k = 63 ∨ k = 64 ∨ k = 65) → (rwS S p a b).2.1 k = S.2.1 k) ∧ (rwS S p a b).2.2 = S.2.2 ∧ ((rwS S p a b).2.1 63 p = a ∧ (rwS S p a b).2.1 64 p = b ∧ (rwS S p a b).2.1 65 p = -1) ∧ ∀ j, ¬ j = p → (rwS S p a b).2.1 63 j = S.2.1 63 j ∧ (rwS S p a b).2.1 64 j = S.2.1 64 j ∧ (rwS S p a b).2.1 65 j = S.2.1 65 j := by
  unfold rwS
  refine ⟨fun k hk => md_ij (S := S) hk, md_ii (S := S) (k := 43) (v := Int32.ofNat p + 1), fun k hk => ?_, rfl, ⟨?_, ?_, ?_⟩, fun j hj => ⟨?_, ?_, ?_⟩⟩
  · rw [md_a2, if_neg (by omega), md_a2, if_neg (by omega), md_a2, if_neg (by omega)]
    rfl
  · rw [md_a2, if_neg (by omega), md_a2, if_neg (by omega), md_a2, if_pos rfl, upd_s]
  · rw [md_a2, if_neg (by omega), md_a2, if_pos rfl, upd_s]
  · rw [md_a2, if_pos rfl, upd_s]
  · rw [md_a2, if_neg (by omega), md_a2, if_neg (by omega), md_a2, if_pos rfl, upd_n hj]
    rfl
  · rw [md_a2, if_neg (by omega), md_a2, if_pos rfl, upd_n hj, md_a2, if_neg (by omega)]
    rfl
  · rw [md_a2, if_pos rfl, upd_n hj, md_a2, if_neg (by omega), md_a2, if_neg (by omega)]
    rfl
/-- two numbers pushed -/
def puS (S : md_S) (n : Nat) (a b : Int32) : md_S := md_a (md_a S 99 (2 * n) a) 99 (2 * n + 1) b
theorem puS_f {S : md_S} {n : Nat} {a b : Int32} : (puS S n a b).1 = S.1 ∧ (∀ k, ¬ k = 99 → (puS S n a b).2.1 k = S.2.1 k) ∧ (puS S n a b).2.2 = S.2.2 ∧ (puS S n a b).2.1 99 (2 * n) = a ∧ (puS S n a b).2.1 99 (2 * n + 1) = b ∧ ∀ j, j < 2 * n → (puS S n a b).2.1 99 j = S.2.1 99 j := by
  unfold puS
  refine ⟨rfl, fun k hk => by rw [md_a2, if_neg hk, md_a2, if_neg hk], rfl, ?_, ?_, fun j hj => ?_⟩
  · rw [md_a2, if_pos rfl, upd_n (by omega), md_a2, if_pos rfl, upd_s]
  · rw [md_a2, if_pos rfl, upd_s]
  · rw [md_a2, if_pos rfl, upd_n (by omega), md_a2, if_pos rfl, upd_n (by omega)]
section ASE
variable {names : Int32} {pk pf ps xx : Nat → Int32} {m : Nat}
/-- a step of ask, in short -/
theorem ask_1 {S : md_S} {x2 : Int32} {n e : Nat} (W : pcW names pk pf ps xx m) (he : e < m) (hm : m ≤ 1000) (hn : n ≤ 2900) (r36 : S.2.1 36 = pk) (r37 : S.2.1 37 = pf) (r38 : S.2.1 38 = ps) (e99 : S.2.1 99 (2 * n) = Int32.ofNat e) {z : md_S} (hz : dc_it (mm_ask_s23 x2) (S, Int32.ofNat (n + 1)) = some z) (hp0 : 0 ≤ (S.1 43).toInt) (hp1 : (S.1 43).toInt ≤ 100000) :
    (¬ (S.1 43).toInt < 1000 ∧ dc_it (mm_ask_s23 x2) (md_i S 43 (S.1 43 + 1), Int32.ofNat n) = some z) ∨
    ((S.1 43).toInt < 1000 ∧ ((pk e = 0 ∧ dc_it (mm_ask_s23 x2) (rwS (lkS S (S.2.1 99 (2 * n + 1))) (S.1 43).toInt.toNat (pk e) (pf e), Int32.ofNat n) = some z) ∨
      (pk e = 1 ∧ dc_it (mm_ask_s23 x2) (puS (rwS (lkS S (S.2.1 99 (2 * n + 1))) (S.1 43).toInt.toNat (pk e) (pf e)) n (pf e) (2 * Int32.ofNat (S.1 43).toInt.toNat), Int32.ofNat (n + 1)) = some z) ∨
      ((pk e = 2 ∨ pk e = 3) ∧ dc_it (mm_ask_s23 x2) (puS (puS (rwS (lkS S (S.2.1 99 (2 * n + 1))) (S.1 43).toInt.toNat (pk e) (pf e)) n (ps e) (2 * Int32.ofNat (S.1 43).toInt.toNat + 1)) (n + 1) (pf e) (2 * Int32.ofNat (S.1 43).toInt.toNat), Int32.ofNat (n + 1 + 1)) = some z))) := by
  obtain ⟨q, hq⟩ := it_st hz
  have un := it_un hz hq
  obtain ⟨S1, hS1, hl, h117⟩ := ask_lk (by omega) hq
  rw [e99] at h117
  have z1000 : (1000 : Int32).toInt = 1000 := by decide
  have f43 : S1.1 43 = S.1 43 := by
    rcases hS1 with z | ⟨-, z⟩
    · rw [z]
    · rw [z, lkS_f.1]
  have te : (Int32.ofNat e).toInt.toNat = e := by rw [Int32.toInt_ofNat_of_lt (by omega)]; omega
  have ep : S.1 43 = Int32.ofNat (S.1 43).toInt.toNat := by
    refine i_eq.mpr ?_
    rw [Int32.toInt_ofNat_of_lt (by omega)]
    omega
  have tn : ∀ k : Nat, k ≤ 3000 → (Int32.ofNat k).toInt = (k : Int) := fun k hk => Int32.toInt_ofNat_of_lt (by omega)
  have z2 : (2 : Int32).toInt = 2 := by decide
  have t2 : ∀ k : Nat, k ≤ 3000 → (2 * Int32.ofNat k).toInt.toNat = 2 * k ∧ (2 * Int32.ofNat k + 1).toInt.toNat = 2 * k + 1 := by
    intro k hk
    have e2 : (2 * Int32.ofNat k).toInt = 2 * (k : Int) := by rw [i_mulS (by rw [tn k hk, z2]; omega), tn k hk, z2]
    refine ⟨by omega, ?_⟩
    rw [i_addS (by rw [e2, il_1]; omega), e2, il_1]
    omega
  have a1 : ∀ k : Nat, k ≤ 2999 → Int32.ofNat k + 1 = Int32.ofNat (k + 1) := by
    intro k hk
    rw [i_eq, i_addS (by rw [tn k (by omega), il_1]; omega), tn k (by omega), il_1, tn (k + 1) (by omega)]
    omega
  delta mm_ask_L117 at h117
  have h117 : (if (S1.1 43) < 1000 then ((dc_ix (Int32.ofNat e) 1000).bind fun j11 => (dc_ix (S1.1 43) 1000).bind fun j12 => dc_let (md_a (md_i S1 43 ((S1.1 43) + 1)) 63 j12 ((md_i S1 43 ((S1.1 43) + 1)).2.1 36 j11)) fun S13 => (dc_ix (Int32.ofNat e) 1000).bind fun j14 => (dc_ix (S1.1 43) 1000).bind fun j15 => dc_let (md_a S13 64 j15 (S13.2.1 37 j14)) fun S16 => (dc_ix (S1.1 43) 1000).bind fun j17 => dc_let (md_a S16 65 j17 (-1)) fun S18 => (dc_ix (Int32.ofNat e) 1000).bind fun j19 => if (S18.2.1 38 j19) = (-1) then (mm_ask_L221 S18 x2 (Int32.ofNat n) (Int32.ofNat e) (S1.1 43)) else ((dc_ix (Int32.ofNat e) 1000).bind fun j20 => (dc_ix (2 * Int32.ofNat n) 8192).bind fun j21 => dc_let (md_a S18 99 j21 (S18.2.1 38 j20)) fun S22 => (dc_ix ((2 * Int32.ofNat n) + 1) 8192).bind fun j23 => dc_let (md_a S22 99 j23 ((2 * (S1.1 43)) + 1)) fun S24 => mm_ask_L221 S24 x2 (Int32.ofNat n + 1) (Int32.ofNat e) (S1.1 43))) else (some (.inl (md_i S1 43 ((S1.1 43) + 1), Int32.ofNat n)))) = some q := h117
  rcases iv_if h117 with ⟨c, h⟩ | ⟨c, h⟩
  · right
    have lt := i_lt.mp c
    rw [f43, z1000] at lt
    have eS := hl lt
    subst eS
    refine ⟨lt, ?_⟩
    rw [f43] at h
    obtain ⟨-, -, h⟩ := iv_ix h
    obtain ⟨-, -, h⟩ := iv_ix h
    obtain ⟨-, -, h⟩ := iv_ix h
    obtain ⟨-, -, h⟩ := iv_ix h
    obtain ⟨-, -, h⟩ := iv_ix h
    obtain ⟨-, -, h⟩ := iv_ix h
    rw [te] at h
    have g36 : (lkS S (S.2.1 99 (2 * n + 1))).2.1 36 = pk := by rw [lkS_f.2.1 36 (by omega)]; exact r36
    have g37 : (lkS S (S.2.1 99 (2 * n + 1))).2.1 37 = pf := by rw [lkS_f.2.1 37 (by omega)]; exact r37
    have g38 : (lkS S (S.2.1 99 (2 * n + 1))).2.1 38 = ps := by rw [lkS_f.2.1 38 (by omega)]; exact r38
    have e18 : md_a (md_a (md_a (md_i (lkS S (S.2.1 99 (2 * n + 1))) 43 ((S.1 43) + 1)) 63 (S.1 43).toInt.toNat ((md_i (lkS S (S.2.1 99 (2 * n + 1))) 43 ((S.1 43) + 1)).2.1 36 e)) 64 (S.1 43).toInt.toNat ((md_a (md_i (lkS S (S.2.1 99 (2 * n + 1))) 43 ((S.1 43) + 1)) 63 (S.1 43).toInt.toNat ((md_i (lkS S (S.2.1 99 (2 * n + 1))) 43 ((S.1 43) + 1)).2.1 36 e)).2.1 37 e)) 65 (S.1 43).toInt.toNat (-1) = rwS (lkS S (S.2.1 99 (2 * n + 1))) (S.1 43).toInt.toNat (pk e) (pf e) := by
      have u1 : (md_i (lkS S (S.2.1 99 (2 * n + 1))) 43 ((S.1 43) + 1)).2.1 36 e = pk e := by
        show (lkS S (S.2.1 99 (2 * n + 1))).2.1 36 e = _
        rw [g36]
      have u2 : (md_a (md_i (lkS S (S.2.1 99 (2 * n + 1))) 43 ((S.1 43) + 1)) 63 (S.1 43).toInt.toNat ((md_i (lkS S (S.2.1 99 (2 * n + 1))) 43 ((S.1 43) + 1)).2.1 36 e)).2.1 37 e = pf e := by
        rw [md_a2, if_neg (by omega)]
        show (lkS S (S.2.1 99 (2 * n + 1))).2.1 37 e = _
        rw [g37]
      rw [u2, u1]
      unfold rwS
      rw [← ep]
    have h : (if ((md_a (md_a (md_a (md_i (lkS S (S.2.1 99 (2 * n + 1))) 43 ((S.1 43) + 1)) 63 (S.1 43).toInt.toNat ((md_i (lkS S (S.2.1 99 (2 * n + 1))) 43 ((S.1 43) + 1)).2.1 36 e)) 64 (S.1 43).toInt.toNat ((md_a (md_i (lkS S (S.2.1 99 (2 * n + 1))) 43 ((S.1 43) + 1)) 63 (S.1 43).toInt.toNat ((md_i (lkS S (S.2.1 99 (2 * n + 1))) 43 ((S.1 43) + 1)).2.1 36 e)).2.1 37 e)) 65 (S.1 43).toInt.toNat (-1)).2.1 38 e) = (-1) then (mm_ask_L221 (md_a (md_a (md_a (md_i (lkS S (S.2.1 99 (2 * n + 1))) 43 ((S.1 43) + 1)) 63 (S.1 43).toInt.toNat ((md_i (lkS S (S.2.1 99 (2 * n + 1))) 43 ((S.1 43) + 1)).2.1 36 e)) 64 (S.1 43).toInt.toNat ((md_a (md_i (lkS S (S.2.1 99 (2 * n + 1))) 43 ((S.1 43) + 1)) 63 (S.1 43).toInt.toNat ((md_i (lkS S (S.2.1 99 (2 * n + 1))) 43 ((S.1 43) + 1)).2.1 36 e)).2.1 37 e)) 65 (S.1 43).toInt.toNat (-1)) x2 (Int32.ofNat n) (Int32.ofNat e) (S.1 43)) else ((dc_ix (Int32.ofNat e) 1000).bind fun j20 => (dc_ix (2 * Int32.ofNat n) 8192).bind fun j21 => dc_let (md_a (md_a (md_a (md_a (md_i (lkS S (S.2.1 99 (2 * n + 1))) 43 ((S.1 43) + 1)) 63 (S.1 43).toInt.toNat ((md_i (lkS S (S.2.1 99 (2 * n + 1))) 43 ((S.1 43) + 1)).2.1 36 e)) 64 (S.1 43).toInt.toNat ((md_a (md_i (lkS S (S.2.1 99 (2 * n + 1))) 43 ((S.1 43) + 1)) 63 (S.1 43).toInt.toNat ((md_i (lkS S (S.2.1 99 (2 * n + 1))) 43 ((S.1 43) + 1)).2.1 36 e)).2.1 37 e)) 65 (S.1 43).toInt.toNat (-1)) 99 j21 ((md_a (md_a (md_a (md_i (lkS S (S.2.1 99 (2 * n + 1))) 43 ((S.1 43) + 1)) 63 (S.1 43).toInt.toNat ((md_i (lkS S (S.2.1 99 (2 * n + 1))) 43 ((S.1 43) + 1)).2.1 36 e)) 64 (S.1 43).toInt.toNat ((md_a (md_i (lkS S (S.2.1 99 (2 * n + 1))) 43 ((S.1 43) + 1)) 63 (S.1 43).toInt.toNat ((md_i (lkS S (S.2.1 99 (2 * n + 1))) 43 ((S.1 43) + 1)).2.1 36 e)).2.1 37 e)) 65 (S.1 43).toInt.toNat (-1)).2.1 38 j20)) fun S22 => (dc_ix ((2 * Int32.ofNat n) + 1) 8192).bind fun j23 => dc_let (md_a S22 99 j23 ((2 * (S.1 43)) + 1)) fun S24 => mm_ask_L221 S24 x2 (Int32.ofNat n + 1) (Int32.ofNat e) (S.1 43))) = some q := h
    rw [e18] at h
    generalize eR : rwS (lkS S (S.2.1 99 (2 * n + 1))) (S.1 43).toInt.toNat (pk e) (pf e) = R at h ⊢
    have q36 : R.2.1 36 = pk := by rw [← eR, rwS_f.2.2.1 36 (by omega)]; exact g36
    have q37 : R.2.1 37 = pf := by rw [← eR, rwS_f.2.2.1 37 (by omega)]; exact g37
    have q38 : R.2.1 38 = ps := by rw [← eR, rwS_f.2.2.1 38 (by omega)]; exact g38
    rw [q38] at h
    -- the second half of a step
    have l221 : ∀ (Z : md_S) (k : Nat), k ≤ 2950 → Z.2.1 36 = pk → Z.2.1 37 = pf → mm_ask_L221 Z x2 (Int32.ofNat k) (Int32.ofNat e) (S.1 43) = some q → (pk e = 0 ∧ q = .inl (Z, Int32.ofNat k)) ∨ (¬ pk e = 0 ∧ q = .inl (puS Z k (pf e) (2 * Int32.ofNat (S.1 43).toInt.toNat), Int32.ofNat (k + 1))) := by
      intro Z k hk y36 y37 hh
      delta mm_ask_L221 at hh
      obtain ⟨-, -, hh⟩ := iv_ix hh
      rw [te, y36] at hh
      rcases iv_if hh with ⟨c0, hh⟩ | ⟨c0, hh⟩
      · right
        obtain ⟨-, -, hh⟩ := iv_ix hh
        obtain ⟨-, -, hh⟩ := iv_ix hh
        rw [te, (t2 k (by omega)).1] at hh
        have hh : (dc_ix ((2 * Int32.ofNat k) + 1) 8192).bind (fun j7 => dc_let (md_a (md_a Z 99 (2 * k) (Z.2.1 37 e)) 99 j7 (2 * (S.1 43))) fun S8 => mm_ask_L259 S8 x2 (Int32.ofNat k + 1)) = some q := hh
        obtain ⟨-, -, hh⟩ := iv_ix hh
        rw [(t2 k (by omega)).2] at hh
        have hh : some (.inl (md_a (md_a Z 99 (2 * k) (Z.2.1 37 e)) 99 (2 * k + 1) (2 * (S.1 43)), Int32.ofNat k + 1)) = some q := hh
        refine ⟨fun t => by rw [t] at c0; exact absurd c0 (by decide), ?_⟩
        rw [← Option.some.inj hh, a1 k (by omega), y37]
        unfold puS
        rw [← ep]
      · left
        have hh : some (.inl (Z, Int32.ofNat k)) = some q := hh
        refine ⟨?_, (Option.some.inj hh).symm⟩
        rcases (W e he).2 with ⟨y, -⟩ | ⟨y, -⟩ | ⟨y | y, -⟩
        · exact y
        · rw [y] at c0; exact absurd (show (0 : Int32) < 1 by decide) c0
        · rw [y] at c0; exact absurd (show (0 : Int32) < 2 by decide) c0
        · rw [y] at c0; exact absurd (show (0 : Int32) < 3 by decide) c0
    rcases (W e he).2 with ⟨y, y1, -⟩ | ⟨y, y1, -⟩ | ⟨y, y1, y2, -⟩
    · rw [if_pos y1] at h
      rcases l221 R n (by omega) q36 q37 h with ⟨-, eq⟩ | ⟨t, -⟩
      · left
        refine ⟨y, ?_⟩
        rw [eq] at un
        exact un
      · exact absurd y t
    · rw [if_pos y1] at h
      rcases l221 R n (by omega) q36 q37 h with ⟨t, -⟩ | ⟨-, eq⟩
      · rw [y] at t; exact absurd t (by decide)
      · right; left
        refine ⟨y, ?_⟩
        rw [eq] at un
        exact un
    · have ne : ¬ ps e = -1 := by
        intro t
        rw [t, show (-1 : Int32).toInt = -1 by decide] at y2
        omega
      rw [if_neg ne] at h
      obtain ⟨-, -, h⟩ := iv_ix h
      obtain ⟨-, -, h⟩ := iv_ix h
      rw [te, (t2 n (by omega)).1, a1 n (by omega)] at h
      have h : (dc_ix ((2 * Int32.ofNat n) + 1) 8192).bind (fun j23 => dc_let (md_a (md_a R 99 (2 * n) (ps e)) 99 j23 ((2 * (S.1 43)) + 1)) fun S24 => mm_ask_L221 S24 x2 (Int32.ofNat (n + 1)) (Int32.ofNat e) (S.1 43)) = some q := h
      obtain ⟨-, -, h⟩ := iv_ix h
      rw [(t2 n (by omega)).2] at h
      have eP : md_a (md_a R 99 (2 * n) (ps e)) 99 (2 * n + 1) ((2 * (S.1 43)) + 1) = puS R n (ps e) (2 * Int32.ofNat (S.1 43).toInt.toNat + 1) := by
        unfold puS
        rw [← ep]
      have h : mm_ask_L221 (md_a (md_a R 99 (2 * n) (ps e)) 99 (2 * n + 1) ((2 * (S.1 43)) + 1)) x2 (Int32.ofNat (n + 1)) (Int32.ofNat e) (S.1 43) = some q := h
      rw [eP] at h
      rcases l221 _ (n + 1) (by omega) (by rw [puS_f.2.1 36 (by omega)]; exact q36) (by rw [puS_f.2.1 37 (by omega)]; exact q37) h with ⟨t, -⟩ | ⟨-, eq⟩
      · rcases y with y | y <;> (rw [y] at t; exact absurd t (by decide))
      · right; right
        refine ⟨y, ?_⟩
        rw [eq] at un
        exact un
  · left
    have ge : ¬ (S.1 43).toInt < 1000 := fun t => c (i_lt.mpr (by rw [f43, z1000]; exact t))
    have eS : S1 = S := by
      rcases hS1 with z | ⟨z, -⟩
      · exact z
      · exact absurd z ge
    subst eS
    refine ⟨ge, ?_⟩
    rw [← Option.some.inj h] at un
    exact un
end ASE
