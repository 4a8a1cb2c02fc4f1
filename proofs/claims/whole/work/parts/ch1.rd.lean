/-! read: what both sides have behind it -/
/-- the reference has forgotten -/
def zI (q : md_S) : Prop := (q.1 41 = 0 ∧ q.1 42 = 0 ∧ q.1 43 = 0 ∧ q.1 44 = 0 ∧ q.1 45 = 0 ∧ q.1 46 = 0 ∧ q.1 47 = 0 ∧ q.1 48 = 0 ∧ q.1 49 = 0 ∧ q.1 77 = 0 ∧ q.1 82 = 0 ∧ q.1 83 = 0 ∧ q.1 85 = 0 ∧ q.1 86 = 0 ∧ q.1 87 = 0 ∧ q.1 106 = 0) ∧ (∀ k, k < 200 → q.2.1 74 k = 0) ∧ ∀ k, k < 62 → q.2.1 84 k = 0
section FGT
variable {S q : md_S}
theorem fgt_w (hq : mm_forget S = some q) : zI q := by
  have hq : mm_forget_L82 (md_i (md_i (md_i (md_i (md_i (md_i (md_i (md_i (md_i (md_i (md_i (md_i (md_i (md_i (md_i (md_i S 77 0) 86 0) 85 0) 41 0) 106 0) 87 0) 49 0) 48 0) 47 0) 46 0) 45 0) 44 0) 43 0) 42 0) 83 0) 82 0) 0 = some q := hq
  have z : (fun X : md_S => X.1 41 = 0 ∧ X.1 42 = 0 ∧ X.1 43 = 0 ∧ X.1 44 = 0 ∧ X.1 45 = 0 ∧ X.1 46 = 0 ∧ X.1 47 = 0 ∧ X.1 48 = 0 ∧ X.1 49 = 0 ∧ X.1 77 = 0 ∧ X.1 82 = 0 ∧ X.1 83 = 0 ∧ X.1 85 = 0 ∧ X.1 86 = 0 ∧ X.1 87 = 0 ∧ X.1 106 = 0) (md_i (md_i (md_i (md_i (md_i (md_i (md_i (md_i (md_i (md_i (md_i (md_i (md_i (md_i (md_i (md_i S 77 0) 86 0) 85 0) 41 0) 106 0) 87 0) 49 0) 48 0) 47 0) 46 0) 45 0) 44 0) 43 0) 42 0) 83 0) 82 0) := ⟨rfl, rfl, rfl, rfl, rfl, rfl, rfl, rfl, rfl, rfl, rfl, rfl, rfl, rfl, rfl, rfl⟩
  generalize md_i (md_i (md_i (md_i (md_i (md_i (md_i (md_i (md_i (md_i (md_i (md_i (md_i (md_i (md_i (md_i S 77 0) 86 0) 85 0) 41 0) 106 0) 87 0) 49 0) 48 0) 47 0) 46 0) 45 0) 44 0) 43 0) 42 0) 83 0) 82 0 = X at hq z
  have key : dc_pw (mm_forget_L82 X 0) (fun q => q.1 = X.1 ∧ (∀ k, k < 200 → q.2.1 74 k = 0) ∧ ∀ k, k < 62 → q.2.1 84 k = 0) := by
    delta mm_forget_L82
    refine pw_loop (fun (y : md_S × Int32) => ∃ k : Nat, y.2 = Int32.ofNat k ∧ k ≤ 200 ∧ y.1.1 = X.1 ∧ ∀ j, j < k → y.1.2.1 74 j = 0) (fun Z => Z.1 = X.1 ∧ ∀ j, j < 200 → Z.2.1 74 j = 0) ⟨0, rfl, by omega, rfl, fun j hj => by omega⟩ ?_ ?_
    · rintro ⟨Y, x⟩ ⟨k, ex, hk, e1, i1⟩
      have ex : x = Int32.ofNat k := ex
      have e1 : Y.1 = X.1 := e1
      subst ex
      have tk : (Int32.ofNat k).toInt = (k : Int) := Int32.toInt_ofNat_of_lt (by omega)
      have tkn : (Int32.ofNat k).toInt.toNat = k := by omega
      have t200 : (200 : Int32).toInt = 200 := by decide
      show dc_pw (mm_forget_b82 Y (Int32.ofNat k)) _
      delta mm_forget_b82
      refine pw_ifc (fun c => ?_) (fun c => ?_)
      · have c := i_lt.mp c
        rw [tk, t200] at c
        refine pw_ix (fun _ _ => ?_)
        rw [tkn]
        refine pw_some ⟨k + 1, ad_m (by omega), by omega, e1, fun j hj => ?_⟩
        show (md_a Y 74 k 0).2.1 74 j = 0
        rw [md_a2, if_pos rfl]
        by_cases e : j = k
        · subst e; rw [upd_s]
        · rw [upd_n e]; exact i1 j (by omega)
      · have c : ¬ (k : Int) < 200 := fun t => c (i_lt.mpr (by rw [tk, t200]; exact t))
        exact pw_some ⟨e1, fun j hj => i1 j (by omega)⟩
    · rintro Z ⟨z1, z2⟩
      show dc_pw (mm_forget_L104 Z 0) _
      delta mm_forget_L104
      refine pw_loop (fun (y : md_S × Int32) => ∃ k : Nat, y.2 = Int32.ofNat k ∧ k ≤ 62 ∧ y.1.1 = X.1 ∧ (∀ j, j < 200 → y.1.2.1 74 j = 0) ∧ ∀ j, j < k → y.1.2.1 84 j = 0) (fun Z => Z.1 = X.1 ∧ (∀ j, j < 200 → Z.2.1 74 j = 0) ∧ ∀ j, j < 62 → Z.2.1 84 j = 0) ⟨0, rfl, by omega, z1, z2, fun j hj => by omega⟩ ?_ (fun Z h => pw_some h)
      rintro ⟨Y, x⟩ ⟨k, ex, hk, e1, e2, i1⟩
      have ex : x = Int32.ofNat k := ex
      have e1 : Y.1 = X.1 := e1
      subst ex
      have tk : (Int32.ofNat k).toInt = (k : Int) := Int32.toInt_ofNat_of_lt (by omega)
      have tkn : (Int32.ofNat k).toInt.toNat = k := by omega
      have t62 : (62 : Int32).toInt = 62 := by decide
      show dc_pw (mm_forget_b104 Y (Int32.ofNat k)) _
      delta mm_forget_b104
      refine pw_ifc (fun c => ?_) (fun c => ?_)
      · have c := i_lt.mp c
        rw [tk, t62] at c
        refine pw_ix (fun _ _ => ?_)
        rw [tkn]
        refine pw_some ⟨k + 1, ad_m (by omega), by omega, e1, fun j hj => ?_, fun j hj => ?_⟩
        · show (md_a Y 84 k 0).2.1 74 j = 0
          rw [md_a2, if_neg (by omega)]
          exact e2 j hj
        · show (md_a Y 84 k 0).2.1 84 j = 0
          rw [md_a2, if_pos rfl]
          by_cases e : j = k
          · subst e; rw [upd_s]
          · rw [upd_n e]; exact i1 j (by omega)
      · have c : ¬ (k : Int) < 62 := fun t => c (i_lt.mpr (by rw [tk, t62]; exact t))
        exact pw_some ⟨e1, e2, fun j hj => i1 j (by omega)⟩
  obtain ⟨k1, k2, k3⟩ := key q hq
  refine ⟨?_, k2, k3⟩
  rw [k1]
  exact z
end FGT
section SFW
variable {G : hg_E} {S : hg_S} {o t : Nat} {n f st en rn ex la : Int32} {pg rc hd sh ta tn : Value}
theorem sf_w (h0 : hw S) (h : hg_at S.1 o = some (.inr (0, enL t n f pg rc hd sh st en rn ta tn ex la))) : dc_wp (hm_SE_forget G S o) (fun S' => hw S' ∧ S'.2 = S.2 ∧ hg_at S'.1 o = some (.inr (0, enL t n f .null .null .null .null 0 0 0 ta tn 0 0)) ∧ ∀ b, b ≠ o → hg_at S'.1 b = hg_at S.1 b) := by
  delta hm_SE_forget
  refine wo_pf h0 h (Nat.le_of_ble_eq_true rfl) (fs' := enL t n f .null rc hd sh st en rn ta tn ex la) rfl (fun S1 k1 s1 e1 f1 => ?_)
  refine wo_pf k1 e1 (Nat.le_of_ble_eq_true rfl) (fs' := enL t n f .null .null hd sh st en rn ta tn ex la) rfl (fun S2 k2 s2 e2 f2 => ?_)
  refine wo_pf k2 e2 (Nat.le_of_ble_eq_true rfl) (fs' := enL t n f .null .null .null sh st en rn ta tn ex la) rfl (fun S3 k3 s3 e3 f3 => ?_)
  refine wo_pf k3 e3 (Nat.le_of_ble_eq_true rfl) (fs' := enL t n f .null .null .null .null st en rn ta tn ex la) rfl (fun S4 k4 s4 e4 f4 => ?_)
  refine wo_pf k4 e4 (Nat.le_of_ble_eq_true rfl) (fs' := enL t n f .null .null .null .null 0 en rn ta tn ex la) rfl (fun S5 k5 s5 e5 f5 => ?_)
  refine wo_pf k5 e5 (Nat.le_of_ble_eq_true rfl) (fs' := enL t n f .null .null .null .null 0 0 rn ta tn ex la) rfl (fun S6 k6 s6 e6 f6 => ?_)
  refine wo_pf k6 e6 (Nat.le_of_ble_eq_true rfl) (fs' := enL t n f .null .null .null .null 0 0 0 ta tn ex la) rfl (fun S7 k7 s7 e7 f7 => ?_)
  refine wo_pf k7 e7 (Nat.le_of_ble_eq_true rfl) (fs' := enL t n f .null .null .null .null 0 0 0 ta tn 0 la) rfl (fun S8 k8 s8 e8 f8 => ?_)
  refine wo_pf k8 e8 (Nat.le_of_ble_eq_true rfl) (fs' := enL t n f .null .null .null .null 0 0 0 ta tn 0 0) rfl (fun S9 k9 s9 e9 f9 => ?_)
  exact ⟨S9, rfl, k9, by rw [s9, s8, s7, s6, s5, s4, s3, s2, s1], e9, fun b hb => by rw [f9 b hb, f8 b hb, f7 b hb, f6 b hb, f5 b hb, f4 b hb, f3 b hb, f2 b hb, f1 b hb]⟩
end SFW
section CPS
variable {pk pf xx : Nat → Int32} {θ : (Int32 → Prop) → Int32 → Prop} {G H : Prop} {R R' : Nat → Nat → Int32}
theorem crow_s {T : tT} {k : Nat} {x : lbT} {f s up : Int32} {w : Int} {t : Int32} {a c : Int} {Es : List Int32} (h : lrow G H pk pf xx R k x f s up w t a c) (e55 : R' 55 = R 55) (e59 : R' 59 = R 59) (e54 : ¬ R 51 k = 8 → R' 54 k = R 54 k) (hc : crow R T x k Es) : crow R' T x k Es := by
  obtain ⟨c1, c2, c3⟩ := hc
  refine ⟨by rw [e55]; exact c1, by rw [e59]; exact c2, fun z => ?_⟩
  rw [e54 (by rw [h.1.1, z]; decide)]
  exact c3 z
theorem CPr_s (e55 : R' 55 = R 55) (e59 : R' 59 = R 59) (e54 : ∀ j, ¬ R 51 j = 8 → R' 54 j = R 54 j) : ∀ (T : tT) (V : Int32 → Prop) (k : Nat) (up : Int32) (w : Int) (t : Int32) (a c : Int) (Es : List Int32), okT θ V T → LPr G H pk pf xx R T k up w t a c → CPr R T k Es → CPr R' T k Es
  | .const x, V, k, up, w, t, a, c, Es, hO, h, hc => crow_s h e55 e59 (e54 k) hc
  | .unary x A, V, k, up, w, t, a, c, Es, hO, ⟨h1, h2⟩, ⟨c1, c2⟩ => ⟨crow_s h1 e55 e59 (e54 k) c1, CPr_s e55 e59 e54 A _ _ _ _ _ _ _ _ hO.2 h2 c2⟩
  | .binary x A B, V, k, up, w, t, a, c, Es, hO, ⟨h1, h2, h3⟩, ⟨c1, c2, c3⟩ => ⟨crow_s h1 e55 e59 (e54 k) c1, CPr_s e55 e59 e54 A _ _ _ _ _ _ _ _ hO.2.1 h2 c2, CPr_s e55 e59 e54 B _ _ _ _ _ _ _ _ hO.2.2 h3 c3⟩
end CPS
/-- names of signals: the class's and the reference's letters -/
def nmP (G : hg_E) (S : hg_S) (M : md_S) (t0 u nm sg : Nat) : Prop := ∃ tx fA eA sA cap tl ff ee ss tf sc, ((t0 ≤ tx ∧ tx < u) ∧ (t0 ≤ nm ∧ nm < u) ∧ (t0 ≤ fA ∧ fA < u) ∧ (t0 ≤ eA ∧ eA < u) ∧ (t0 ≤ sA ∧ sA < u)) ∧ nmv G S nm tx fA eA sA cap ff ee ss (Int32.ofNat sg) sc ∧ hg_at S.1 tx = some (.inl (G.1 1, tl, .inl tf)) ∧ (sg ≤ cap ∧ tl ≤ 32768) ∧ ∀ s, s < sg → ee s = M.2.1 69 s ∧ 0 ≤ (ff s).toInt ∧ 0 ≤ (ee s).toInt ∧ (ee s).toInt ≤ 31 ∧ (ff s).toInt + (ee s).toInt ≤ (tl : Int) ∧ ∀ j, j < (ee s).toInt.toNat → tf ((ff s).toInt.toNat + j) = M.2.1 68 (31 * s + j)
/-- rows: the class's program is the reference's -/
def rEqF (R Q : Nat → Nat → Int32) (n p : Nat) : Prop :=
  (∀ j, j < n → (R 0 j = Q 51 j ∧ R 1 j = Q 52 j ∧ R 2 j = Q 53 j ∧ R 3 j = Q 58 j ∧ R 4 j = Q 54 j ∧ R 5 j = Q 55 j ∧ R 6 j = Q 56 j ∧ R 7 j = Q 57 j ∧ R 8 j = Q 62 j) ∧ (∃ l, j < l ∧ l ≤ n ∧ Q 59 j = Int32.ofNat l ∧ R 9 j = Q 62 l) ∧ (R 0 j = 3 ∨ R 0 j = 4 → ∃ k x : Nat, Q 54 j = Int32.ofNat k ∧ R 14 k = Int32.ofNat x ∧ Q 66 k = Int32.ofNat (k + x) ∧ 1 ≤ x ∧ k + x ≤ p)) ∧
  ∀ j, j < p → R 11 j = Q 63 j ∧ R 12 j = Q 64 j ∧ R 13 j = Q 65 j
/-- the program, in the class's heap and in the reference -/
def pgS (G : hg_E) (S : hg_S) (M : md_S) (t0 u n ps sg io pa : Nat) (R : Nat → Nat → Int32) (c : Nat → Int32) : Prop :=
  (∃ nm, nmP G S M t0 u nm sg ∧ PGv G S u nm (u + 1) (pgA (u + 1) (fun _ => 0)) (pgN n ps 0) R c (Int32.ofNat ps)) ∧ rEqF R M.2.1 n ps ∧ (M.1 42 = Int32.ofNat n ∧ M.1 43 = Int32.ofNat ps ∧ M.1 44 = Int32.ofNat sg ∧ c 1 = M.1 45 ∧ c 2 = M.1 46 ∧ c 3 = M.1 47 ∧ c 4 = M.1 48 ∧ c 5 = M.1 49 ∧ M.1 45 + M.1 46 = Int32.ofNat io ∧ M.1 47 = Int32.ofNat pa) ∧ ((1 ≤ n ∧ n ≤ 1200) ∧ ps ≤ 1000 ∧ sg ≤ 400 ∧ io ≤ 62 ∧ io ≤ sg ∧ pa ≤ 200) ∧ (0 ≤ (M.1 45).toInt ∧ (M.1 45).toInt ≤ 31 ∧ 0 ≤ (M.1 46).toInt ∧ (M.1 46).toInt ≤ 31)
/-- the program told of its tree -/
def pgT (M : md_S) (T : tT) (n ps : Nat) : Prop := ∃ (kk ff ss xx : Nat → Int32) (m : Nat) (names : Int32), (pcW names kk ff ss xx m ∧ m ≤ 1000) ∧ okT (pOk kk ff xx 0 (m : Int)) (fun y => 0 ≤ y.toInt ∧ y.toInt < (M.1 45).toInt + (M.1 46).toInt) T ∧ wfT T [] ∧ (LPr True False kk ff xx M.2.1 T 0 (-1) 1 (-1) 0 0 ∧ CPr M.2.1 T 0 []) ∧ (tsz T = n ∧ tsm xx T = (ps : Int) ∧ (M.1 47).toInt = pas T ∧ (M.1 48).toInt = wsm T 1 ∧ (M.1 49).toInt = dmx T 0 ∧ (M.2.1 62 n).toInt = pas T) ∧ ((lcT T).Nodup ∧ ∀ y, y ∈ lcT T → (M.1 45).toInt + (M.1 46).toInt ≤ y.toInt ∧ y.toInt < (M.1 44).toInt) ∧ (twd T ≤ 800 ∧ tdp T ≤ 26 ∧ ((tpT T).map Prod.snd).Nodup ∧ wsm T 1 ≤ 1200)
/-- where the signals' values lie -/
def pgB (M : md_S) (n : Nat) : Prop := M.1 50 = Int32.ofNat (lis (M.2.1 51) (M.2.1 57) n) ∧ ∀ j, j < n → M.2.1 51 j = 10 → M.2.1 61 j = Int32.ofNat (lis (M.2.1 51) (M.2.1 57) j)
/-- what the reader's safety says of a program (mm_program_s) -/
def prS : Prop := ∀ (S0 : md_S), 0 ≤ S0.1 2 → S0.1 2 ≤ 32768 → S0.1 5 = 1 → S0.1 10 = 0 → S0.1 4 = 0 → S0.1 11 = 0 → S0.1 15 = 0 → S0.1 18 = 0 → S0.1 19 = 0 → S0.1 27 = 0 → S0.1 28 = 0 → S0.1 13 = 32768 → dc_wp (mm_program S0) (fun q => 0 ≤ q.1.1 10 ∧ (q.1.1 10 = 0 → (q.1.1 27 ≤ 1200 ∧ q.1.1 28 ≤ 1000) ∧ sb_nm (q.1.1 15) (q.1.1 2) (q.1.2.1 21) (q.1.2.1 22) ∧ (q.1.1 13 < 32768 → 1 ≤ q.1.1 14 ∧ q.1.1 14 ≤ 32769) ∧ (0 ≤ q.1.1 16 ∧ 0 ≤ q.1.1 17 ∧ q.1.1 16 + q.1.1 17 ≤ q.1.1 15)))
