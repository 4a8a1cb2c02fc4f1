/-! the class's read: the text, the parser -/
theorem fit_b {x : Int32} (h : fits .byte (.int x) = true) : -128 ≤ x.toInt ∧ x.toInt ≤ 127 := by
  have e1 : (-128 : Int32).toInt = -128 := by decide
  have e2 : (127 : Int32).toInt = 127 := by decide
  simp only [fits, Bool.and_eq_true, decide_eq_true_eq] at h
  rw [i_le, i_le, e1, e2] at h
  exact h
section CB
variable {G : hg_E} {S : hg_S} {t N : Nat} {g : Nat → Int32}
theorem cb_w (h0 : hw S) (h : hg_at S.1 t = some (.inl (G.1 1, N, .inl g))) (hf : ∀ i, fits .byte (.int (g i)) = true) {x : Int32} {n : Nat} (hx : x.toInt = (n : Int)) (hn : n ≤ N) (hN : N ≤ 100000) (r1 : 1 ≤ S.2.2.1) (r2 : n ≤ S.2.2.2) : dc_wp (hm_JA_copyB G S (some t) x) (fun q => q.2 = some S.2.1 ∧ hw q.1 ∧ q.1.2 = (S.2.1 + 1, S.2.2.1 - 1, S.2.2.2 - n) ∧ (∀ b, b ≠ S.2.1 → hg_at q.1.1 b = hg_at S.1 b) ∧ ∃ f, hg_at q.1.1 S.2.1 = some (.inl (G.1 1, n, .inl f)) ∧ (∀ i, i < n → f i = g i) ∧ ∀ i, fits .byte (.int (f i)) = true) := by
  have ht := h0.lt h
  have tN : (Int32.ofNat N).toInt = (N : Int) := Int32.toInt_ofNat_of_lt (by omega)
  delta hm_JA_copyB
  refine wq_ln h ?_
  refine wq_if (fun c => ?_) (fun c => ?_)
  · have en : n = N := by
      have := i_eq.mp c
      rw [hx, tN] at this
      omega
    subst en
    have e : hg_cln G S 1 .byte (some t) = some (hp S (.inl (G.1 1, n, .inl g)) n) := by
      unfold hg_cln
      rw [vq_ia h, Option.bind_some]
      dsimp only
      rw [if_pos ⟨r1, r2, fun i _ => hf i⟩]
      rfl
    rw [e]
    show dc_wp ((hg_ia (hp S (.inl (G.1 1, n, .inl g)) n) (some S.2.1) (G.1 1)).bind fun e3 => some (hp S (.inl (G.1 1, n, .inl g)) n, (some S.2.1 : Option Nat))) _
    refine wq_ia (hp_self h0) ?_
    exact ⟨_, rfl, rfl, h0.hp, rfl, fun b hb => hp_ne hb, g, hp_self h0, fun _ _ => rfl, hf⟩
  · refine wq_newa (N := n) hx r1 r2 (by omega) ?_
    refine wq_let (fun v hv => ?_)
    subst hv
    have b1 : hg_at (hp S (.inl (G.1 1, n, .inl (fun _ => 0))) n).1 t = some (.inl (G.1 1, N, .inl g)) := by
      rw [hp_ne (by omega)]; exact h
    have b2 : hg_at (hp S (.inl (G.1 1, n, .inl (fun _ => 0))) n).1 S.2.1 = some (.inl (G.1 1, n, .inl (fun _ => 0))) := hp_self h0
    refine wq_ln b1 ?_
    have m1 : hg_min (Int32.ofNat N) x = x := by
      unfold hg_min
      rw [if_pos (i_lt.mpr (by
        have : ¬ x.toInt = (Int32.ofNat N).toInt := fun z => c (i_eq.mpr z)
        rw [tN] at this ⊢
        omega))]
    rw [m1]
    refine wq_cpy b1 b2 (by rw [il_0]; omega) (by rw [il_0]; omega) (by omega) (by rw [il_0]; omega) (by rw [il_0]; omega) (fun i hi => hf _) ?_
    rw [il_0]
    have xn : x.toInt.toNat = n := by omega
    rw [xn]
    refine ⟨_, rfl, rfl, h0.hp.hu, rfl, fun b hb => ?_, _, hu_self b2, fun i hi => ?_, fun i => ?_⟩
    · show hg_at (hu _ S.2.1 _).1 b = _
      rw [hu_ne hb, hp_ne hb]
    · unfold va_cpy
      rw [if_pos ⟨by omega, by omega⟩]
      congr 1
      omega
    · unfold va_cpy
      by_cases z : (0 : Int).toNat ≤ i ∧ i < (0 : Int).toNat + n
      · rw [if_pos z]; exact hf _
      · rw [if_neg z]; rfl
end CB
section PAI
variable {G : hg_E} {S : hg_S} {o tx : Nat}
abbrev arr4 (G : hg_E) : va_E := .inl (G.1 0, 4, .inl (fun _ => 0))
def drE (G : hg_E) (t : Nat) (i : Nat) : va_E := if i = 0 then .inr (7, [.ref G.2.2.1, .int 0, .int 0]) else if i = 1 then .inr (5, [.ref (t + 2), .ref (t + 3), .ref (t + 4), .ref (t + 5), .ref (t + 6), .int 0]) else arr4 G
theorem di_w (h0 : hw S) (ho : hg_at S.1 o = some (.inr (6, [.null, .null, .int 0, .int 0, .int 0, .int 0]))) (r1 : 7 ≤ S.2.2.1) (r2 : 29 ≤ S.2.2.2) : dc_wp (hm_DR_init G S o) (fun S' => AV S S' o 6 [.ref S.2.1, .ref (S.2.1 + 1), .int 0, .int 0, .int 0, .int 0] 7 29 (drE G S.2.1)) := by
  delta hm_DR_init
  have v0 : AV S S o 6 [.null, .null, .int 0, .int 0, .int 0, .int 0] 0 0 (fun _ => arr4 G) := AV_0 h0 ho
  refine wa_new v0 (by omega) (by omega) (fun S1 v1 => ?_)
  have t1 : S1.2.1 = S.2.1 + 1 := by rw [v1.2.2.1]
  have a1 : hg_at S1.1 S.2.1 = some (.inr (7, [.null, .int 0, .int 0])) := v1.2.2.2.2 0 (by omega)
  have u0 : AV S1 S1 S.2.1 7 [.null, .int 0, .int 0] 0 0 (fun _ => arr4 G) := AV_0 v1.1.1 a1
  refine wq_call (P := fun S2 => AV S1 S2 S.2.1 7 [.ref G.2.2.1, .int 0, .int 0] 0 0 (fun _ => arr4 G)) ?_ ?_
  · delta hm_AL_init hm_AB_init hm_AC_init
    refine wq_call (P := fun S2 => AV S1 S2 S.2.1 7 [.null, .int 0, .int 0] 0 0 (fun _ => arr4 G)) ?_ (fun S2 u2 => ?_)
    · refine wa_pf u0 (Nat.le_of_ble_eq_true rfl) (fun S2 u2 => ?_)
      exact ⟨S2, rfl, u2⟩
    · refine wa_pf u2 (Nat.le_of_ble_eq_true rfl) (fun S3 u3 => ?_)
      exact ⟨S3, rfl, u3⟩
  · intro S2 u2
    have v2 := AV_in v1 (j := 0) (by omega) u2
    refine wa_pf v2 (Nat.le_of_ble_eq_true rfl) (fun S3 v3 => ?_)
    have t3 : S3.2.1 = S.2.1 + 1 := by rw [v3.2.2.1]
    rw [t3]
    refine wa_new v3 (by omega) (by omega) (fun S4 v4 => ?_)
    have t4 : S4.2.1 = S.2.1 + 2 := by rw [v4.2.2.1]
    have s4 : S4.2.2.1 = S.2.2.1 - 2 ∧ S4.2.2.2 = S.2.2.2 - 9 := by rw [v4.2.2.1]; exact ⟨rfl, rfl⟩
    refine wq_call (pi_w (o := S.2.1 + 1) v4.1.1 (v4.2.2.2.2 1 (by omega)) (show (4 : Int32).toInt = ((4 : Nat) : Int) by decide) (by omega) (by omega) (by omega)) (fun S5 u5 => ?_)
    have v5 := AV_in v4 (j := 1) (by omega) u5
    rw [t4] at v5
    refine wa_pf v5 (Nat.le_of_ble_eq_true rfl) (fun S6 v6 => ?_)
    refine ⟨S6, rfl, ?_⟩
    refine AV_cc v6 (fun i hi => ?_)
    have : i = 0 ∨ i = 1 ∨ i = 2 ∨ i = 3 ∨ i = 4 ∨ i = 5 ∨ i = 6 := by omega
    rcases this with e | e | e | e | e | e | e <;> subst e <;> rfl
def nmE (G : hg_E) : Nat → va_E := fun _ => arr4 G
theorem ni_w (h0 : hw S) (ho : hg_at S.1 o = some (.inr (3, [.null, .null, .null, .null, .int 0, .int 0]))) (r1 : 3 ≤ S.2.2.1) (r2 : 12 ≤ S.2.2.2) : dc_wp (hm_NM_init G S o (some tx)) (fun S' => AV S S' o 3 [.ref tx, .ref S.2.1, .ref (S.2.1 + 1), .ref (S.2.1 + 2), .int 0, .int 0] 3 12 (nmE G)) := by
  delta hm_NM_init
  have v0 : AV S S o 3 [.null, .null, .null, .null, .int 0, .int 0] 0 0 (nmE G) := AV_0 h0 ho
  have e4 : (4 : Int32).toInt = ((4 : Nat) : Int) := by decide
  refine wa_nf v0 e4 (by omega) (by omega) (by omega) (Nat.le_of_ble_eq_true rfl) (fun S1 v1 => ?_)
  refine wa_nf v1 e4 (by omega) (by omega) (by omega) (Nat.le_of_ble_eq_true rfl) (fun S2 v2 => ?_)
  refine wa_nf v2 e4 (by omega) (by omega) (by omega) (Nat.le_of_ble_eq_true rfl) (fun S3 v3 => ?_)
  refine wa_pf v3 (Nat.le_of_ble_eq_true rfl) (fun S4 v4 => ?_)
  refine ⟨S4, rfl, AV_cc v4 (fun i hi => ?_)⟩
  have : i = 0 ∨ i = 1 ∨ i = 2 := by omega
  rcases this with e | e | e <;> subst e <;> rfl
theorem li_w (h0 : hw S) (ho : hg_at S.1 o = some (.inr (2, [.null, .null, .int 0, .int 0, .int 0, .int 0]))) : dc_wp (hm_LX_init G S o (some tx)) (fun S' => AV S S' o 2 [.ref tx, .ref (G.2.1 32), .int 0, .int 0, .int 1, .int 0] 0 0 (nmE G)) := by
  delta hm_LX_init
  have v0 : AV S S o 2 [.null, .null, .int 0, .int 0, .int 0, .int 0] 0 0 (nmE G) := AV_0 h0 ho
  refine wa_pf v0 (Nat.le_of_ble_eq_true rfl) (fun S1 v1 => ?_)
  refine wa_pf v1 (Nat.le_of_ble_eq_true rfl) (fun S2 v2 => ?_)
  refine wa_pf v2 (Nat.le_of_ble_eq_true rfl) (fun S3 v3 => ?_)
  exact ⟨S3, rfl, v3⟩
/-- what the parser's making leaves: draft, list, pieces and their rows, lexer, names and their rows, traps and theirs -/
def paE (G : hg_E) (t tx : Nat) (i : Nat) : va_E := if i = 0 then .inr (6, [.ref (t + 1), .ref (t + 2), .int 0, .int 0, .int 0, .int 0]) else if i = 1 then .inr (7, [.ref G.2.2.1, .int 0, .int 0]) else if i = 2 then .inr (5, [.ref (t + 3), .ref (t + 4), .ref (t + 5), .ref (t + 6), .ref (t + 7), .int 0]) else if i = 8 then .inr (2, [.ref tx, .ref (G.2.1 32), .int 0, .int 0, .int 1, .int 0]) else if i = 9 then .inr (3, [.ref tx, .ref (t + 10), .ref (t + 11), .ref (t + 12), .int 0, .int 0]) else if i = 13 then .inr (3, [.ref tx, .ref (t + 14), .ref (t + 15), .ref (t + 16), .int 0, .int 0]) else arr4 G
theorem pai_w (h0 : hw S) (ho : hg_at S.1 o = some (.inr (4, [.null, .null, .null, .null, .int 0, .int 0, .int 0]))) (r1 : 17 ≤ S.2.2.1) (r2 : 77 ≤ S.2.2.2) : dc_wp (hm_PA_init G S o (some tx)) (fun S' => AV S S' o 4 [.ref (S.2.1 + 8), .ref (S.2.1 + 9), .ref (S.2.1 + 13), .ref S.2.1, .int 0, .int 0, .int 0] 17 77 (paE G S.2.1 tx)) := by
  delta hm_PA_init
  have v0 : AV S S o 4 [.null, .null, .null, .null, .int 0, .int 0, .int 0] 0 0 (nmE G) := AV_0 h0 ho
  refine wa_new v0 (by omega) (by omega) (fun S1 v1 => ?_)
  have t1 : S1.2.1 = S.2.1 + 1 := by rw [v1.2.2.1]
  have s1 : S1.2.2.1 = S.2.2.1 - 1 ∧ S1.2.2.2 = S.2.2.2 - 6 := by rw [v1.2.2.1]; exact ⟨rfl, rfl⟩
  refine wq_call (di_w (o := S.2.1) v1.1.1 (v1.2.2.2.2 0 (by omega)) (by omega) (by omega)) (fun S2 u2 => ?_)
  have v2 := AV_in v1 (j := 0) (by omega) u2
  rw [t1] at v2
  clear v0 v1 u2
  refine wa_pf v2 (Nat.le_of_ble_eq_true rfl) (fun S3 v3 => ?_)
  clear v2
  have t3 : S3.2.1 = S.2.1 + 8 := by rw [v3.2.2.1]
  rw [t3]
  refine wa_new v3 (by omega) (by omega) (fun S4 v4 => ?_)
  clear v3
  refine wq_call (li_w (o := S.2.1 + 8) v4.1.1 (v4.2.2.2.2 8 (by omega))) (fun S5 u5 => ?_)
  have v5 := AV_in v4 (j := 8) (by omega) u5
  clear v4 u5
  refine wa_pf v5 (Nat.le_of_ble_eq_true rfl) (fun S6 v6 => ?_)
  clear v5
  have t6 : S6.2.1 = S.2.1 + 9 := by rw [v6.2.2.1]
  rw [t6]
  refine wa_new v6 (by omega) (by omega) (fun S7 v7 => ?_)
  clear v6
  have t7 : S7.2.1 = S.2.1 + 10 := by rw [v7.2.2.1]
  have s7 : S7.2.2.1 = S.2.2.1 - 10 ∧ S7.2.2.2 = S.2.2.2 - 47 := by rw [v7.2.2.1]; exact ⟨rfl, rfl⟩
  refine wq_call (ni_w (tx := tx) (o := S.2.1 + 9) v7.1.1 (v7.2.2.2.2 9 (by omega)) (by omega) (by omega)) (fun S8 u8 => ?_)
  have v8 := AV_in v7 (j := 9) (by omega) u8
  rw [t7] at v8
  clear v7 u8
  refine wa_pf v8 (Nat.le_of_ble_eq_true rfl) (fun S9 v9 => ?_)
  clear v8
  have t9 : S9.2.1 = S.2.1 + 13 := by rw [v9.2.2.1]
  rw [t9]
  refine wa_new v9 (by omega) (by omega) (fun S10 v10 => ?_)
  clear v9
  have t10 : S10.2.1 = S.2.1 + 14 := by rw [v10.2.2.1]
  have s10 : S10.2.2.1 = S.2.2.1 - 14 ∧ S10.2.2.2 = S.2.2.2 - 65 := by rw [v10.2.2.1]; exact ⟨rfl, rfl⟩
  refine wq_call (ni_w (tx := tx) (o := S.2.1 + 13) v10.1.1 (v10.2.2.2.2 13 (by omega)) (by omega) (by omega)) (fun S11 u11 => ?_)
  have v11 := AV_in v10 (j := 13) (by omega) u11
  rw [t10] at v11
  clear v10 u11
  refine wa_pf v11 (Nat.le_of_ble_eq_true rfl) (fun S12 v12 => ?_)
  clear v11
  refine ⟨S12, rfl, AV_cc v12 (fun i hi => ?_)⟩
  have : i = 0 ∨ i = 1 ∨ i = 2 ∨ i = 3 ∨ i = 4 ∨ i = 5 ∨ i = 6 ∨ i = 7 ∨ i = 8 ∨ i = 9 ∨ i = 10 ∨ i = 11 ∨ i = 12 ∨ i = 13 ∨ i = 14 ∨ i = 15 ∨ i = 16 := by omega
  rcases this with e | e | e | e | e | e | e | e | e | e | e | e | e | e | e | e | e <;> subst e <;> rfl
end PAI
