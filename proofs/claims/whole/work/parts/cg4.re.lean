/-! the class's reactor is made -/
/-- arrays: 1 known, 2 emitted, 3 placeFrom, 4 placeNow, 5 truth, 6 test, 7 can, 8 must, 9 sure, 10 heldBefore, 11 chosen; numbers: 12 round, 13 changed, 14 doubtful, 15 starting, 16 startedBehind, 17 begun -/
def REv (G : hg_E) (S : hg_S) (o p : Nat) (b Nb : Nat → Nat) (X : Nat → Nat → Int32) (c : Nat → Int32) : Prop :=
  hg_at S.1 o = some (.inr (10, [.ref p, .ref (b 1), .ref (b 2), .ref (b 3), .ref (b 4), .ref (b 5), .ref (b 6), .ref (b 7), .ref (b 8), .ref (b 9), .ref (b 10), .ref (b 11), .int (c 12), .int (c 13), .int (c 14), .int (c 15), .int (c 16), .int (c 17)])) ∧ ∀ i, 1 ≤ i → i < 12 → hg_at S.1 (b i) = some (.inl (G.1 (if i = 9 ∨ i = 11 then 2 else 0), Nb i, .inl (X i)))
def reB (t i : Nat) : Nat := if i < 3 then t + (i + 1) else if i < 5 then t + (i - 3) else t + (i - 1)
def reN (sg pl ps n pa i : Nat) : Nat := if i < 3 then pl else if i < 5 then sg else if i = 5 then ps else if i < 10 then n else if i = 10 then pa + 1 else pa
def reX (f : Nat → Int32) (i : Nat) : Nat → Int32 := if i = 3 ∨ i = 4 then f else fun _ => 0
abbrev re0 : List Value := [.null, .null, .null, .null, .null, .null, .null, .null, .null, .null, .null, .null, .int 0, .int 0, .int 0, .int 0, .int 0, .int 0]
section REI
variable {G : hg_E} {S : hg_S} {o p nm pc : Nat} {a N : Nat → Nat} {R : Nat → Nat → Int32} {c : Nat → Int32} {n io sg ps pa tx fA eA sA : Nat} {sc : Int32}
theorem re_w (h0 : hw S) (ho : hg_at S.1 o = some (.inr (10, re0))) (pv : PGv G S p nm pc a N R c (Int32.ofNat ps)) (hnm : hg_at S.1 nm = some (.inr (3, [.ref tx, .ref fA, .ref eA, .ref sA, .int (Int32.ofNat sg), .int sc]))) (hc : c 1 + c 2 = Int32.ofNat io) (hc3 : c 3 = Int32.ofNat pa) (hps : ps ≤ 5000) (hpa : pa ≤ 5000) (hM : ∀ i, i < 11 → N i = n) (hn : n ≤ 5000) (hio : io ≤ sg) (hsg : sg ≤ 5000) (hl : ∀ j, j < n → R 0 j = 10 → (io : Int) ≤ (R 4 j).toInt ∧ (R 4 j).toInt < (sg : Int)) (hj : ∀ j j', j < n → j' < n → R 0 j = 10 → R 0 j' = 10 → R 4 j = R 4 j' → j = j') (hw0 : ∀ j, j < n → 0 ≤ (R 7 j).toInt) {pl : Nat} (epl : pl = plc (R 0) (R 7) io n) (hp : pl ≤ 10000) (r1 : 11 ≤ S.2.2.1) (r2 : 2 * sg + 2 * pl + ps + 4 * n + 2 * pa + 1 ≤ S.2.2.2) : dc_wp (hm_RE_init G S o (some p)) (fun S' => hw S' ∧ S'.2 = (S.2.1 + 11, S.2.2.1 - 11, S.2.2.2 - (2 * sg + 2 * pl + ps + 4 * n + 2 * pa + 1)) ∧ (∀ b, b < S.2.1 → b ≠ o → hg_at S'.1 b = hg_at S.1 b) ∧ ∃ f, REv G S' o p (reB S.2.1) (reN sg pl ps n pa) (reX f) (fun _ => 0) ∧ plP (R 0) (R 4) (R 7) io n f) := by
  have np : p ≠ o := at_ne pv.1 ho (fun z => by cases z)
  have nn : nm ≠ o := at_ne hnm ho (fun z => by cases z)
  have npc : pc ≠ o := at_ne pv.2.1 ho (fun z => by cases z)
  have n0 : a 0 ≠ o := at_ne (pv.2.2 0 (by omega) (by omega)) ho (fun z => by cases z)
  have tsg : (Int32.ofNat sg).toInt = (sg : Int) := Int32.toInt_ofNat_of_lt (by omega)
  have tn : (Int32.ofNat n).toInt = (n : Int) := Int32.toInt_ofNat_of_lt (by omega)
  have tps : (Int32.ofNat ps).toInt = (ps : Int) := Int32.toInt_ofNat_of_lt (by omega)
  have tpl : (Int32.ofNat pl).toInt = (pl : Int) := Int32.toInt_ofNat_of_lt (by omega)
  have tpa : (Int32.ofNat pa).toInt = (pa : Int) := Int32.toInt_ofNat_of_lt (by omega)
  have tpa1 : (Int32.ofNat pa + 1).toInt = ((pa + 1 : Nat) : Int) := by
    rw [ad_m (by omega)]
    exact Int32.toInt_ofNat_of_lt (by omega)
  have v0 : AV S S o 10 re0 0 0 (fun _ => .inl (G.1 0, sg, .inl (fun _ => 0))) := AV_0 h0 ho
  delta hm_RE_init
  refine wa_pf v0 (Nat.le_of_ble_eq_true rfl) (fun S1 v1 => ?_)
  refine wq_gr (x := some (a 0)) (v1.at h0 pv.1 np) rfl ?_
  refine wq_ln (v1.at h0 (pv.2.2 0 (by omega) (by omega)) n0) ?_
  rw [hM 0 (by omega)]
  refine wq_gr (x := some nm) (v1.at h0 pv.1 np) rfl ?_
  refine wq_gi (x := Int32.ofNat sg) (v1.at h0 hnm nn) rfl ?_
  refine wa_nf v1 tsg (by omega) (by omega) (by omega) (Nat.le_of_ble_eq_true rfl) (fun S2 v2 => ?_)
  refine wq_gr (x := some nm) (v2.at h0 pv.1 np) rfl ?_
  refine wq_gi (x := Int32.ofNat sg) (v2.at h0 hnm nn) rfl ?_
  refine wa_nf v2 tsg (by omega) (by omega) (by omega) (Nat.le_of_ble_eq_true rfl) (fun S3 v3 => ?_)
  have v3 : AV S S3 o 10 [.ref p, .null, .null, .ref S.2.1, .ref (S.2.1 + 1), .null, .null, .null, .null, .null, .null, .null, .int 0, .int 0, .int 0, .int 0, .int 0, .int 0] 2 (2 * sg) (fun _ => .inl (G.1 0, sg, .inl (fun _ => 0))) := by
    rw [show 2 * sg = 0 + sg + sg by omega]
    refine AV_cc v3 (fun i hi => ?_)
    have : i = 0 ∨ i = 1 := by omega
    rcases this with e | e <;> subst e <;> rfl
  refine wq_chk v3.2.1 ?_
  refine wq_call (gp_w h0 ⟨_, ho⟩ pv hc hM hn hio hsg hl hj hw0 (by omega) ⟨rfl, rfl, rfl⟩ v3) ?_
  rintro ⟨S4, y⟩ ⟨ey, f, v4, hf⟩
  have ey : y = Int32.ofNat pl := by rw [epl]; exact ey
  subst ey
  have v4 : AV S S4 o 10 [.ref p, .null, .null, .ref S.2.1, .ref (S.2.1 + 1), .null, .null, .null, .null, .null, .null, .null, .int 0, .int 0, .int 0, .int 0, .int 0, .int 0] 2 (2 * sg) (fun _ => .inl (G.1 0, sg, .inl f)) := v4
  clear v0 v1 v2 v3
  refine wa_nf v4 tpl (by omega) (by omega) (by omega) (Nat.le_of_ble_eq_true rfl) (fun S5 v5 => ?_)
  clear v4
  refine wa_nf v5 tpl (by omega) (by omega) (by omega) (Nat.le_of_ble_eq_true rfl) (fun S6 v6 => ?_)
  clear v5
  refine wq_gr (x := some pc) (v6.at h0 pv.1 np) rfl ?_
  refine wq_gi (x := Int32.ofNat ps) (v6.at h0 pv.2.1 npc) rfl ?_
  refine wa_nf v6 tps (by omega) (by omega) (by omega) (Nat.le_of_ble_eq_true rfl) (fun S7 v7 => ?_)
  clear v6
  refine wa_nf v7 tn (by omega) (by omega) (by omega) (Nat.le_of_ble_eq_true rfl) (fun S8 v8 => ?_)
  clear v7
  refine wa_nf v8 tn (by omega) (by omega) (by omega) (Nat.le_of_ble_eq_true rfl) (fun S9 v9 => ?_)
  clear v8
  refine wa_nf v9 tn (by omega) (by omega) (by omega) (Nat.le_of_ble_eq_true rfl) (fun S10 v10 => ?_)
  clear v9
  refine wa_nf v10 tn (by omega) (by omega) (by omega) (Nat.le_of_ble_eq_true rfl) (fun S11 v11 => ?_)
  clear v10
  refine wq_gi (x := c 3) (v11.at h0 pv.1 np) rfl ?_
  rw [hc3]
  refine wa_nf v11 tpa1 (by omega) (by omega) (by omega) (Nat.le_of_ble_eq_true rfl) (fun S12 v12 => ?_)
  clear v11
  refine wq_gi (x := c 3) (v12.at h0 pv.1 np) rfl ?_
  rw [hc3]
  refine wa_nf v12 tpa (by omega) (by omega) (by omega) (Nat.le_of_ble_eq_true rfl) (fun S13 v13 => ?_)
  clear v12
  have ew : 2 * sg + pl + pl + ps + n + n + n + n + (pa + 1) + pa = 2 * sg + 2 * pl + ps + 4 * n + 2 * pa + 1 := by omega
  rw [ew] at v13
  obtain ⟨⟨y1, y2⟩, y3, y4, y5, y6⟩ := v13
  refine ⟨S13, rfl, y1, y4, y5, f, ⟨y3, fun i i1 i2 => ?_⟩, hf⟩
  have : i = 1 ∨ i = 2 ∨ i = 3 ∨ i = 4 ∨ i = 5 ∨ i = 6 ∨ i = 7 ∨ i = 8 ∨ i = 9 ∨ i = 10 ∨ i = 11 := by omega
  rcases this with e | e | e | e | e | e | e | e | e | e | e <;> subst e
  · exact y6 2 (by omega)
  · exact y6 3 (by omega)
  · exact y6 0 (by omega)
  · exact y6 1 (by omega)
  · exact y6 4 (by omega)
  · exact y6 5 (by omega)
  · exact y6 6 (by omega)
  · exact y6 7 (by omega)
  · exact y6 8 (by omega)
  · exact y6 9 (by omega)
  · exact y6 10 (by omega)
end REI
