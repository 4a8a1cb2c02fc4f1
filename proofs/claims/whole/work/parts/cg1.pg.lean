/-! the class's program is made -/
def PGv (G : hg_E) (S : hg_S) (o nm pc : Nat) (a N : Nat → Nat) (R : Nat → Nat → Int32) (c : Nat → Int32) (made : Int32) : Prop :=
  hg_at S.1 o = some (.inr (9, [.ref nm, .int (c 1), .int (c 2), .int (c 3), .int (c 4), .int (c 5), .ref pc, .ref (a 0), .ref (a 1), .ref (a 2), .ref (a 3), .ref (a 4), .ref (a 5), .ref (a 6), .ref (a 7), .ref (a 8), .ref (a 9)])) ∧ hg_at S.1 pc = some (.inr (5, [.ref (a 11), .ref (a 12), .ref (a 13), .ref (a 14), .ref (a 15), .int made])) ∧ ∀ i, i < 16 → ¬ i = 10 → hg_at S.1 (a i) = some (.inl (G.1 0, N i, .inl (R i)))
/-- where the program's arrays lie -/
def pgA (t : Nat) (A : Nat → Nat) (i : Nat) : Nat := if i < 10 then t + 6 + i else if i = 10 then t + 16 else if i < 16 then t + (i - 10) else if i = 16 then A 18 else A (i - 3)
def pgN (n ps c : Nat) (i : Nat) : Nat := if i < 11 then n else if i < 16 then ps else c
def pgE (G : hg_E) (t n ps : Nat) (i : Nat) : va_E := if i = 0 then .inr (5, [.ref (t + 1), .ref (t + 2), .ref (t + 3), .ref (t + 4), .ref (t + 5), .int 0]) else .inl (G.1 0, (if i < 6 then ps else n), .inl (fun _ => 0))
def pgR (B : Nat → Nat → Int32) (i : Nat) : Nat → Int32 := if i < 16 then (fun _ => 0) else if i = 16 then B 10 else B (i - 11)
abbrev pg0 : List Value := [.null, .int 0, .int 0, .int 0, .int 0, .int 0, .null, .null, .null, .null, .null, .null, .null, .null, .null, .null, .null]
section PGI
variable {G : hg_E} {S S' : hg_S} {o p1 lx nm tn : Nat} {A : Nat → Nat} {B : Nat → Nat → Int32} {P : Nat → Nat} {n xc : Nat} {c1 c2 : Nat → Option Nat} {F : Nat → Nat → Int32} {D : Nat → Int32} {ins outs q2 made : Int32} {fs : List Value} {k w : Nat} {E E' : Nat → va_E}
theorem AV_cg (v : AV S S' o 9 fs k w E) (h : ∀ i, i < k → E i = E' i) : AV S S' o 9 fs k w E' := ⟨v.1, v.2.1, v.2.2.1, v.2.2.2.1, fun i hi => by rw [← h i hi]; exact v.2.2.2.2 i hi⟩
theorem DV_AV (d : DV G S (A 5) (A 6) (A 7) P n c1 c2 (A 17) xc (B 9) F D) (ho : hg_at S.1 o = some (.inr (9, fs))) {fs' : List Value} (v : AV S S' o 9 fs' k w E) : DV G S' (A 5) (A 6) (A 7) P n c1 c2 (A 17) xc (B 9) F D := by
  obtain ⟨⟨w1, w2⟩, w3, ⟨y0, y1, y2, y4, y5, w4⟩, w5, ⟨e, md, cap, el, w6, w7, w8, w9⟩, w10⟩ := d
  have nn : ∀ {b : Nat} {y : va_E}, hg_at S.1 b = some y → ¬ y = .inr (9, fs) → hg_at S'.1 b = some y := fun {b y} hy ne => v.at w1 hy (at_ne hy ho ne)
  refine ⟨⟨v.1.1, w2⟩, nn w3 (fun z => by cases z), ⟨y0, y1, y2, y4, y5, nn w4 (fun z => by cases z)⟩, nn w5 (fun z => by cases z), ⟨e, md, cap, el, nn w6 (fun z => by cases z), nn w7 (fun z => by cases z), w8, w9⟩, fun i hi => ⟨nn (w10 i hi).1 (fun z => ?_), (w10 i hi).2⟩⟩
  have z : (8 : Nat) = 9 := congrArg (fun y : va_E => match y with | .inr (n, _) => n | .inl _ => 0) z
  omega
/-- all that is made, ahead of the rows -/
theorem pga_w (h0 : hw S) (ho : hg_at S.1 o = some (.inr (9, pg0))) (hp1 : hg_at S.1 p1 = some (.inr (4, [.ref lx, .ref nm, .ref tn, .ref (A 5), .int ins, .int outs, .int q2]))) (d : DV G S (A 5) (A 6) (A 7) P n c1 c2 (A 17) xc (B 9) F D) {ps : Nat} (hps : (D 4).toInt = (ps : Int)) (hb : ps ≤ 10000) (hn : n ≤ 10000) (r1 : 17 ≤ S.2.2.1) (r2 : 6 + 5 * ps + 11 * n ≤ S.2.2.2) {Φ : hg_S → Prop} (kk : ∀ S', AV S S' o 9 [.ref nm, .int ins, .int outs, .int (D 3), .int (D 2), .int (D 5), .ref S.2.1, .ref (S.2.1 + 6), .ref (S.2.1 + 7), .ref (S.2.1 + 8), .ref (S.2.1 + 9), .ref (S.2.1 + 10), .ref (S.2.1 + 11), .ref (S.2.1 + 12), .ref (S.2.1 + 13), .ref (S.2.1 + 14), .ref (S.2.1 + 15)] 17 (6 + 5 * ps + 11 * n) (pgE G S.2.1 n ps) → dc_wp (hm_PG_init_L158 G S' o (some (A 5)) (Int32.ofNat n) (some (S.2.1 + 16)) 0) Φ) : dc_wp (hm_PG_init G S o (some p1)) Φ := by
  have n1 : p1 ≠ o := at_ne hp1 ho (fun z => by cases z)
  have n5 : A 5 ≠ o := at_ne d.2.1 ho (fun z => by cases z)
  have tn : (Int32.ofNat n).toInt = (n : Int) := Int32.toInt_ofNat_of_lt (by omega)
  delta hm_PG_init
  refine wq_gr (x := some (A 5)) hp1 rfl ?_
  refine wq_gr (x := some (A 7)) d.2.1 rfl ?_
  obtain ⟨e, md, cap, el, w6, -⟩ := d.2.2.2.2.1
  refine wq_chk w6 ?_
  refine wn_size d ?_
  refine wq_gr (x := some nm) hp1 rfl ?_
  have v0 : AV S S o 9 pg0 0 0 (fun _ => .inr (0, [])) := AV_0 h0 ho
  refine wa_pf v0 (Nat.le_of_ble_eq_true rfl) (fun S1 v1 => ?_)
  refine wq_gi (x := ins) (v1.at h0 hp1 n1) rfl ?_
  refine wa_pf v1 (Nat.le_of_ble_eq_true rfl) (fun S2 v2 => ?_)
  refine wq_gi (x := outs) (v2.at h0 hp1 n1) rfl ?_
  refine wa_pf v2 (Nat.le_of_ble_eq_true rfl) (fun S3 v3 => ?_)
  refine wq_gi (x := D 3) (v3.at h0 d.2.1 n5) rfl ?_
  refine wa_pf v3 (Nat.le_of_ble_eq_true rfl) (fun S4 v4 => ?_)
  refine wq_gi (x := D 2) (v4.at h0 d.2.1 n5) rfl ?_
  refine wa_pf v4 (Nat.le_of_ble_eq_true rfl) (fun S5 v5 => ?_)
  refine wq_gi (x := D 5) (v5.at h0 d.2.1 n5) rfl ?_
  refine wa_pf v5 (Nat.le_of_ble_eq_true rfl) (fun S6 v6 => ?_)
  have v6 : AV S S6 o 9 [.ref nm, .int ins, .int outs, .int (D 3), .int (D 2), .int (D 5), .null, .null, .null, .null, .null, .null, .null, .null, .null, .null, .null] 0 0 (fun _ => .inr (0, [])) := v6
  have t6 : S6.2.1 = S.2.1 := by rw [v6.2.2.1]; rfl
  rw [t6]
  refine wa_new v6 (by omega) (by omega) (fun S7 v7 => ?_)
  refine wq_gi (x := D 4) (v7.at h0 d.2.1 n5) rfl ?_
  have t7 : S7.2.1 = S.2.1 + 1 := by rw [v7.2.2.1]
  have s7 : S7.2.2.1 = S.2.2.1 - 1 ∧ S7.2.2.2 = S.2.2.2 - 6 := by rw [v7.2.2.1]; exact ⟨rfl, rfl⟩
  refine wq_call (pi_w v7.1.1 (v7.2.2.2.2 0 (by omega)) hps (by omega) (by omega) (by omega)) (fun S8 u8 => ?_)
  have v8 := AV_in v7 (j := 0) (by omega) u8
  rw [t7] at v8
  clear v7 u8 t7 s7 v0 v1 v2 v3 v4 v5 v6
  refine wa_pf v8 (Nat.le_of_ble_eq_true rfl) (fun S9 v9 => ?_)
  clear v8
  refine wa_nf v9 tn (by omega) (by omega) (by omega) (Nat.le_of_ble_eq_true rfl) (fun S10 v10 => ?_)
  clear v9
  refine wa_nf v10 tn (by omega) (by omega) (by omega) (Nat.le_of_ble_eq_true rfl) (fun S11 v11 => ?_)
  clear v10
  refine wa_nf v11 tn (by omega) (by omega) (by omega) (Nat.le_of_ble_eq_true rfl) (fun S12 v12 => ?_)
  clear v11
  refine wa_nf v12 tn (by omega) (by omega) (by omega) (Nat.le_of_ble_eq_true rfl) (fun S13 v13 => ?_)
  clear v12
  refine wa_nf v13 tn (by omega) (by omega) (by omega) (Nat.le_of_ble_eq_true rfl) (fun S14 v14 => ?_)
  clear v13
  refine wa_nf v14 tn (by omega) (by omega) (by omega) (Nat.le_of_ble_eq_true rfl) (fun S15 v15 => ?_)
  clear v14
  refine wa_nf v15 tn (by omega) (by omega) (by omega) (Nat.le_of_ble_eq_true rfl) (fun S16 v16 => ?_)
  clear v15
  refine wa_nf v16 tn (by omega) (by omega) (by omega) (Nat.le_of_ble_eq_true rfl) (fun S17 v17 => ?_)
  clear v16
  refine wa_nf v17 tn (by omega) (by omega) (by omega) (Nat.le_of_ble_eq_true rfl) (fun S18 v18 => ?_)
  clear v17
  refine wa_nf v18 tn (by omega) (by omega) (by omega) (Nat.le_of_ble_eq_true rfl) (fun S19 v19 => ?_)
  clear v18
  have t19 : S19.2.1 = S.2.1 + 16 := by rw [v19.2.2.1]
  rw [t19]
  refine wa_na v19 tn (by omega) (by omega) (by omega) (fun S20 v20 => ?_)
  clear v19
  refine kk S20 ?_
  rw [show 0 + 6 + 5 * ps + n + n + n + n + n + n + n + n + n + n + n = 6 + 5 * ps + 11 * n by omega] at v20
  refine AV_cg v20 (fun i hi => ?_)
  have : i = 0 ∨ i = 1 ∨ i = 2 ∨ i = 3 ∨ i = 4 ∨ i = 5 ∨ i = 6 ∨ i = 7 ∨ i = 8 ∨ i = 9 ∨ i = 10 ∨ i = 11 ∨ i = 12 ∨ i = 13 ∨ i = 14 ∨ i = 15 ∨ i = 16 := by omega
  rcases this with e | e | e | e | e | e | e | e | e | e | e | e | e | e | e | e | e <;> subst e <;> rfl
end PGI
