/-! the class's read: program, reactor, held pauses and shown signals are made -/
abbrev enL (t : Nat) (n f : Int32) (pg rc hd sh : Value) (st en rn : Int32) (ta tn : Value) (ex la : Int32) : List Value := [.ref t, .int n, .int f, pg, rc, .int st, .int en, hd, sh, .int rn, ta, tn, .int ex, .int la]
section WO
variable {τ : Type} {Φ : τ → Prop} {S : hg_S} {o ci : Nat} {fs : List Value}
theorem wo_pf (h0 : hw S) (h : hg_at S.1 o = some (.inr (ci, fs))) {j : Nat} {v : Value} (hj : j < fs.length) {fs' : List Value} (e : fs.set j v = fs') {E : hg_S → Option τ} (kk : ∀ S', hw S' → S'.2 = S.2 → hg_at S'.1 o = some (.inr (ci, fs')) → (∀ b, b ≠ o → hg_at S'.1 b = hg_at S.1 b) → dc_wp (E S') Φ) : dc_wp ((hg_pf S (some o) ci j v).bind E) Φ := by
  refine wq_pf h hj ?_
  rw [e]
  exact kk _ h0.hu rfl (hu_self h) (fun b hb => hu_ne hb)
theorem wo_new (h0 : hw S) {N : Nat} (h1 : 1 ≤ S.2.2.1) (h2 : N ≤ S.2.2.2) {E : hg_S → Option τ} (kk : ∀ S', hw S' → S'.2 = (S.2.1 + 1, S.2.2.1 - 1, S.2.2.2 - N) → hg_at S'.1 S.2.1 = some (.inr (ci, fs)) → (∀ b, b < S.2.1 → hg_at S'.1 b = hg_at S.1 b) → dc_wp (E S') Φ) : dc_wp ((hg_new S ci N fs).bind E) Φ := wq_new h1 h2 (kk _ h0.hp rfl (hp_self h0) (fun b hb => hp_ne (by omega)))
theorem wo_na (h0 : hw S) {G : hg_E} {t : Nat} {x : Int32} {N : Nat} (hx : x.toInt = (N : Int)) (h1 : 1 ≤ S.2.2.1) (h2 : N ≤ S.2.2.2) (h3 : N ≤ 100000000) {E : hg_S → Option τ} (kk : ∀ S', hw S' → S'.2 = (S.2.1 + 1, S.2.2.1 - 1, S.2.2.2 - N) → hg_at S'.1 S.2.1 = some (.inl (G.1 t, N, .inl (fun _ => 0))) → (∀ b, b < S.2.1 → hg_at S'.1 b = hg_at S.1 b) → dc_wp (E S') Φ) : dc_wp ((hg_newa G S t x).bind E) Φ := wq_newa hx h1 h2 (by omega) (kk _ h0.hp rfl (hp_self h0) (fun b hb => hp_ne (by omega)))
end WO
section RDT
variable {G : hg_E} {S : hg_S} {o t : Nat} {A : Nat → Nat} {B : Nat → Nat → Int32} {P : Nat → Nat} {n xc : Nat} {ND : Nat → ndT} {F : Nat → Nat → Int32} {D : Nat → Int32} {ins outs q2 made names : Int32} {θ : (Int32 → Prop) → Int32 → Prop} {m : Nat} {T : tT} {i : Nat} {I : List Nat} {V : Int32 → Prop} {Q : Nat → Nat → Int32} {ta tn : Value} {sg io pa ps pl tx fA eA sA : Nat} {sc : Int32}
theorem PGv.fr {S' : hg_S} {u nm n ps xc : Nat} {R : Nat → Nat → Int32} {c : Nat → Int32} {md : Int32} (v : PGv G S u nm (u + 1) (pgA (u + 1) A) (pgN n ps xc) R c md) (e : ∀ b, u ≤ b → b < u + 18 → hg_at S'.1 b = hg_at S.1 b) : PGv G S' u nm (u + 1) (pgA (u + 1) A) (pgN n ps xc) R c md := by
  refine ⟨(e u (by omega) (by omega)).trans v.1, (e _ (by omega) (by omega)).trans v.2.1, fun i hi n10 => (e _ ?_ ?_).trans (v.2.2 i hi n10)⟩
  · rcases pgA_c (u + 1) A i (by omega) with ⟨z, a⟩ | ⟨z, a⟩ | ⟨z, z1, a⟩ | ⟨z, -⟩ <;> omega
  · rcases pgA_c (u + 1) A i (by omega) with ⟨z, a⟩ | ⟨z, a⟩ | ⟨z, z1, a⟩ | ⟨z, -⟩ <;> omega
theorem reB_c (t i : Nat) (h1 : 1 ≤ i) (h2 : i < 12) : t ≤ reB t i ∧ reB t i < t + 11 := by
  unfold reB
  by_cases a : i < 3
  · rw [if_pos a]; omega
  · rw [if_neg a]
    by_cases b : i < 5
    · rw [if_pos b]; omega
    · rw [if_neg b]; omega
theorem REv.fr {S' : hg_S} {o p t : Nat} {Nb : Nat → Nat} {X : Nat → Nat → Int32} {c : Nat → Int32} (v : REv G S o p (reB t) Nb X c) (e : ∀ b, b = o ∨ (t ≤ b ∧ b < t + 11) → hg_at S'.1 b = hg_at S.1 b) : REv G S' o p (reB t) Nb X c := ⟨(e o (Or.inl rfl)).trans v.1, fun i i1 i2 => (e _ (Or.inr (reB_c t i i1 i2))).trans (v.2 i i1 i2)⟩
theorem rdt_w (h0 : hw S) (he : hg_at S.1 o = some (.inr (0, enL t 0 0 .null .null .null .null 0 0 0 ta tn 0 0))) (hA0 : ∀ i, i < 19 → o < A i) (hp1 : hg_at S.1 (A 0) = some (.inr (4, [.ref (A 1), .ref (A 3), .ref (A 4), .ref (A 5), .int ins, .int outs, .int q2]))) (d : DV G S (A 5) (A 6) (A 7) P n (fun i => (ND i).2.2.1) (fun i => (ND i).2.2.2.1) (A 17) xc (B 9) F D) (hA : inA A) (hpi : piv G S (A 6) (A 14) (A 15) (A 16) (A 17) (A 18) xc (B 6) (B 7) (B 8) (B 9) (B 10) made) (hnm : hg_at S.1 (A 3) = some (.inr (3, [.ref tx, .ref fA, .ref eA, .ref sA, .int (Int32.ofNat sg), .int sc])))
    (W : pcW names (B 6) (B 7) (B 8) (B 9) m) (hm : m ≤ 50000) (hmc : m ≤ xc) (hθ : ∀ V e, θ V e → 0 ≤ e.toInt ∧ e.toInt < (m : Int) ∧ 1 ≤ (B 9 e.toInt.toNat).toInt ∧ (B 9 e.toInt.toNat).toInt ≤ 2000) (st : sTo ND (B 9) n T i I F D) (hO : okT θ V T) (hw' : wfT T []) (hT : repC ND T i I) (cv : cov I 0 n) (hd : ((tpT T).map Prod.snd).Nodup) (ht : tdp T ≤ 26) (hwd : twd T ≤ 900) (hz : tsz T ≤ 1200) (h6 : ∀ j, F j 6 = (ND j).2.2.2.2.2.2) (hts : tsm (B 9) T ≤ 1000) (hQ : LPr True False (B 6) (B 7) (B 9) Q T 0 (-1) 1 (-1) 0 0) (hC : CPr Q T 0 []) (h62 : (Q 62 (tsz T)).toInt = pas T) (eps : ps = (tsm (B 9) T).toNat)
    (hc : ins + outs = Int32.ofNat io) (hc3 : D 3 = Int32.ofNat pa) (hpa : pa ≤ 200) (hio : io ≤ sg) (hsg : sg ≤ 400) (hln : (lcT T).Nodup) (hlr : ∀ y, y ∈ lcT T → (io : Int) ≤ y.toInt ∧ y.toInt < (sg : Int)) (epl : pl = plc (Q 51) (Q 57) io n) (hpl : pl ≤ 10000) (r1 : 32 ≤ S.2.2.1) (r2 : 42 + 6 * ps + 15 * n + 2 * sg + 2 * pl + 3 * pa + io ≤ S.2.2.2) : dc_wp (hm_SE_read_L49 G S o (some (A 0)) 0) (fun z => z.2 = 0 ∧ hw z.1 ∧ z.1.2 = (S.2.1 + 32, S.2.2.1 - 32, S.2.2.2 - (42 + 6 * ps + 15 * n + 2 * sg + 2 * pl + 3 * pa + io)) ∧ (∀ b, b < S.2.1 → b ≠ o → (∀ i, 14 ≤ i → i < 19 → b ≠ A i) → hg_at z.1.1 b = hg_at S.1 b) ∧ hg_at z.1.1 o = some (.inr (0, enL t 0 0 (.ref S.2.1) (.ref (S.2.1 + 18)) (.ref (S.2.1 + 30)) (.ref (S.2.1 + 31)) 0 0 0 ta tn 0 0)) ∧ ∃ R f, PGv G z.1 S.2.1 (A 3) (S.2.1 + 1) (pgA (S.2.1 + 1) A) (pgN n ps xc) R (pgC ins outs D) (Int32.ofNat ps) ∧ rEq R Q n ps ∧ REv G z.1 (S.2.1 + 18) S.2.1 (reB (S.2.1 + 19)) (reN sg pl ps n pa) (reX f) (fun _ => 0) ∧ plP (R 0) (R 4) (R 7) io n f ∧ hg_at z.1.1 (S.2.1 + 30) = some (.inl (G.1 2, pa, .inl (fun _ => 0))) ∧ hg_at z.1.1 (S.2.1 + 31) = some (.inl (G.1 0, io, .inl (fun _ => 0)))) := by
  have lo : o < S.2.1 := h0.lt he
  have en := tsz_n hT cv
  have l0 : A 0 < S.2.1 := h0.lt hp1
  have l3 : A 3 < S.2.1 := h0.lt hnm
  delta hm_SE_read_L49
  rw [if_pos rfl]
  refine wq_new (by omega) (by omega) ?_
  -- the program
  have k1 : hw (hp S (.inr (9, pg0)) 17) := h0.hp
  have s1 : (hp S (.inr (9, pg0)) 17).2 = (S.2.1 + 1, S.2.2.1 - 1, S.2.2.2 - 17) := rfl
  have e1 : ∀ {b : Nat} {y : va_E}, hg_at S.1 b = some y → hg_at (hp S (.inr (9, pg0)) 17).1 b = some y := fun {b y} h => (hp_ne (by have := h0.lt h; omega)).trans h
  have o1 : hg_at (hp S (.inr (9, pg0)) 17).1 S.2.1 = some (.inr (9, pg0)) := hp_self h0
  have d1 := DV_hp (e := .inr (9, pg0)) (n := 17) d
  have pi1 : piv G (hp S (.inr (9, pg0)) 17) (A 6) (A 14) (A 15) (A 16) (A 17) (A 18) xc (B 6) (B 7) (B 8) (B 9) (B 10) made := ⟨e1 hpi.1, e1 hpi.2.1, e1 hpi.2.2.1, e1 hpi.2.2.2.1, e1 hpi.2.2.2.2.1, e1 hpi.2.2.2.2.2⟩
  have he1 := e1 he
  have hp11 := e1 hp1
  have hnm1 := e1 hnm
  have fr1 : ∀ b, b < S.2.1 → hg_at (hp S (.inr (9, pg0)) 17).1 b = hg_at S.1 b := fun b hb => hp_ne (by omega)
  clear e1
  generalize hp S (.inr (9, pg0)) 17 = S1 at k1 s1 o1 d1 pi1 he1 hp11 hnm1 fr1
  have t1 : S1.2.1 = S.2.1 + 1 := by rw [s1]
  refine wq_call (pg_w (ps := ps) k1 o1 hp11 d1 hA pi1 W hm hmc hθ st hO hw' hT cv hd ht hwd hz h6 hts hQ hC h62 eps (by rw [s1]; show 17 ≤ S.2.2.1 - 1; omega) (by rw [s1]; show _ ≤ S.2.2.2 - 17; omega)) ?_
  rintro S2 ⟨k2, s2, fr2, R, pv2, rq⟩
  rw [s1] at s2
  rw [t1] at fr2 pv2
  have s2 : S2.2 = (S.2.1 + 18, S.2.2.1 - 18, S.2.2.2 - (23 + 5 * ps + 11 * n)) := by
    rw [s2]
    show (S.2.1 + 1 + 17, S.2.2.1 - 1 - 17, S.2.2.2 - 17 - (6 + 5 * ps + 11 * n)) = _
    rw [Nat.sub_sub, Nat.sub_sub, show 17 + (6 + 5 * ps + 11 * n) = 23 + 5 * ps + 11 * n by omega]
  have he2 : hg_at S2.1 o = some (.inr (0, enL t 0 0 .null .null .null .null 0 0 0 ta tn 0 0)) := (fr2 o (by omega) (by omega) (fun i i1 i2 => by have := hA0 i (by omega); omega)).trans he1
  have hnm2 : hg_at S2.1 (A 3) = some (.inr (3, [.ref tx, .ref fA, .ref eA, .ref sA, .int (Int32.ofNat sg), .int sc])) := (fr2 _ (by omega) (by omega) (fun i i1 i2 => hA.ne (by omega) (by omega) (by omega))).trans hnm1
  clear pi1 d1 hp11 he1 hnm1
  refine wo_pf k2 he2 (Nat.le_of_ble_eq_true rfl) (fs' := enL t 0 0 (.ref S.2.1) .null .null .null 0 0 0 ta tn 0 0) rfl (fun S3 k3 s3 he3 fr3 => ?_)
  rw [s2] at s3
  have t3 : S3.2.1 = S.2.1 + 18 := by rw [s3]
  rw [t3]
  refine wo_new k3 (by rw [s3]; show 1 ≤ S.2.2.1 - 18; omega) (by rw [s3]; show 18 ≤ S.2.2.2 - _; omega) (fun S4 k4 s4 o4 fr4 => ?_)
  rw [t3] at o4 fr4
  have s4 : S4.2 = (S.2.1 + 19, S.2.2.1 - 19, S.2.2.2 - (41 + 5 * ps + 11 * n)) := by
    rw [s4, s3]
    show (S.2.1 + 18 + 1, S.2.2.1 - 18 - 1, S.2.2.2 - (23 + 5 * ps + 11 * n) - 18) = _
    rw [Nat.sub_sub, Nat.sub_sub, show 23 + 5 * ps + 11 * n + 18 = 41 + 5 * ps + 11 * n by omega]
  have t4 : S4.2.1 = S.2.1 + 19 := by rw [s4]
  have he4 := (fr4 o (by omega)).trans he3
  refine wq_gr (x := some S.2.1) he4 rfl ?_
  have fr24 : ∀ b, b ≠ o → b < S.2.1 + 18 → hg_at S4.1 b = hg_at S2.1 b := fun b b1 b2 => (fr4 b b2).trans (fr3 b b1)
  have pv4 := pv2.fr (S' := S4) (fun b b1 b2 => fr24 b (by omega) b2)
  have hnm4 := (fr24 (A 3) (by have := hA0 3 (by omega); omega) (by omega)).trans hnm2
  -- the reactor
  have rw0 : ∀ j, j < n → R 0 j = Q 51 j := fun j hj => (rq.1 j hj).1.1
  have rw7 : ∀ j, j < n → R 7 j = Q 57 j := fun j hj => (rq.1 j hj).1.2.2.2.2.2.2.1
  have rw4 : ∀ j, j < n → R 0 j = 10 → R 4 j = Q 54 j := by
    intro j hj hk
    have := (rq.1 j hj).2.1
    rw [if_neg (by rw [hk]; decide)] at this
    exact this
  have pce : ∀ j, j ≤ n → plc (R 0) (R 7) io j = plc (Q 51) (Q 57) io j := by
    intro j
    induction j with
    | zero => intro _; rfl
    | succ j ih =>
      intro hj
      show plc (R 0) (R 7) io j + (if R 0 j = 10 then (R 7 j).toInt.toNat else 0) = plc (Q 51) (Q 57) io j + (if Q 51 j = 10 then (Q 57 j).toInt.toNat else 0)
      rw [ih (by omega), rw0 j (by omega), rw7 j (by omega)]
  have ww := LPr_w T V 0 _ _ _ _ _ hO hQ
  refine wq_call (re_w (sg := sg) (io := io) (ps := ps) (pa := pa) (pl := pl) (n := n) k4 o4 pv4 hnm4 (by show ins + outs = _; exact hc) (by show D 3 = _; exact hc3) (by omega) (by omega) (fun j hj => if_pos hj) (by omega) hio (by omega) (fun j hj hk => ?_) (fun j j' hj hj' hk hk' e => ?_) (fun j hj => ?_) (by rw [pce n (Nat.le_refl _)]; exact epl) hpl (by rw [s4]; show 11 ≤ S.2.2.1 - 19; omega) (by rw [s4]; show _ ≤ S.2.2.2 - _; omega)) ?_
  · rw [rw4 j hj hk]
    refine hlr _ (lc_in T V 0 _ _ _ _ _ hO hQ j (by omega) (by omega) ?_)
    rw [← rw0 j hj]; exact hk
  · rw [rw4 j hj hk, rw4 j' hj' hk'] at e
    rw [rw0 j hj] at hk
    rw [rw0 j' hj'] at hk'
    exact lc_inj T V 0 _ _ _ _ _ hO hQ hln j j' (by omega) (by omega) (by omega) (by omega) hk hk' e
  · rw [rw7 j hj]
    have := ww j (by omega) (by omega)
    omega
  rintro S5 ⟨k5, s5, fr5, f, rv5, pf5⟩
  rw [t4] at fr5 rv5
  have s5 : S5.2 = (S.2.1 + 30, S.2.2.1 - 30, S.2.2.2 - (42 + 6 * ps + 15 * n + 2 * sg + 2 * pl + 2 * pa)) := by
    rw [s5, s4]
    show (S.2.1 + 19 + 11, S.2.2.1 - 19 - 11, S.2.2.2 - (41 + 5 * ps + 11 * n) - (2 * sg + 2 * pl + ps + 4 * n + 2 * pa + 1)) = _
    rw [Nat.sub_sub, Nat.sub_sub, show 41 + 5 * ps + 11 * n + (2 * sg + 2 * pl + ps + 4 * n + 2 * pa + 1) = 42 + 6 * ps + 15 * n + 2 * sg + 2 * pl + 2 * pa by omega]
  have he5 := (fr5 o (by omega) (by omega)).trans he4
  have fr25 : ∀ b, b ≠ o → b < S.2.1 + 18 → hg_at S5.1 b = hg_at S2.1 b := fun b b1 b2 => (fr5 b (by omega) (by omega)).trans (fr24 b b1 b2)
  clear s3 fr3 fr4 he3 he4 pv4 hnm4 o4
  refine wo_pf k5 he5 (Nat.le_of_ble_eq_true rfl) (fs' := enL t 0 0 (.ref S.2.1) (.ref (S.2.1 + 18)) .null .null 0 0 0 ta tn 0 0) rfl (fun S6 k6 s6 he6 fr6 => ?_)
  rw [s5] at s6
  have t6 : S6.2.1 = S.2.1 + 30 := by rw [s6]
  have fr26 : ∀ b, b ≠ o → b < S.2.1 + 18 → hg_at S6.1 b = hg_at S2.1 b := fun b b1 b2 => (fr6 b b1).trans (fr25 b b1 b2)
  have pg6 := (fr26 S.2.1 (by omega) (by omega)).trans pv2.1
  refine wq_gr (x := some S.2.1) he6 rfl ?_
  refine wq_gi (x := D 3) pg6 rfl ?_
  rw [hc3, t6]
  have tpa : (Int32.ofNat pa).toInt = (pa : Int) := Int32.toInt_ofNat_of_lt (by omega)
  refine wo_na k6 (N := pa) tpa (by rw [s6]; show 1 ≤ S.2.2.1 - 30; omega) (by rw [s6]; show pa ≤ S.2.2.2 - _; omega) (by omega) (fun S7 k7 s7 h7 fr7 => ?_)
  rw [t6] at h7 fr7
  have s7 : S7.2 = (S.2.1 + 31, S.2.2.1 - 31, S.2.2.2 - (42 + 6 * ps + 15 * n + 2 * sg + 2 * pl + 3 * pa)) := by
    rw [s7, s6]
    show (S.2.1 + 30 + 1, S.2.2.1 - 30 - 1, S.2.2.2 - (42 + 6 * ps + 15 * n + 2 * sg + 2 * pl + 2 * pa) - pa) = _
    rw [Nat.sub_sub, Nat.sub_sub, show 42 + 6 * ps + 15 * n + 2 * sg + 2 * pl + 2 * pa + pa = 42 + 6 * ps + 15 * n + 2 * sg + 2 * pl + 3 * pa by omega]
  have he7 := (fr7 o (by omega)).trans he6
  refine wo_pf k7 he7 (Nat.le_of_ble_eq_true rfl) (fs' := enL t 0 0 (.ref S.2.1) (.ref (S.2.1 + 18)) (.ref (S.2.1 + 30)) .null 0 0 0 ta tn 0 0) rfl (fun S8 k8 s8 he8 fr8 => ?_)
  rw [s7] at s8
  have t8 : S8.2.1 = S.2.1 + 31 := by rw [s8]
  have pg8 := ((fr8 S.2.1 (by omega)).trans (fr7 _ (by omega))).trans pg6
  refine wq_gr (x := some S.2.1) he8 rfl ?_
  refine wq_gi (x := ins) pg8 rfl ?_
  refine wq_gr (x := some S.2.1) he8 rfl ?_
  refine wq_gi (x := outs) pg8 rfl ?_
  rw [hc, t8]
  have tio : (Int32.ofNat io).toInt = (io : Int) := Int32.toInt_ofNat_of_lt (by omega)
  refine wo_na k8 (N := io) tio (by rw [s8]; show 1 ≤ S.2.2.1 - 31; omega) (by rw [s8]; show io ≤ S.2.2.2 - _; omega) (by omega) (fun S9 k9 s9 h9 fr9 => ?_)
  rw [t8] at h9 fr9
  have s9 : S9.2 = (S.2.1 + 32, S.2.2.1 - 32, S.2.2.2 - (42 + 6 * ps + 15 * n + 2 * sg + 2 * pl + 3 * pa + io)) := by
    rw [s9, s8]
    show (S.2.1 + 31 + 1, S.2.2.1 - 31 - 1, S.2.2.2 - (42 + 6 * ps + 15 * n + 2 * sg + 2 * pl + 3 * pa) - io) = _
    rw [Nat.sub_sub, Nat.sub_sub]
  have he9 := (fr9 o (by omega)).trans he8
  refine wo_pf k9 he9 (Nat.le_of_ble_eq_true rfl) (fs' := enL t 0 0 (.ref S.2.1) (.ref (S.2.1 + 18)) (.ref (S.2.1 + 30)) (.ref (S.2.1 + 31)) 0 0 0 ta tn 0 0) rfl (fun S10 k10 s10 he10 fr10 => ?_)
  rw [s9] at s10
  have fr69 : ∀ b, b ≠ o → b < S.2.1 + 30 → hg_at S10.1 b = hg_at S5.1 b := fun b b1 b2 => by
    rw [fr10 b b1, fr9 b (by omega), fr8 b b1, fr7 b b2, fr6 b b1]
  refine ⟨_, rfl, rfl, k10, s10, fun b b1 b2 b3 => ?_, he10, R, f, pv2.fr (fun b b1 b2 => (fr69 b (by omega) (by omega)).trans (fr25 b (by omega) b2)), rq, rv5.fr (fun b hb => fr69 b (by omega) (by omega)), pf5, ?_, ?_⟩
  · exact (((fr69 b b2 (by omega)).trans (fr25 b b2 (by omega))).trans (fr2 b (by omega) (by omega) b3)).trans (fr1 b b1)
  · show hg_at S10.1 (S.2.1 + 30) = _
    rw [fr10 _ (by omega), fr9 _ (by omega), fr8 _ (by omega)]
    exact h7
  · show hg_at S10.1 (S.2.1 + 31) = _
    rw [fr10 _ (by omega)]
    exact h9
end RDT
