/-! the class's advance, whole -/
/-- r: the token (32: the text's end, 31: a name; none: no token) that stands from p to q -/
def tokR (f : Nat → Int32) (n p q : Nat) (r : Option Nat) : Prop :=
  (n ≤ p ∧ q = p ∧ r = some 32) ∨
  (p < n ∧ ((we f n (n - p) p = q ∧ p < q) ∨ (we f n (n - p) p = p ∧ q = p + (if f p = 124 ∧ p + 1 < n ∧ f (p + 1) = 124 then 2 else 1))) ∧
    ((∃ j, j < 31 ∧ r = some j ∧ sl f p q (hk_tx.getD j []) ∧ ∀ i, i < j → ¬ sl f p q (hk_tx.getD i [])) ∨ ((∀ j, j < 31 → ¬ sl f p q (hk_tx.getD j [])) ∧ (((p < we f n (n - p) p ∧ 57 < f p ∧ ¬ f p = 95 ∧ q ≤ p + 31) ∧ r = some 31) ∨ (¬ (p < we f n (n - p) p ∧ 57 < f p ∧ ¬ f p = 95 ∧ q ≤ p + 31) ∧ r = none)))))
section ADV
variable {G : hg_E} {sz : Nat} {S : hg_S} {o tx n : Nat} {f : Nat → Int32} {tk : Option Nat} {fr to ln fa : Int32}
theorem rf_w (h : lxv G S o tx n f tk fr to ln fa) {k : Int32} (h1 : 1 ≤ S.2.2.1) (h2 : 6 ≤ S.2.2.2) : dc_wp (hm_LX_refuse G S o k) (fun z => ∃ X : hg_X, z = .inr X ∧ X.2.2 = true ∧ X.2.1 = S.2.1 ∧ lxv G X.1 o tx n f tk fr to ln (k + 8 * ln) ∧ X.1.2 = (S.2.1 + 1, S.2.2.1 - 1, S.2.2.2 - 6) ∧ ∀ b, b ≠ o → hg_at X.1.1 b = hg_at S.1 b) := by
  delta hm_LX_refuse
  refine wq_gi (x := ln) h.1 rfl ?_
  refine wq_pf h.1 (by simp) ?_
  have v := h.put (tk2 := tk) (fr2 := fr) (to2 := to) (ln2 := ln) (fa2 := k + 8 * ln)
  refine wq_if (fun _ => ?_) (fun c => absurd ⟨h1, h2⟩ c)
  exact ⟨_, rfl, _, rfl, rfl, rfl, v, rfl, fun b hb => hu_ne hb⟩
theorem sb_w (h : lxv G S o tx n f tk fr to ln fa) (h0 : 0 ≤ fr.toInt) (h1 : fr.toInt < (n : Int)) (hn : n ≤ 100000) : dc_wp (hm_LX_startsBars G S o) (fun q => ((f fr.toInt.toNat = 124 ∧ fr.toInt.toNat + 1 < n ∧ f (fr.toInt.toNat + 1) = 124) ∧ q = 1) ∨ (¬ (f fr.toInt.toNat = 124 ∧ fr.toInt.toNat + 1 < n ∧ f (fr.toInt.toNat + 1) = 124) ∧ q = 0)) := by
  have aN : (Int32.ofNat n).toInt = (n : Int) := Int32.toInt_ofNat_of_lt (by omega)
  have a1 : (fr + 1).toInt = fr.toInt + 1 := by rw [i_addS (by rw [il_1]; omega), il_1]
  have r0 : ¬ (f fr.toInt.toNat = 124 ∧ fr.toInt.toNat + 1 < n ∧ f (fr.toInt.toNat + 1) = 124) → dc_wp (hm_LX_startsBars_L48 G S o) (fun q => ((f fr.toInt.toNat = 124 ∧ fr.toInt.toNat + 1 < n ∧ f (fr.toInt.toNat + 1) = 124) ∧ q = 1) ∨ (¬ (f fr.toInt.toNat = 124 ∧ fr.toInt.toNat + 1 < n ∧ f (fr.toInt.toNat + 1) = 124) ∧ q = 0)) := by
    intro c
    show dc_wp ((dc_zb 0).bind fun _ => some 0) _
    rw [zb0]
    exact ⟨0, rfl, Or.inr ⟨c, rfl⟩⟩
  delta hm_LX_startsBars
  refine wq_gr (x := some tx) h.1 rfl ?_
  refine wq_gi (x := fr) h.1 rfl ?_
  refine wq_ld h.2.1 h0 h1 ?_
  refine wq_if (fun c1 => ?_) (fun c1 => r0 (fun z => c1 z.1))
  refine wq_gi (x := fr) h.1 rfl ?_
  refine wq_gr (x := some tx) h.1 rfl ?_
  refine wq_ln h.2.1 ?_
  refine wq_if (fun c2 => ?_) (fun c2 => r0 (fun z => c2 (i_lt.mpr (by rw [a1, aN]; have := z.2.1; omega))))
  have c3 := i_lt.mp c2
  rw [a1, aN] at c3
  refine wq_gr (x := some tx) h.1 rfl ?_
  refine wq_gi (x := fr) h.1 rfl ?_
  refine wq_ld h.2.1 (by omega) (by omega) ?_
  rw [a1, show (fr.toInt + 1).toNat = fr.toInt.toNat + 1 by omega]
  refine wq_if (fun c4 => ?_) (fun c4 => r0 (fun z => c4 z.2.2))
  show dc_wp ((dc_zb 1).bind fun _ => some 1) _
  rw [zb1]
  exact ⟨1, rfl, Or.inl ⟨⟨c1, by omega, c4⟩, rfl⟩⟩
theorem nm_w (h : lxv G S o tx n f tk fr to ln fa) (h0 : 0 ≤ fr.toInt) (h1 : fr.toInt < (n : Int)) (h2 : fr.toInt ≤ to.toInt) (h3 : to.toInt ≤ (n : Int)) (hn : n ≤ 100000) : dc_wp (hm_LX_isName G S o) (fun q => ((57 < f fr.toInt.toNat ∧ ¬ f fr.toInt.toNat = 95 ∧ to.toInt.toNat ≤ fr.toInt.toNat + 31) ∧ q = 1) ∨ (¬ (57 < f fr.toInt.toNat ∧ ¬ f fr.toInt.toNat = 95 ∧ to.toInt.toNat ≤ fr.toInt.toNat + 31) ∧ q = 0)) := by
  have a1 : (to - fr).toInt = to.toInt - fr.toInt := i_subS (by omega)
  have k31 : (31 : Int32).toInt = 31 := by decide
  have r0 : ¬ (57 < f fr.toInt.toNat ∧ ¬ f fr.toInt.toNat = 95 ∧ to.toInt.toNat ≤ fr.toInt.toNat + 31) → dc_wp (hm_LX_isName_L46 G S o) (fun q => ((57 < f fr.toInt.toNat ∧ ¬ f fr.toInt.toNat = 95 ∧ to.toInt.toNat ≤ fr.toInt.toNat + 31) ∧ q = 1) ∨ (¬ (57 < f fr.toInt.toNat ∧ ¬ f fr.toInt.toNat = 95 ∧ to.toInt.toNat ≤ fr.toInt.toNat + 31) ∧ q = 0)) := by
    intro c
    show dc_wp ((dc_zb 0).bind fun _ => some 0) _
    rw [zb0]
    exact ⟨0, rfl, Or.inr ⟨c, rfl⟩⟩
  delta hm_LX_isName
  refine wq_gr (x := some tx) h.1 rfl ?_
  refine wq_gi (x := fr) h.1 rfl ?_
  refine wq_ld h.2.1 h0 h1 ?_
  refine wq_if (fun c1 => ?_) (fun c1 => r0 (fun z => c1 z.1))
  refine wq_gr (x := some tx) h.1 rfl ?_
  refine wq_gi (x := fr) h.1 rfl ?_
  refine wq_ld h.2.1 h0 h1 ?_
  refine wq_if (fun c2 => r0 (fun z => z.2.1 c2)) (fun c2 => ?_)
  refine wq_gi (x := to) h.1 rfl ?_
  refine wq_gi (x := fr) h.1 rfl ?_
  refine wq_if (fun c3 => ?_) (fun c3 => ?_)
  · have c4 := i_lt.mp c3
    rw [a1, k31] at c4
    exact r0 (fun z => by have := z.2.2; omega)
  · have c4 : ¬ (31 : Int32).toInt < (to - fr).toInt := fun z => c3 (i_lt.mpr z)
    rw [a1, k31] at c4
    show dc_wp ((dc_zb 1).bind fun _ => some 1) _
    rw [zb1]
    exact ⟨1, rfl, Or.inl ⟨⟨c1, c2, by omega⟩, rfl⟩⟩
/-- what advance comes to -/
def advP (G : hg_E) (S : hg_S) (o tx n : Nat) (f : Nat → Int32) (to ln fa : Int32) (z : hg_S ⊕ hg_X) : Prop :=
  ∃ (p q l : Int32) (r : Option Nat), (to.toInt ≤ p.toInt ∧ p.toInt ≤ q.toInt ∧ q.toInt ≤ (n : Int)) ∧ gp f n (n - to.toInt.toNat) to.toInt.toNat ln false = (p.toInt.toNat, l) ∧ tokR f n p.toInt.toNat q.toInt.toNat r ∧
    match r with
    | some j => j < 33 ∧ ∃ S', z = .inl S' ∧ lxv G S' o tx n f (some (G.2.1 j)) p q l fa ∧ of1 S S' o
    | none => ∃ X : hg_X, z = .inr X ∧ X.2.2 = true ∧ X.2.1 = S.2.1 ∧ lxv G X.1 o tx n f (some (G.2.1 32)) p q l (1 + 8 * l) ∧ X.1.2 = (S.2.1 + 1, S.2.2.1 - 1, S.2.2.2 - 6) ∧ ∀ b, b ≠ o → hg_at X.1.1 b = hg_at S.1 b
theorem tx_ne : ∀ j, j < 31 → ¬ (hk_tx.getD j []).length = 0 := by decide +kernel
/-- behind the search -/
theorem av_136 (hok : lw_ok G sz) {S0 : hg_S} {to0 ln0 : Int32} (h : lxv G S o tx n f tk fr to ln fa) (hf : of1 S0 S o) (hr1 : 1 ≤ S0.2.2.1) (hr2 : 6 ≤ S0.2.2.2) (h0 : 0 ≤ fr.toInt) (h1 : fr.toInt < to.toInt) (h2 : to.toInt ≤ (n : Int)) (hn : n ≤ 100000) (hb : to0.toInt ≤ fr.toInt) (hg : gp f n (n - to0.toInt.toNat) to0.toInt.toNat ln0 false = (fr.toInt.toNat, ln)) (hq : (we f n (n - fr.toInt.toNat) fr.toInt.toNat = to.toInt.toNat ∧ fr.toInt.toNat < to.toInt.toNat) ∨ (we f n (n - fr.toInt.toNat) fr.toInt.toNat = fr.toInt.toNat ∧ to.toInt.toNat = fr.toInt.toNat + (if f fr.toInt.toNat = 124 ∧ fr.toInt.toNat + 1 < n ∧ f (fr.toInt.toNat + 1) = 124 then 2 else 1))) {y : Nat} (hy : (y = 31 ∧ (fr.toInt.toNat < we f n (n - fr.toInt.toNat) fr.toInt.toNat ∧ 57 < f fr.toInt.toNat ∧ ¬ f fr.toInt.toNat = 95 ∧ to.toInt.toNat ≤ fr.toInt.toNat + 31)) ∨ (y = 32 ∧ ¬ (fr.toInt.toNat < we f n (n - fr.toInt.toNat) fr.toInt.toNat ∧ 57 < f fr.toInt.toNat ∧ ¬ f fr.toInt.toNat = 95 ∧ to.toInt.toNat ≤ fr.toInt.toNat + 31))) : dc_wp (hm_LX_advance_L136 G S o (some (G.2.1 y))) (advP G S0 o tx n f to0 ln0 fa) := by
  have hy33 : y < 33 := by rcases hy with ⟨e, -⟩ | ⟨e, -⟩ <;> omega
  have inj : ∀ j, j < 33 → (some (G.2.1 j) = some (G.2.1 32) ↔ j = 32) := by
    intro j hj
    constructor
    · intro e
      exact hok.1 j 32 hj (by omega) (Option.some.inj e)
    · intro e
      rw [e]
  have sl0 : ∀ t : List Int32, t.length = 0 → ¬ sl f fr.toInt.toNat to.toInt.toNat t := by
    intro t ht z
    have := z.1
    omega
  delta hm_LX_advance_L136
  refine wq_chk h.1 ?_
  refine wq_call (kn_w hok h h0 (by omega) h2 hn) ?_
  rintro r hr
  -- the token as a number
  obtain ⟨j, hj, rfl, hj2⟩ : ∃ j, j < 33 ∧ r = some (G.2.1 j) ∧ ((j < 31 ∧ sl f fr.toInt.toNat to.toInt.toNat (hk_tx.getD j []) ∧ ∀ i, i < j → ¬ sl f fr.toInt.toNat to.toInt.toNat (hk_tx.getD i [])) ∨ ((∀ i, i < 31 → ¬ sl f fr.toInt.toNat to.toInt.toNat (hk_tx.getD i [])) ∧ j = y)) := by
    rcases hr with ⟨j, a1, a2, a3, a4⟩ | ⟨a1, a2⟩
    · refine ⟨j, a1, a4, Or.inl ⟨?_, a2, a3⟩⟩
      rcases Nat.lt_or_ge j 31 with c | c
      · exact c
      · exact absurd a2 (sl0 _ (by
          have : j = 31 ∨ j = 32 := by omega
          rcases this with e | e <;> subst e <;> rfl))
    · exact ⟨y, hy33, a2, Or.inr ⟨fun i hi => a1 i (by omega), rfl⟩⟩
  refine wq_pf h.1 (by simp) ?_
  have v := h.put (tk2 := some (G.2.1 j)) (fr2 := fr) (to2 := to) (ln2 := ln) (fa2 := fa)
  have vf : of1 S0 (hu S o (.inr (2, [.ref tx, va_rf (some (G.2.1 j)), .int fr, .int to, .int ln, .int fa]))) o := hf.trans of1.hu
  refine wq_gr (x := some (G.2.1 j)) v.1 rfl ?_
  refine wq_if (fun c1 => ?_) (fun c1 => ?_)
  · have c2 : j = 32 := (inj j hj).mp c1
    subst c2
    rcases hj2 with ⟨c3, -⟩ | ⟨c3, c4⟩
    · omega
    refine wq_chk v.1 ?_
    have e2 : (hu S o (.inr (2, [.ref tx, va_rf (some (G.2.1 32)), .int fr, .int to, .int ln, .int fa]))).2 = S0.2 := vf.1
    obtain ⟨z, ez, X, rfl, x1, x2, x3, x4, x5⟩ := rf_w v (k := 1) (by rw [e2]; exact hr1) (by rw [e2]; exact hr2)
    refine wq_call (P := fun z => z = (Sum.inr X : hg_S ⊕ hg_X)) ⟨_, ez, rfl⟩ ?_
    rintro _ rfl
    refine ⟨_, rfl, fr, to, ln, none, ⟨by omega, by omega, h2⟩, hg, Or.inr ⟨by omega, hq, Or.inr ⟨c3, Or.inr ⟨?_, rfl⟩⟩⟩, X, rfl, x1, ?_, x3, ?_, fun b hb => ?_⟩
    · rcases hy with ⟨e, -⟩ | ⟨-, e⟩
      · omega
      · exact e
    · rw [x2, e2]
    · rw [x4, e2]
    · rw [x5 b hb]; exact vf.2 b hb
  · have c2 : ¬ j = 32 := fun z => c1 ((inj j hj).mpr z)
    refine ⟨_, rfl, fr, to, ln, some j, ⟨by omega, by omega, h2⟩, hg, Or.inr ⟨by omega, hq, ?_⟩, hj, _, rfl, v, vf⟩
    rcases hj2 with ⟨c3, c4, c5⟩ | ⟨c3, rfl⟩
    · exact Or.inl ⟨j, c3, rfl, c4, c5⟩
    · rcases hy with ⟨rfl, e⟩ | ⟨e, -⟩
      · exact Or.inr ⟨c3, Or.inl ⟨e, rfl⟩⟩
      · exact absurd e c2
end ADV
