/-! the class's reactor at work: its arrays and numbers -/
abbrev rsT : Type := (Nat → Nat → Int32) × (Nat → Int32)
/-- what stays: the heap before; reactor, program, names, pieces; the program's arrays, their lengths, what they hold; its numbers; pieces made; the reactor's arrays, their lengths -/
abbrev rvP : Type := hg_S × (Nat × Nat × Nat × Nat) × (Nat → Nat) × (Nat → Nat) × (Nat → Nat → Int32) × (Nat → Int32) × Int32 × (Nat → Nat) × (Nat → Nat)
abbrev vS (E : rvP) : hg_S := E.1
abbrev vO (E : rvP) : Nat := E.2.1.1
abbrev vP (E : rvP) : Nat := E.2.1.2.1
abbrev vNm (E : rvP) : Nat := E.2.1.2.2.1
abbrev vPc (E : rvP) : Nat := E.2.1.2.2.2
abbrev vA (E : rvP) : Nat → Nat := E.2.2.1
abbrev vN (E : rvP) : Nat → Nat := E.2.2.2.1
abbrev vR (E : rvP) : Nat → Nat → Int32 := E.2.2.2.2.1
abbrev vC (E : rvP) : Nat → Int32 := E.2.2.2.2.2.1
abbrev vMd (E : rvP) : Int32 := E.2.2.2.2.2.2.1
abbrev vB (E : rvP) : Nat → Nat := E.2.2.2.2.2.2.2.1
abbrev vL' (E : rvP) : Nat → Nat := E.2.2.2.2.2.2.2.2
def rvS (b a : Nat → Nat) : Prop := (∀ i j, 1 ≤ i → i < 12 → 1 ≤ j → j < 12 → b i = b j → i = j) ∧ ∀ i j, 1 ≤ i → i < 12 → j < 16 → ¬ j = 10 → a j ≠ b i
def RV (G : hg_E) (E : rvP) (S : hg_S) (q : rsT) : Prop := (hw S ∧ S.2 = (vS E).2 ∧ rvS (vB E) (vA E)) ∧ REv G S (vO E) (vP E) (vB E) (vL' E) q.1 q.2 ∧ PGv G S (vP E) (vNm E) (vPc E) (vA E) (vN E) (vR E) (vC E) (vMd E) ∧ ∀ e, e ≠ vO E → (∀ i, 1 ≤ i → i < 12 → e ≠ vB E i) → hg_at S.1 e = hg_at (vS E).1 e
def uX (q : rsT) (i n : Nat) (v : Int32) : rsT := (fun j => if j = i then upd (q.1 i) n v else q.1 j, q.2)
def uC (q : rsT) (j : Nat) (v : Int32) : rsT := (q.1, fun i => if i = j then v else q.2 i)
section RVR
variable {G : hg_E} {E : rvP} {S : hg_S} {q : rsT} {τ : Type} {Φ : τ → Prop}
theorem uX_s {i n : Nat} {v : Int32} : (uX q i n v).1 i = upd (q.1 i) n v := if_pos rfl
theorem uX_n {i j n : Nat} {v : Int32} (h : ¬ j = i) : (uX q i n v).1 j = q.1 j := if_neg h
theorem uC_s {j : Nat} {v : Int32} : (uC q j v).2 j = v := if_pos rfl
theorem uC_n {i j : Nat} {v : Int32} (h : ¬ i = j) : (uC q j v).2 i = q.2 i := if_neg h
theorem RV_st (h : RV G E S q) {i n : Nat} {v : Int32} (i1 : 1 ≤ i) (i2 : i < 12) : RV G E (hu S (vB E i) (.inl (G.1 (if i = 9 ∨ i = 11 then 2 else 0), vL' E i, .inl (upd (q.1 i) n v)))) (uX q i n v) := by
  obtain ⟨⟨h1, h2, h3⟩, ⟨h4, h5⟩, ⟨h6, h7, h8⟩, h9⟩ := h
  have hi := h5 i i1 i2
  have no : vO E ≠ vB E i := at_ne h4 hi (fun z => by cases z)
  have np : vP E ≠ vB E i := at_ne h6 hi (fun z => by cases z)
  have nc : vPc E ≠ vB E i := at_ne h7 hi (fun z => by cases z)
  refine ⟨⟨h1.hu, h2, h3⟩, ⟨by rw [hu_ne no]; exact h4, fun j j1 j2 => ?_⟩, ⟨by rw [hu_ne np]; exact h6, by rw [hu_ne nc]; exact h7, fun j j1 j2 => ?_⟩, fun e e1 e2 => ?_⟩
  · by_cases c : j = i
    · subst c
      rw [hu_self hi, uX_s]
    · rw [hu_ne (fun z => c (h3.1 j i j1 j2 i1 i2 z)), uX_n c]
      exact h5 j j1 j2
  · rw [hu_ne (h3.2 i j i1 i2 j1 j2)]
    exact h8 j j1 j2
  · rw [hu_ne (e2 i i1 i2)]
    exact h9 e e1 e2
theorem RV_pf (h : RV G E S q) {fs : List Value} {j : Nat} {v : Int32} (e : fs = [.ref (vP E), .ref (vB E 1), .ref (vB E 2), .ref (vB E 3), .ref (vB E 4), .ref (vB E 5), .ref (vB E 6), .ref (vB E 7), .ref (vB E 8), .ref (vB E 9), .ref (vB E 10), .ref (vB E 11), .int ((uC q j v).2 12), .int ((uC q j v).2 13), .int ((uC q j v).2 14), .int ((uC q j v).2 15), .int ((uC q j v).2 16), .int ((uC q j v).2 17)]) : RV G E (hu S (vO E) (.inr (10, fs))) (uC q j v) := by
  obtain ⟨⟨h1, h2, h3⟩, ⟨h4, h5⟩, ⟨h6, h7, h8⟩, h9⟩ := h
  have np : vP E ≠ vO E := at_ne h6 h4 (fun z => by cases z)
  have nc : vPc E ≠ vO E := at_ne h7 h4 (fun z => by cases z)
  refine ⟨⟨h1.hu, h2, h3⟩, ⟨by rw [hu_self h4, e], fun j j1 j2 => ?_⟩, ⟨by rw [hu_ne np]; exact h6, by rw [hu_ne nc]; exact h7, fun j j1 j2 => ?_⟩, fun e e1 e2 => ?_⟩
  · have hj := h5 j j1 j2
    have nb : vB E j ≠ vO E := at_ne hj h4 (fun z => by cases z)
    rw [hu_ne nb]
    exact hj
  · have hj := h8 j j1 j2
    have nb : vA E j ≠ vO E := at_ne hj h4 (fun z => by cases z)
    rw [hu_ne nb]
    exact hj
  · rw [hu_ne e1]
    exact h9 e e1 e2
/-- fields of the reactor -/
theorem rv_g (h : RV G E S q) {i : Nat} (i1 : 1 ≤ i) (i2 : i < 12) {F : Option Nat → Option τ} (kk : dc_wp (F (some (vB E i))) Φ) : dc_wp ((hg_gr S (some (vO E)) 10 i).bind F) Φ := by
  have : i = 1 ∨ i = 2 ∨ i = 3 ∨ i = 4 ∨ i = 5 ∨ i = 6 ∨ i = 7 ∨ i = 8 ∨ i = 9 ∨ i = 10 ∨ i = 11 := by omega
  rcases this with e | e | e | e | e | e | e | e | e | e | e <;> subst e <;> exact wq_gr h.2.1.1 rfl kk
theorem rv_p (h : RV G E S q) {F : Option Nat → Option τ} (kk : dc_wp (F (some (vP E))) Φ) : dc_wp ((hg_gr S (some (vO E)) 10 0).bind F) Φ := wq_gr (x := some (vP E)) h.2.1.1 rfl kk
theorem rv_i (h : RV G E S q) {i : Nat} (i1 : 12 ≤ i) (i2 : i < 18) {F : Int32 → Option τ} (kk : dc_wp (F (q.2 i)) Φ) : dc_wp ((hg_gi S (some (vO E)) 10 i).bind F) Φ := by
  have : i = 12 ∨ i = 13 ∨ i = 14 ∨ i = 15 ∨ i = 16 ∨ i = 17 := by omega
  rcases this with e | e | e | e | e | e <;> subst e <;> exact wq_gi h.2.1.1 rfl kk
theorem rv_c (h : RV G E S q) {F : Nat → Option τ} (kk : dc_wp (F (vO E)) Φ) : dc_wp ((hg_chk S (some (vO E)) 10).bind F) Φ := wq_chk h.2.1.1 kk
theorem rv_l (h : RV G E S q) {i t : Nat} (i1 : 1 ≤ i) (i2 : i < 12) (ht : t = if i = 9 ∨ i = 11 then 2 else 0) {x : Int32} (h0 : 0 ≤ x.toInt) (h1 : x.toInt < (vL' E i : Int)) {F : Int32 → Option τ} (kk : dc_wp (F (q.1 i x.toInt.toNat)) Φ) : dc_wp ((hg_ld S (some (vB E i)) (G.1 t) x).bind F) Φ := by
  subst ht
  exact wq_ld (h.2.1.2 i i1 i2) h0 h1 kk
theorem rv_s (h : RV G E S q) {i t : Nat} (i1 : 1 ≤ i) (i2 : i < 12) (ht : t = if i = 9 ∨ i = 11 then 2 else 0) {x v : Int32} (h0 : 0 ≤ x.toInt) (h1 : x.toInt < (vL' E i : Int)) {F : hg_S → Option τ} (kk : ∀ S', RV G E S' (uX q i x.toInt.toNat v) → dc_wp (F S') Φ) : dc_wp ((hg_st S (some (vB E i)) (G.1 t) x v).bind F) Φ := by
  subst ht
  exact wq_st (h.2.1.2 i i1 i2) h0 h1 (kk _ (RV_st h i1 i2))
theorem rv_f (h : RV G E S q) {j : Nat} {v : Int32} (j1 : 12 ≤ j) (j2 : j < 18) {F : hg_S → Option τ} (kk : ∀ S', RV G E S' (uC q j v) → dc_wp (F S') Φ) : dc_wp ((hg_pf S (some (vO E)) 10 j (.int v)).bind F) Φ := by
  have : j = 12 ∨ j = 13 ∨ j = 14 ∨ j = 15 ∨ j = 16 ∨ j = 17 := by omega
  rcases this with e | e | e | e | e | e <;> subst e <;> exact wq_pf h.2.1.1 (Nat.le_of_ble_eq_true rfl) (kk _ (RV_pf h rfl))
/-- the program's arrays -/
theorem rv_a (h : RV G E S q) {j k : Nat} (hj : j < 10) (hk : k = j + 7) {F : Option Nat → Option τ} (kk : dc_wp (F (some (vA E j))) Φ) : dc_wp ((hg_gr S (some (vP E)) 9 k).bind F) Φ := by
  subst hk
  have : j = 0 ∨ j = 1 ∨ j = 2 ∨ j = 3 ∨ j = 4 ∨ j = 5 ∨ j = 6 ∨ j = 7 ∨ j = 8 ∨ j = 9 := by omega
  rcases this with e | e | e | e | e | e | e | e | e | e <;> subst e <;> exact wq_gr h.2.2.1.1 rfl kk
theorem rv_n (h : RV G E S q) {j : Nat} (j1 : 1 ≤ j) (j2 : j < 6) {F : Int32 → Option τ} (kk : dc_wp (F (vC E j)) Φ) : dc_wp ((hg_gi S (some (vP E)) 9 j).bind F) Φ := by
  have : j = 1 ∨ j = 2 ∨ j = 3 ∨ j = 4 ∨ j = 5 := by omega
  rcases this with e | e | e | e | e <;> subst e <;> exact wq_gi h.2.2.1.1 rfl kk
theorem rv_k (h : RV G E S q) {F : Option Nat → Option τ} (kk : dc_wp (F (some (vPc E))) Φ) : dc_wp ((hg_gr S (some (vP E)) 9 6).bind F) Φ := wq_gr (x := some (vPc E)) h.2.2.1.1 rfl kk
theorem rv_q (h : RV G E S q) {j : Nat} (hj : j < 5) {F : Option Nat → Option τ} (kk : dc_wp (F (some (vA E (j + 11)))) Φ) : dc_wp ((hg_gr S (some (vPc E)) 5 j).bind F) Φ := by
  have : j = 0 ∨ j = 1 ∨ j = 2 ∨ j = 3 ∨ j = 4 := by omega
  rcases this with e | e | e | e | e <;> subst e <;> exact wq_gr h.2.2.1.2.1 rfl kk
theorem rv_d (h : RV G E S q) {j : Nat} (j1 : j < 16) (j2 : ¬ j = 10) {x : Int32} (h0 : 0 ≤ x.toInt) (h1 : x.toInt < (vN E j : Int)) {F : Int32 → Option τ} (kk : dc_wp (F (vR E j x.toInt.toNat)) Φ) : dc_wp ((hg_ld S (some (vA E j)) (G.1 0) x).bind F) Φ := wq_ld (h.2.2.1.2.2 j j1 j2) h0 h1 kk
end RVR
/-! small methods -/
def reAn (q : rsT) (k : Nat) (codes code : Int32) : rsT := uX (uX q 7 k codes) 8 k (if q.1 9 k = 0 then -1 else code)
def reEm (q : rsT) (pl : Nat) (v : Int32) : rsT := if v = 0 then uX q 2 pl (q.2 12) else if q.1 1 pl = 2 then uC (uX (uX q 2 pl (q.2 12)) 1 pl 1) 13 1 else uX q 2 pl (q.2 12)
def reSe (q : rsT) (pl : Nat) : rsT := if q.1 1 pl = 2 then (if q.1 2 pl = q.2 12 then q else uC (uX q 1 pl 0) 13 1) else q
def reEn (q : rsT) (k : Nat) : rsT := uX (uX q 7 k 1) 8 k 0
def rePb (q : rsT) (n s : Nat) : rsT := reAn q n ((q.1 7 n &&& (-2)) ||| q.1 7 s) (if q.1 8 n = 0 then q.1 8 s else q.1 8 n)
section RVM
variable {G : hg_E} {E : rvP} {S : hg_S} {q : rsT} {x y : Int32}
theorem wi_w (h : RV G E S q) (h0 : 0 ≤ x.toInt) (h1 : x.toInt < (vL' E 9 : Int)) {v : Int32} (hv : v = 0 ∨ v = 1) : dc_wp (hm_RE_within G S (vO E) x v) (fun r => r.2 = x ∧ RV G E r.1 (uX q 9 x.toInt.toNat v)) := by
  delta hm_RE_within
  refine rv_g h (by decide) (by decide) ?_
  have ez : dc_zb v = some () := if_pos hv
  rw [ez]
  refine rv_s h (by decide) (by decide) rfl h0 h1 (fun S' h' => ?_)
  exact ⟨_, rfl, rfl, h'⟩
theorem an_w (h : RV G E S q) (h0 : 0 ≤ x.toInt) (h1 : x.toInt < (vL' E 7 : Int) ∧ x.toInt < (vL' E 8 : Int) ∧ x.toInt < (vL' E 9 : Int)) {cs c : Int32} : dc_wp (hm_RE_answer G S (vO E) x cs c) (fun S' => RV G E S' (reAn q x.toInt.toNat cs c)) := by
  delta hm_RE_answer
  refine rv_g h (by decide) (by decide) ?_
  refine rv_s h (by decide) (by decide) rfl h0 h1.1 (fun S1 g => ?_)
  refine rv_g g (by decide) (by decide) ?_
  refine rv_g g (by decide) (by decide) ?_
  refine rv_l g (by decide) (by decide) rfl h0 h1.2.2 ?_
  rw [uX_n (show ¬ 9 = 7 by decide)]
  unfold reAn
  refine wq_if (fun c => ?_) (fun c => ?_)
  · rw [if_pos c]
    delta hm_RE_answer_L26
    exact rv_s g (by decide) (by decide) rfl h0 h1.2.1 (fun S2 k => ⟨_, rfl, k⟩)
  · rw [if_neg c]
    delta hm_RE_answer_L26
    exact rv_s g (by decide) (by decide) rfl h0 h1.2.1 (fun S2 k => ⟨_, rfl, k⟩)
theorem em_w (h : RV G E S q) (h0 : 0 ≤ x.toInt) (h1 : x.toInt < (vL' E 1 : Int) ∧ x.toInt < (vL' E 2 : Int)) {v : Int32} : dc_wp (hm_RE_emit G S (vO E) x v) (fun S' => RV G E S' (reEm q x.toInt.toNat v)) := by
  delta hm_RE_emit
  refine rv_g h (by decide) (by decide) ?_
  refine rv_i h (by decide) (by decide) ?_
  refine rv_s h (by decide) (by decide) rfl h0 h1.2 (fun S1 g => ?_)
  unfold reEm
  refine wq_if (fun c => ?_) (fun c => ?_)
  · rw [if_pos c]
    exact ⟨_, rfl, g⟩
  · rw [if_neg c]
    refine rv_g g (by decide) (by decide) ?_
    refine rv_l g (by decide) (by decide) rfl h0 h1.1 ?_
    rw [uX_n (show ¬ 1 = 2 by decide)]
    refine wq_if (fun d => ?_) (fun d => ?_)
    · rw [if_pos d]
      refine rv_g g (by decide) (by decide) ?_
      refine rv_s g (by decide) (by decide) rfl h0 h1.1 (fun S2 k => ?_)
      refine rv_f k (by decide) (by decide) (fun S3 k => ?_)
      exact ⟨_, rfl, k⟩
    · rw [if_neg d]
      exact ⟨_, rfl, g⟩
theorem se_w (h : RV G E S q) (h0 : 0 ≤ x.toInt) (h1 : x.toInt < (vL' E 1 : Int) ∧ x.toInt < (vL' E 2 : Int)) : dc_wp (hm_RE_settleAbsent G S (vO E) x) (fun S' => RV G E S' (reSe q x.toInt.toNat)) := by
  delta hm_RE_settleAbsent
  unfold reSe
  refine rv_g h (by decide) (by decide) ?_
  refine rv_l h (by decide) (by decide) rfl h0 h1.1 ?_
  refine wq_if (fun c => ?_) (fun c => ?_)
  · rw [if_pos c]
    refine rv_g h (by decide) (by decide) ?_
    refine rv_l h (by decide) (by decide) rfl h0 h1.2 ?_
    refine rv_i h (by decide) (by decide) ?_
    refine wq_if (fun d => ?_) (fun d => ?_)
    · rw [if_pos d]
      exact ⟨_, rfl, h⟩
    · rw [if_neg d]
      refine rv_g h (by decide) (by decide) ?_
      refine rv_s h (by decide) (by decide) rfl h0 h1.1 (fun S2 k => ?_)
      refine rv_f k (by decide) (by decide) (fun S3 k => ?_)
      exact ⟨_, rfl, k⟩
  · rw [if_neg c]
    exact ⟨_, rfl, h⟩
theorem en_w (h : RV G E S q) (h0 : 0 ≤ x.toInt) (h1 : x.toInt < (vL' E 7 : Int) ∧ x.toInt < (vL' E 8 : Int)) : dc_wp (hm_RE_answerEnded G S (vO E) x) (fun S' => RV G E S' (reEn q x.toInt.toNat)) := by
  delta hm_RE_answerEnded
  refine rv_g h (by decide) (by decide) ?_
  refine rv_s h (by decide) (by decide) rfl h0 h1.1 (fun S1 g => ?_)
  refine rv_g g (by decide) (by decide) ?_
  refine rv_s g (by decide) (by decide) rfl h0 h1.2 (fun S2 k => ?_)
  exact ⟨_, rfl, k⟩
theorem pb_w (h : RV G E S q) (h0 : 0 ≤ x.toInt) (h1 : x.toInt < (vL' E 7 : Int) ∧ x.toInt < (vL' E 8 : Int) ∧ x.toInt < (vL' E 9 : Int)) (g0 : 0 ≤ y.toInt) (g1 : y.toInt < (vL' E 7 : Int) ∧ y.toInt < (vL' E 8 : Int)) : dc_wp (hm_RE_putBehind G S (vO E) x y) (fun S' => RV G E S' (rePb q x.toInt.toNat y.toInt.toNat)) := by
  delta hm_RE_putBehind
  refine rv_g h (by decide) (by decide) ?_
  refine rv_l h (by decide) (by decide) rfl h0 h1.1 ?_
  refine rv_g h (by decide) (by decide) ?_
  refine rv_l h (by decide) (by decide) rfl g0 g1.1 ?_
  refine rv_g h (by decide) (by decide) ?_
  refine rv_l h (by decide) (by decide) rfl h0 h1.2.1 ?_
  unfold rePb
  refine wq_if (fun c => ?_) (fun c => ?_)
  · rw [if_pos c]
    refine rv_g h (by decide) (by decide) ?_
    refine rv_l h (by decide) (by decide) rfl g0 g1.2 ?_
    delta hm_RE_putBehind_L42
    refine rv_c h ?_
    refine wq_call (an_w h h0 h1) (fun S' k => ⟨_, rfl, k⟩)
  · rw [if_neg c]
    refine rv_g h (by decide) (by decide) ?_
    refine rv_l h (by decide) (by decide) rfl h0 h1.2.1 ?_
    delta hm_RE_putBehind_L42
    refine rv_c h ?_
    refine wq_call (an_w h h0 h1) (fun S' k => ⟨_, rfl, k⟩)
end RVM
