/-! the class's open: bytes that no text may have -/
abbrev okb (c : Int32) : Prop := c = 9 ∨ c = 10 ∨ (¬ c < 32 ∧ ¬ 126 < c)
/-- the line of the first byte that may not be -/
def ob (f : Nat → Int32) (n : Nat) : Nat → Nat → Int32 → Option Int32
  | 0, _, _ => none
  | k + 1, p, l => if p < n then (if okb (f p) then ob f n k (p + 1) (if f p = 10 then l + 1 else l) else some l) else none
theorem ob_end {f : Nat → Int32} {n p : Nat} {l : Int32} (h : n ≤ p) (k : Nat) : ob f n k p l = none := by
  cases k with
  | zero => rfl
  | succ k => show (if p < n then _ else none) = none; rw [if_neg (by omega)]
theorem ob_go {f : Nat → Int32} {n p : Nat} {l : Int32} (h : p < n) : ob f n (n - p) p l = if okb (f p) then ob f n (n - (p + 1)) (p + 1) (if f p = 10 then l + 1 else l) else some l := by
  obtain ⟨k, hk⟩ : ∃ k, n - p = k + 1 := ⟨n - p - 1, by omega⟩
  have hk2 : n - (p + 1) = k := by omega
  rw [hk, hk2]
  show (if p < n then _ else none) = _
  rw [if_pos h]
theorem advP.base {G : hg_E} {S0 S : hg_S} {o tx n : Nat} {f : Nat → Int32} {to ln fa : Int32} {z : hg_S ⊕ hg_X} (h : of1 S0 S o) (a : advP G S o tx n f to ln fa z) : advP G S0 o tx n f to ln fa z := by
  obtain ⟨p, q, l, r, h1, h2, h3, h4⟩ := a
  refine ⟨p, q, l, r, h1, h2, h3, ?_⟩
  cases r with
  | some j =>
    obtain ⟨g1, S', g2, g3, g4⟩ := h4
    exact ⟨g1, S', g2, g3, h.trans g4⟩
  | none =>
    obtain ⟨X, g1, g2, g3, g4, g5, g6⟩ := h4
    exact ⟨X, g1, g2, by rw [g3, h.1], g4, by rw [g5, h.1], fun b hb => (g6 b hb).trans (h.2 b hb)⟩
/-- what open comes to -/
def opP (G : hg_E) (S : hg_S) (o tx n : Nat) (f : Nat → Int32) (tk : Option Nat) (fr to ln fa : Int32) (z : hg_S ⊕ hg_X) : Prop :=
  match ob f n n 0 ln with
  | some l => ∃ X : hg_X, z = .inr X ∧ X.2.2 = true ∧ X.2.1 = S.2.1 ∧ lxv G X.1 o tx n f tk fr to l (1 + 8 * l) ∧ X.1.2 = (S.2.1 + 1, S.2.2.1 - 1, S.2.2.2 - 6) ∧ ∀ b, b ≠ o → hg_at X.1.1 b = hg_at S.1 b
  | none => advP G S o tx n f to 1 fa z
theorem op_w {G : hg_E} {sz : Nat} {S : hg_S} {o tx n : Nat} {f : Nat → Int32} {tk : Option Nat} {fr to ln fa : Int32} (hok : lw_ok G sz) (h : lxv G S o tx n f tk fr to ln fa) (h0 : 0 ≤ to.toInt) (h1 : to.toInt ≤ (n : Int)) (hn : n ≤ 100000) (hr1 : 1 ≤ S.2.2.1) (hr2 : 6 ≤ S.2.2.2) : dc_wp (hm_LX_open G S o) (opP G S o tx n f tk fr to ln fa) := by
  have aN : (Int32.ofNat n).toInt = (n : Int) := Int32.toInt_ofNat_of_lt (by omega)
  have ti : ∀ k : Nat, k ≤ 200000 → (Int32.ofNat k).toInt = (k : Int) := fun k hk => Int32.toInt_ofNat_of_lt (by omega)
  delta hm_LX_open hm_LX_open_L2
  refine wq_call (P := Sum.elim (fun Q : hg_S => ob f n n 0 ln = none ∧ ∃ l, lxv G Q o tx n f tk fr to l fa ∧ of1 S Q o) (fun X : hg_X => ∃ l, ob f n n 0 ln = some l ∧ X.2.2 = true ∧ X.2.1 = S.2.1 ∧ lxv G X.1 o tx n f tk fr to l (1 + 8 * l) ∧ X.1.2 = (S.2.1 + 1, S.2.2.1 - 1, S.2.2.2 - 6) ∧ ∀ b, b ≠ o → hg_at X.1.1 b = hg_at S.1 b)) ?_ ?_
  · refine dc_itK (fun k (q : hg_S × Int32) => ∃ i l, i ≤ n ∧ q.2 = Int32.ofNat i ∧ k = n - i ∧ lxv G q.1 o tx n f tk fr to l fa ∧ of1 S q.1 o ∧ ob f n n 0 ln = ob f n (n - i) i l) ?_ n (S, 0) ⟨0, ln, by omega, rfl, rfl, h, of1.rf, rfl⟩
    rintro k ⟨Q, x⟩ ⟨i, l, b1, hx, hk, v, fq, hg⟩
    have hx : x = Int32.ofNat i := hx
    subst hx
    have v : lxv G Q o tx n f tk fr to l fa := v
    have fq : of1 S Q o := fq
    have tI := ti i (by omega)
    show dc_wp (hm_LX_open_b2 G Q o (Int32.ofNat i)) _
    delta hm_LX_open_b2
    refine wq_gr (x := some tx) v.1 rfl ?_
    refine wq_ln v.2.1 ?_
    refine wq_if (fun c1 => ?_) (fun c1 => ?_)
    · have c2 := i_lt.mp c1
      rw [tI, aN] at c2
      have hg2 := hg.trans (ob_go (f := f) (l := l) (show i < n by omega))
      refine wq_gr (x := some tx) v.1 rfl ?_
      refine wq_ld v.2.1 (by omega) (by omega) ?_
      rw [tI, show (i : Int).toNat = i by omega]
      have good : okb (f i) → dc_wp (hm_LX_open_L43 G Q o (Int32.ofNat i) (f i)) (Sum.elim (fun y : hg_S × Int32 => ∃ k', k' < k ∧ ∃ i l, i ≤ n ∧ y.2 = Int32.ofNat i ∧ k' = n - i ∧ lxv G y.1 o tx n f tk fr to l fa ∧ of1 S y.1 o ∧ ob f n n 0 ln = ob f n (n - i) i l) (Sum.elim (fun Q : hg_S => ob f n n 0 ln = none ∧ ∃ l, lxv G Q o tx n f tk fr to l fa ∧ of1 S Q o) (fun X : hg_X => ∃ l, ob f n n 0 ln = some l ∧ X.2.2 = true ∧ X.2.1 = S.2.1 ∧ lxv G X.1 o tx n f tk fr to l (1 + 8 * l) ∧ X.1.2 = (S.2.1 + 1, S.2.2.1 - 1, S.2.2.2 - 6) ∧ ∀ b, b ≠ o → hg_at X.1.1 b = hg_at S.1 b))) := by
        intro g1
        rw [if_pos g1] at hg2
        have a1 : Int32.ofNat i + 1 = Int32.ofNat (i + 1) := by
          rw [i_eq, i_addS (by rw [tI, il_1]; omega), tI, il_1, ti (i + 1) (by omega)]
          omega
        show dc_wp (hm_LX_open_L48 G Q o (Int32.ofNat i) (f i) 1) _
        delta hm_LX_open_L48
        refine wq_chk v.1 ?_
        refine wq_call (P := fun z => z = (Sum.inl Q : hg_S ⊕ hg_X)) ?_ ?_
        · delta hm_LX_require
          refine wq_if (fun z => absurd z (by decide)) (fun _ => ?_)
          exact ⟨_, rfl, rfl⟩
        rintro _ rfl
        show dc_wp (if f i = 10 then _ else _) _
        refine wq_if (fun g2 => ?_) (fun g2 => ?_)
        · rw [if_pos g2] at hg2
          refine wq_gi (x := l) v.1 rfl ?_
          refine wq_pf v.1 (by simp) ?_
          exact ⟨_, rfl, n - (i + 1), by omega, i + 1, l + 1, by omega, a1, rfl, v.put, fq.trans of1.hu, hg2⟩
        · rw [if_neg g2] at hg2
          exact ⟨_, rfl, n - (i + 1), by omega, i + 1, l, by omega, a1, rfl, v, fq, hg2⟩
      have evil : ¬ okb (f i) → dc_wp (hm_LX_open_L47 G Q o (Int32.ofNat i) (f i)) (Sum.elim (fun y : hg_S × Int32 => ∃ k', k' < k ∧ ∃ i l, i ≤ n ∧ y.2 = Int32.ofNat i ∧ k' = n - i ∧ lxv G y.1 o tx n f tk fr to l fa ∧ of1 S y.1 o ∧ ob f n n 0 ln = ob f n (n - i) i l) (Sum.elim (fun Q : hg_S => ob f n n 0 ln = none ∧ ∃ l, lxv G Q o tx n f tk fr to l fa ∧ of1 S Q o) (fun X : hg_X => ∃ l, ob f n n 0 ln = some l ∧ X.2.2 = true ∧ X.2.1 = S.2.1 ∧ lxv G X.1 o tx n f tk fr to l (1 + 8 * l) ∧ X.1.2 = (S.2.1 + 1, S.2.2.1 - 1, S.2.2.2 - 6) ∧ ∀ b, b ≠ o → hg_at X.1.1 b = hg_at S.1 b))) := by
        intro g1
        rw [if_neg g1] at hg2
        show dc_wp (hm_LX_open_L48 G Q o (Int32.ofNat i) (f i) 0) _
        delta hm_LX_open_L48
        refine wq_chk v.1 ?_
        obtain ⟨z, ez, X, rfl, x1, x2, x3, x4, x5⟩ := rf_w v (k := 1) (by rw [fq.1]; exact hr1) (by rw [fq.1]; exact hr2)
        refine wq_call (P := fun z => z = (Sum.inr X : hg_S ⊕ hg_X)) ?_ ?_
        · delta hm_LX_require
          refine wq_if (fun _ => ?_) (fun z => absurd rfl z)
          refine wq_chk v.1 ?_
          refine wq_call (P := fun z => z = (Sum.inr X : hg_S ⊕ hg_X)) ⟨_, ez, rfl⟩ ?_
          rintro _ rfl
          exact ⟨_, rfl, rfl⟩
        rintro _ rfl
        exact ⟨_, rfl, l, hg2, x1, by rw [x2, fq.1], x3, by rw [x4, fq.1], fun b hb => (x5 b hb).trans (fq.2 b hb)⟩
      refine wq_if (fun d1 => good (Or.inl d1)) (fun d1 => ?_)
      refine wq_if (fun d2 => good (Or.inr (Or.inl d2))) (fun d2 => ?_)
      refine wq_if (fun d3 => evil ?_) (fun d3 => ?_)
      · rintro (z | z | z)
        · exact d1 z
        · exact d2 z
        · exact z.1 d3
      refine wq_if (fun d4 => evil ?_) (fun d4 => good (Or.inr (Or.inr ⟨d3, d4⟩)))
      rintro (z | z | z)
      · exact d1 z
      · exact d2 z
      · exact z.2 d4
    · have c2 : ¬ (Int32.ofNat i).toInt < (Int32.ofNat n).toInt := fun z => c1 (i_lt.mpr z)
      rw [tI, aN] at c2
      exact ⟨_, rfl, hg.trans (ob_end (by omega) _), l, v, fq⟩
  · rintro (Q | X) hX
    · obtain ⟨e1, l, v, fq⟩ := hX
      show dc_wp (hm_LX_open_L73 G Q o) _
      delta hm_LX_open_L73
      refine wq_pf v.1 (by simp) ?_
      have v2 := v.put (tk2 := tk) (fr2 := fr) (to2 := to) (ln2 := 1) (fa2 := fa)
      have f2 : of1 S (hu Q o (.inr (2, [.ref tx, va_rf tk, .int fr, .int to, .int 1, .int fa]))) o := fq.trans of1.hu
      have g1 : 1 ≤ (hu Q o (.inr (2, [.ref tx, va_rf tk, .int fr, .int to, .int 1, .int fa]))).2.2.1 := by rw [f2.1]; exact hr1
      have g2 : 6 ≤ (hu Q o (.inr (2, [.ref tx, va_rf tk, .int fr, .int to, .int 1, .int fa]))).2.2.2 := by rw [f2.1]; exact hr2
      refine wq_chk v2.1 ?_
      refine wq_call (adv_w hok v2 h0 h1 hn g1 g2) ?_
      intro z hz
      have hz := hz.base f2
      unfold opP
      rw [e1]
      cases z with
      | inl S' => exact ⟨_, rfl, hz⟩
      | inr X => exact ⟨_, rfl, hz⟩
    · obtain ⟨l, e1, x1, x2, x3, x4, x5⟩ := hX
      unfold opP
      rw [e1]
      exact ⟨_, rfl, X, rfl, x1, x2, x3, x4, x5⟩
