/-! gaps: where the next token begins, for class and reference -/
theorem dc_itK {α β : Type} {step : α → Option (α ⊕ β)} (I : Nat → α → Prop) {F : β → Prop} (hs : ∀ k x, I k x → dc_wp (step x) (Sum.elim (fun y => ∃ k', k' < k ∧ I k' y) F)) : ∀ k x, I k x → dc_wp (dc_it step x) F := by
  intro k
  induction k using Nat.strongRecOn with
  | _ k ih =>
    intro x hx
    obtain ⟨z, e, hz⟩ := hs k x hx
    rw [dc_it_eq, e]
    cases z with
    | inl y =>
      obtain ⟨k', h1, h2⟩ := hz
      exact ih k' h1 y h2
    | inr b => exact ⟨b, rfl, hz⟩
def gp (f : Nat → Int32) (n : Nat) : Nat → Nat → Int32 → Bool → Nat × Int32
  | 0, p, l, _ => (p, l)
  | k + 1, p, l, c => if p < n then (if f p = 10 then gp f n k (p + 1) (l + 1) false else if f p = 37 then gp f n k (p + 1) l true else if c = false ∧ ¬ f p = 9 ∧ ¬ f p = 32 then (p, l) else gp f n k (p + 1) l c) else (p, l)
theorem gp_end {f : Nat → Int32} {n p : Nat} {l : Int32} {c : Bool} (h : n ≤ p) (k : Nat) : gp f n k p l c = (p, l) := by
  cases k with
  | zero => rfl
  | succ k => show (if p < n then _ else (p, l)) = (p, l); rw [if_neg (by omega)]
theorem gp_go {f : Nat → Int32} {n p : Nat} {l : Int32} {c : Bool} (h : p < n) : gp f n (n - p) p l c = if f p = 10 then gp f n (n - (p + 1)) (p + 1) (l + 1) false else if f p = 37 then gp f n (n - (p + 1)) (p + 1) l true else if c = false ∧ ¬ f p = 9 ∧ ¬ f p = 32 then (p, l) else gp f n (n - (p + 1)) (p + 1) l c := by
  obtain ⟨k, hk⟩ : ∃ k, n - p = k + 1 := ⟨n - p - 1, by omega⟩
  have hk2 : n - (p + 1) = k := by omega
  rw [hk, hk2]
  show (if p < n then _ else (p, l)) = _
  rw [if_pos h]
def lxv (G : hg_E) (S : hg_S) (o tx n : Nat) (f : Nat → Int32) (tk : Option Nat) (fr to ln fa : Int32) : Prop := hg_at S.1 o = some (.inr (2, [.ref tx, va_rf tk, .int fr, .int to, .int ln, .int fa])) ∧ hg_at S.1 tx = some (.inl (G.1 1, n, .inl f)) ∧ o ≠ tx
def of1 (S S' : hg_S) (o : Nat) : Prop := S'.2 = S.2 ∧ ∀ b, b ≠ o → hg_at S'.1 b = hg_at S.1 b
theorem of1.trans {S S1 S2 : hg_S} {o : Nat} (h : of1 S S1 o) (g : of1 S1 S2 o) : of1 S S2 o := ⟨g.1.trans h.1, fun b h1 => (g.2 b h1).trans (h.2 b h1)⟩
theorem of1.rf {S : hg_S} {o : Nat} : of1 S S o := ⟨rfl, fun _ _ => rfl⟩
theorem of1.hu {S : hg_S} {o : Nat} {e : va_E} : of1 S (hu S o e) o := ⟨rfl, fun _ hb => hu_ne hb⟩
section LEXG
variable {G : hg_E} {S : hg_S} {o tx n : Nat} {f : Nat → Int32} {tk : Option Nat} {fr to ln fa : Int32}
theorem lxv.put (h : lxv G S o tx n f tk fr to ln fa) {tk2 : Option Nat} {fr2 to2 ln2 fa2 : Int32} : lxv G (hu S o (.inr (2, [.ref tx, va_rf tk2, .int fr2, .int to2, .int ln2, .int fa2]))) o tx n f tk2 fr2 to2 ln2 fa2 := ⟨hu_self h.1, by rw [hu_ne (fun z => h.2.2 z.symm)]; exact h.2.1, h.2.2⟩
theorem sk_73 (h : lxv G S o tx n f tk fr to ln fa) {x : Int32} : dc_wp (hm_LX_skipGaps_L73 G S o x) (fun z => ∃ S2, z = .inl (S2, x) ∧ lxv G S2 o tx n f tk fr (to + 1) ln fa ∧ of1 S S2 o) := by
  delta hm_LX_skipGaps_L73
  refine wq_gi (x := to) h.1 rfl ?_
  refine wq_pf h.1 (by simp) ?_
  exact ⟨_, rfl, _, rfl, h.put, of1.hu⟩
theorem sk_w (h : lxv G S o tx n f tk fr to ln fa) (h0 : 0 ≤ to.toInt) (h1 : to.toInt ≤ (n : Int)) (hn : n ≤ 100000) : dc_wp (hm_LX_skipGaps G S o) (fun S' => ∃ to' ln', lxv G S' o tx n f tk fr to' ln' fa ∧ of1 S S' o ∧ (to.toInt ≤ to'.toInt ∧ to'.toInt ≤ (n : Int)) ∧ gp f n (n - to.toInt.toNat) to.toInt.toNat ln false = (to'.toInt.toNat, ln')) := by
  have aN : (Int32.ofNat n).toInt = (n : Int) := Int32.toInt_ofNat_of_lt (by omega)
  delta hm_LX_skipGaps hm_LX_skipGaps_L2
  refine wq_call (P := Sum.elim (fun S' => ∃ to' ln', lxv G S' o tx n f tk fr to' ln' fa ∧ of1 S S' o ∧ (to.toInt ≤ to'.toInt ∧ to'.toInt ≤ (n : Int)) ∧ gp f n (n - to.toInt.toNat) to.toInt.toNat ln false = (to'.toInt.toNat, ln')) (fun S' => ∃ to' ln', lxv G S' o tx n f tk fr to' ln' fa ∧ of1 S S' o ∧ (to.toInt ≤ to'.toInt ∧ to'.toInt ≤ (n : Int)) ∧ gp f n (n - to.toInt.toNat) to.toInt.toNat ln false = (to'.toInt.toNat, ln'))) ?_ ?_
  · refine dc_itK (fun k q => ∃ to' ln' c, lxv G q.1 o tx n f tk fr to' ln' fa ∧ of1 S q.1 o ∧ (to.toInt ≤ to'.toInt ∧ to'.toInt ≤ (n : Int)) ∧ k = n - to'.toInt.toNat ∧ q.2 = (if c = true then 1 else 0) ∧ gp f n (n - to.toInt.toNat) to.toInt.toNat ln false = gp f n (n - to'.toInt.toNat) to'.toInt.toNat ln' c) ?_ (n - to.toInt.toNat) (S, 0) ⟨to, ln, false, h, of1.rf, ⟨by omega, h1⟩, rfl, rfl, rfl⟩
    rintro k ⟨Q, x⟩ ⟨to', ln', c, v, fq, ⟨b1, b2⟩, hk, hx, hg⟩
    have v : lxv G Q o tx n f tk fr to' ln' fa := v
    have fq : of1 S Q o := fq
    have hx : x = (if c = true then 1 else 0) := hx
    show dc_wp (hm_LX_skipGaps_b2 G Q o x) _
    delta hm_LX_skipGaps_b2
    refine wq_gi (x := to') v.1 rfl ?_
    refine wq_gr (x := some tx) v.1 rfl ?_
    refine wq_ln v.2.1 ?_
    refine wq_if (fun c1 => ?_) (fun c1 => ?_)
    · have c2 := i_lt.mp c1
      rw [aN] at c2
      have a1 : (to' + 1).toInt = to'.toInt + 1 := by rw [i_addS (by rw [il_1]; omega), il_1]
      have a2 : (to' + 1).toInt.toNat = to'.toInt.toNat + 1 := by omega
      have hg2 := hg.trans (gp_go (f := f) (l := ln') (c := c) (show to'.toInt.toNat < n by omega))
      refine wq_gr (x := some tx) v.1 rfl ?_
      refine wq_gi (x := to') v.1 rfl ?_
      refine wq_ld v.2.1 (by omega) c2 ?_
      have nxt : ∀ {Q2 : hg_S} {ln2 : Int32} {c2 : Bool} {x2 : Int32}, lxv G Q2 o tx n f tk fr to' ln2 fa → of1 S Q2 o → x2 = (if c2 = true then 1 else 0) → gp f n (n - to.toInt.toNat) to.toInt.toNat ln false = gp f n (n - (to'.toInt.toNat + 1)) (to'.toInt.toNat + 1) ln2 c2 → dc_wp (hm_LX_skipGaps_L73 G Q2 o x2) (Sum.elim (fun y => ∃ k', k' < k ∧ ∃ to' ln' c, lxv G y.1 o tx n f tk fr to' ln' fa ∧ of1 S y.1 o ∧ (to.toInt ≤ to'.toInt ∧ to'.toInt ≤ (n : Int)) ∧ k' = n - to'.toInt.toNat ∧ y.2 = (if c = true then 1 else 0) ∧ gp f n (n - to.toInt.toNat) to.toInt.toNat ln false = gp f n (n - to'.toInt.toNat) to'.toInt.toNat ln' c) (Sum.elim (fun S' => ∃ to' ln', lxv G S' o tx n f tk fr to' ln' fa ∧ of1 S S' o ∧ (to.toInt ≤ to'.toInt ∧ to'.toInt ≤ (n : Int)) ∧ gp f n (n - to.toInt.toNat) to.toInt.toNat ln false = (to'.toInt.toNat, ln')) (fun S' => ∃ to' ln', lxv G S' o tx n f tk fr to' ln' fa ∧ of1 S S' o ∧ (to.toInt ≤ to'.toInt ∧ to'.toInt ≤ (n : Int)) ∧ gp f n (n - to.toInt.toNat) to.toInt.toNat ln false = (to'.toInt.toNat, ln')))) := by
        intro Q2 ln2 c2 x2 v2 f2 hx2 hg3
        obtain ⟨z, e, S3, rfl, v3, f3⟩ := sk_73 v2 (x := x2)
        refine ⟨_, e, n - (to' + 1).toInt.toNat, by omega, to' + 1, ln2, c2, v3, f2.trans f3, ⟨by omega, by omega⟩, rfl, hx2, ?_⟩
        rw [a2]
        exact hg3
      refine wq_if (fun d1 => ?_) (fun d1 => ?_)
      · rw [if_pos d1] at hg2
        refine wq_gi (x := ln') v.1 rfl ?_
        refine wq_pf v.1 (by simp) ?_
        exact nxt (c2 := false) v.put (fq.trans of1.hu) rfl hg2
      rw [if_neg d1] at hg2
      refine wq_if (fun d2 => ?_) (fun d2 => ?_)
      · rw [if_pos d2] at hg2
        exact nxt (c2 := true) v fq rfl hg2
      rw [if_neg d2] at hg2
      refine wq_if (fun d3 => ?_) (fun d3 => ?_)
      · have hc : c = false := by
          cases c with
          | false => rfl
          | true => rw [hx, if_pos rfl] at d3; exact absurd d3 (by decide)
        refine wq_if (fun d4 => ?_) (fun d4 => ?_)
        · rw [if_neg (fun z => z.2.1 d4)] at hg2
          exact nxt v fq hx hg2
        refine wq_if (fun d5 => ?_) (fun d5 => ?_)
        · rw [if_neg (fun z => z.2.2 d5)] at hg2
          exact nxt v fq hx hg2
        · rw [if_pos ⟨hc, d4, d5⟩] at hg2
          exact ⟨_, rfl, to', ln', v, fq, ⟨b1, b2⟩, hg2⟩
      · have hc : ¬ c = false := fun z => d3 (by rw [hx, z]; rfl)
        rw [if_neg (fun z => hc z.1)] at hg2
        exact nxt v fq hx hg2
    · have c2 : ¬ to'.toInt < (Int32.ofNat n).toInt := fun z => c1 (i_lt.mpr z)
      rw [aN] at c2
      refine ⟨_, rfl, to', ln', v, fq, ⟨b1, b2⟩, ?_⟩
      rw [hg, gp_end (by omega)]
  · rintro (S' | S') hS'
    · exact ⟨_, rfl, hS'⟩
    · exact ⟨_, rfl, hS'⟩
end LEXG
/-- a letter of the reference's tape -/
theorem rl_eq {M : md_S} {p : Int32} (h0 : 0 ≤ p.toInt) (h1 : (M.1 2).toInt ≤ 32768) : mm_letter_I M p = some (if p.toInt < (M.1 2).toInt then M.2.1 1 p.toInt.toNat else 0) := by
  delta mm_letter_I
  by_cases c : p < M.1 2
  · have c2 := i_lt.mp c
    rw [if_pos c, if_pos c2, vq_ix h0 (by omega)]
    rfl
  · rw [if_neg c, if_neg (fun z => c (i_lt.mpr z))]
    rfl
theorem rl_w {M : md_S} {p : Int32} (h0 : 0 ≤ p.toInt) (h1 : (M.1 2).toInt ≤ 32768) (h2 : p.toInt < (M.1 2).toInt) {τ : Type} {E : Int32 → Option τ} {F : τ → Prop} (kk : dc_wp (E (M.2.1 1 p.toInt.toNat)) F) : dc_wp ((mm_letter_I M p).bind E) F := by
  rw [rl_eq h0 h1, if_pos h2]
  exact kk
theorem rg_w {M : md_S} (h0 : 0 ≤ (M.1 4).toInt) (h1 : (M.1 4).toInt ≤ (M.1 2).toInt) (h2 : (M.1 2).toInt ≤ 32768) : dc_wp (dc_it mm_advance_s2 (M, 0)) (fun M' => (∀ k, k ≠ 4 → k ≠ 5 → M'.1 k = M.1 k) ∧ M'.2 = M.2 ∧ ((M.1 4).toInt ≤ (M'.1 4).toInt ∧ (M'.1 4).toInt ≤ (M.1 2).toInt) ∧ gp (M.2.1 1) (M.1 2).toInt.toNat ((M.1 2).toInt.toNat - (M.1 4).toInt.toNat) (M.1 4).toInt.toNat (M.1 5) false = ((M'.1 4).toInt.toNat, M'.1 5)) := by
  refine dc_itK (fun k q => ∃ c, (∀ k, k ≠ 4 → k ≠ 5 → q.1.1 k = M.1 k) ∧ q.1.2 = M.2 ∧ ((M.1 4).toInt ≤ (q.1.1 4).toInt ∧ (q.1.1 4).toInt ≤ (M.1 2).toInt) ∧ k = (M.1 2).toInt.toNat - (q.1.1 4).toInt.toNat ∧ q.2 = (if c = true then 1 else 0) ∧ gp (M.2.1 1) (M.1 2).toInt.toNat ((M.1 2).toInt.toNat - (M.1 4).toInt.toNat) (M.1 4).toInt.toNat (M.1 5) false = gp (M.2.1 1) (M.1 2).toInt.toNat ((M.1 2).toInt.toNat - (q.1.1 4).toInt.toNat) (q.1.1 4).toInt.toNat (q.1.1 5) c) ?_ ((M.1 2).toInt.toNat - (M.1 4).toInt.toNat) (M, 0) ⟨false, fun _ _ _ => rfl, rfl, ⟨by show (M.1 4).toInt ≤ (M.1 4).toInt; omega, h1⟩, rfl, rfl, rfl⟩
  rintro k ⟨Q, x⟩ ⟨c, e1, e2, ⟨b1, b2⟩, hk, hx, hg⟩
  have e1 : ∀ k, k ≠ 4 → k ≠ 5 → Q.1 k = M.1 k := e1
  have e2 : Q.2 = M.2 := e2
  have b1 : (M.1 4).toInt ≤ (Q.1 4).toInt := b1
  have b2 : (Q.1 4).toInt ≤ (M.1 2).toInt := b2
  have hk : k = (M.1 2).toInt.toNat - (Q.1 4).toInt.toNat := hk
  have hx : x = (if c = true then 1 else 0) := hx
  have hg : gp (M.2.1 1) (M.1 2).toInt.toNat ((M.1 2).toInt.toNat - (M.1 4).toInt.toNat) (M.1 4).toInt.toNat (M.1 5) false = gp (M.2.1 1) (M.1 2).toInt.toNat ((M.1 2).toInt.toNat - (Q.1 4).toInt.toNat) (Q.1 4).toInt.toNat (Q.1 5) c := hg
  have e3 : Q.1 2 = M.1 2 := e1 2 (by decide) (by decide)
  show dc_wp (mm_advance_b2 Q x) _
  delta mm_advance_b2
  rw [e3]
  refine wq_if (fun c1 => ?_) (fun c1 => ?_)
  · have c2 := i_lt.mp c1
    have a1 : (Q.1 4 + 1).toInt = (Q.1 4).toInt + 1 := by rw [i_addS (by rw [il_1]; omega), il_1]
    have a2 : (Q.1 4 + 1).toInt.toNat = (Q.1 4).toInt.toNat + 1 := by omega
    have hg2 := hg.trans (gp_go (f := M.2.1 1) (l := Q.1 5) (c := c) (show (Q.1 4).toInt.toNat < (M.1 2).toInt.toNat by omega))
    have f1 : Q.2.1 1 = M.2.1 1 := by rw [e2]
    have let_ : ∀ {τ : Type} {E : Int32 → Option τ} {F : τ → Prop}, dc_wp (E (M.2.1 1 (Q.1 4).toInt.toNat)) F → dc_wp ((mm_letter_I Q (Q.1 4)).bind E) F := by
      intro τ E F kk
      refine rl_w (by omega) (by rw [e3]; exact h2) (by rw [e3]; exact c2) ?_
      rw [f1]
      exact kk
    generalize hch : M.2.1 1 (Q.1 4).toInt.toNat = ch at hg2 let_
    -- behind the test: the step itself
    have stp : ∀ {c2 : Bool} {y l : Int32}, y = (if c2 = true then 1 else 0) → (if ch = 10 then Q.1 5 + 1 else Q.1 5 + 0) = l → gp (M.2.1 1) (M.1 2).toInt.toNat ((M.1 2).toInt.toNat - (M.1 4).toInt.toNat) (M.1 4).toInt.toNat (M.1 5) false = gp (M.2.1 1) (M.1 2).toInt.toNat ((M.1 2).toInt.toNat - ((Q.1 4).toInt.toNat + 1)) ((Q.1 4).toInt.toNat + 1) l c2 → dc_wp (mm_advance_L104 Q y) (Sum.elim (fun z => ∃ k', k' < k ∧ ∃ c, (∀ k, k ≠ 4 → k ≠ 5 → z.1.1 k = M.1 k) ∧ z.1.2 = M.2 ∧ ((M.1 4).toInt ≤ (z.1.1 4).toInt ∧ (z.1.1 4).toInt ≤ (M.1 2).toInt) ∧ k' = (M.1 2).toInt.toNat - (z.1.1 4).toInt.toNat ∧ z.2 = (if c = true then 1 else 0) ∧ gp (M.2.1 1) (M.1 2).toInt.toNat ((M.1 2).toInt.toNat - (M.1 4).toInt.toNat) (M.1 4).toInt.toNat (M.1 5) false = gp (M.2.1 1) (M.1 2).toInt.toNat ((M.1 2).toInt.toNat - (z.1.1 4).toInt.toNat) (z.1.1 4).toInt.toNat (z.1.1 5) c) (fun M' => (∀ k, k ≠ 4 → k ≠ 5 → M'.1 k = M.1 k) ∧ M'.2 = M.2 ∧ ((M.1 4).toInt ≤ (M'.1 4).toInt ∧ (M'.1 4).toInt ≤ (M.1 2).toInt) ∧ gp (M.2.1 1) (M.1 2).toInt.toNat ((M.1 2).toInt.toNat - (M.1 4).toInt.toNat) (M.1 4).toInt.toNat (M.1 5) false = ((M'.1 4).toInt.toNat, M'.1 5))) := by
      intro c2 y l hy hl hg3
      have one : ∀ d : Int32, Q.1 5 + d = l → dc_wp (mm_advance_L128 Q y d (Q.1 5)) (Sum.elim (fun z => ∃ k', k' < k ∧ ∃ c, (∀ k, k ≠ 4 → k ≠ 5 → z.1.1 k = M.1 k) ∧ z.1.2 = M.2 ∧ ((M.1 4).toInt ≤ (z.1.1 4).toInt ∧ (z.1.1 4).toInt ≤ (M.1 2).toInt) ∧ k' = (M.1 2).toInt.toNat - (z.1.1 4).toInt.toNat ∧ z.2 = (if c = true then 1 else 0) ∧ gp (M.2.1 1) (M.1 2).toInt.toNat ((M.1 2).toInt.toNat - (M.1 4).toInt.toNat) (M.1 4).toInt.toNat (M.1 5) false = gp (M.2.1 1) (M.1 2).toInt.toNat ((M.1 2).toInt.toNat - (z.1.1 4).toInt.toNat) (z.1.1 4).toInt.toNat (z.1.1 5) c) (fun M' => (∀ k, k ≠ 4 → k ≠ 5 → M'.1 k = M.1 k) ∧ M'.2 = M.2 ∧ ((M.1 4).toInt ≤ (M'.1 4).toInt ∧ (M'.1 4).toInt ≤ (M.1 2).toInt) ∧ gp (M.2.1 1) (M.1 2).toInt.toNat ((M.1 2).toInt.toNat - (M.1 4).toInt.toNat) (M.1 4).toInt.toNat (M.1 5) false = ((M'.1 4).toInt.toNat, M'.1 5))) := by
        intro d hd
        delta mm_advance_L128
        refine wq_let (fun Y1 hY1 => ?_)
        subst hY1
        refine wq_let (fun Y2 hY2 => ?_)
        subst hY2
        have g4 : (md_i (md_i Q 5 (Q.1 5 + d)) 4 ((md_i Q 5 (Q.1 5 + d)).1 4 + 1)).1 4 = Q.1 4 + 1 := rfl
        have g5 : (md_i (md_i Q 5 (Q.1 5 + d)) 4 ((md_i Q 5 (Q.1 5 + d)).1 4 + 1)).1 5 = l := hd
        refine ⟨_, rfl, (M.1 2).toInt.toNat - (Q.1 4 + 1).toInt.toNat, by omega, c2, fun k hk4 hk5 => ?_, e2, ⟨?_, ?_⟩, rfl, hy, ?_⟩
        · show upd (upd Q.1 5 _) 4 _ k = _
          unfold upd
          rw [if_neg hk4, if_neg hk5]
          exact e1 k hk4 hk5
        · rw [g4]; omega
        · rw [g4]; omega
        · rw [g4, g5, a2]
          exact hg3
      delta mm_advance_L104
      refine let_ ?_
      refine wq_if (fun d1 => ?_) (fun d1 => ?_)
      · rw [if_pos d1] at hl
        exact one 1 hl
      · rw [if_neg d1] at hl
        exact one 0 hl
    have z0 : Q.1 5 + 0 = Q.1 5 := by rw [i_eq, i_addS (by rw [il_0]; have := i_lo (Q.1 5); have := i_hi (Q.1 5); omega), il_0]; omega
    -- what 69 does
    have s69 : (c = true ∨ ch = 32 ∨ ch = 9 ∨ ch = 10 ∨ ch = 37) → dc_wp (mm_advance_L69 Q x) (Sum.elim (fun z => ∃ k', k' < k ∧ ∃ c, (∀ k, k ≠ 4 → k ≠ 5 → z.1.1 k = M.1 k) ∧ z.1.2 = M.2 ∧ ((M.1 4).toInt ≤ (z.1.1 4).toInt ∧ (z.1.1 4).toInt ≤ (M.1 2).toInt) ∧ k' = (M.1 2).toInt.toNat - (z.1.1 4).toInt.toNat ∧ z.2 = (if c = true then 1 else 0) ∧ gp (M.2.1 1) (M.1 2).toInt.toNat ((M.1 2).toInt.toNat - (M.1 4).toInt.toNat) (M.1 4).toInt.toNat (M.1 5) false = gp (M.2.1 1) (M.1 2).toInt.toNat ((M.1 2).toInt.toNat - (z.1.1 4).toInt.toNat) (z.1.1 4).toInt.toNat (z.1.1 5) c) (fun M' => (∀ k, k ≠ 4 → k ≠ 5 → M'.1 k = M.1 k) ∧ M'.2 = M.2 ∧ ((M.1 4).toInt ≤ (M'.1 4).toInt ∧ (M'.1 4).toInt ≤ (M.1 2).toInt) ∧ gp (M.2.1 1) (M.1 2).toInt.toNat ((M.1 2).toInt.toNat - (M.1 4).toInt.toNat) (M.1 4).toInt.toNat (M.1 5) false = ((M'.1 4).toInt.toNat, M'.1 5))) := by
      intro hor
      delta mm_advance_L69
      refine let_ ?_
      refine wq_if (fun d1 => ?_) (fun d1 => ?_)
      · rw [if_pos d1] at hg2
        exact stp (c2 := false) rfl (if_pos d1) hg2
      · rw [if_neg d1] at hg2
        refine wq_if (fun d2 => ?_) (fun d2 => ?_)
        · have hc : c = false := by
            cases c with
            | false => rfl
            | true => rw [hx, if_pos rfl] at d2; exact absurd d2 (by decide)
          refine let_ ?_
          refine wq_if (fun d3 => ?_) (fun d3 => ?_)
          · rw [if_pos d3] at hg2
            exact stp (c2 := true) rfl ((if_neg d1).trans z0) hg2
          · rw [if_neg d3, if_neg (fun z => by rcases hor with w | w | w | w | w; (rw [hc] at w; cases w); exact z.2.2 w; exact z.2.1 w; exact d1 w; exact d3 w), hc] at hg2
            exact stp (c2 := false) rfl ((if_neg d1).trans z0) hg2
        · have hc : c = true := by
            cases c with
            | true => rfl
            | false => exact absurd (by rw [hx]; rfl) d2
          by_cases d3 : ch = 37
          · rw [if_pos d3] at hg2
            exact stp (c2 := true) rfl ((if_neg d1).trans z0) hg2
          · rw [if_neg d3, if_neg (fun z => by rw [hc] at z; cases z.1), hc] at hg2
            exact stp (c2 := true) rfl ((if_neg d1).trans z0) hg2
    refine wq_if (fun d1 => ?_) (fun d1 => ?_)
    · have hc : c = false := by
        cases c with
        | false => rfl
        | true => rw [hx, if_pos rfl] at d1; exact absurd d1 (by decide)
      refine let_ ?_
      refine wq_if (fun d2 => s69 (Or.inr (Or.inl d2))) (fun d2 => ?_)
      refine let_ ?_
      refine wq_if (fun d3 => s69 (Or.inr (Or.inr (Or.inl d3)))) (fun d3 => ?_)
      refine let_ ?_
      refine wq_if (fun d4 => s69 (Or.inr (Or.inr (Or.inr (Or.inl d4))))) (fun d4 => ?_)
      refine let_ ?_
      refine wq_if (fun d5 => s69 (Or.inr (Or.inr (Or.inr (Or.inr d5))))) (fun d5 => ?_)
      rw [if_neg d4, if_neg d5, if_pos ⟨hc, d3, d2⟩] at hg2
      exact ⟨_, rfl, e1, e2, ⟨b1, b2⟩, hg2⟩
    · have hc : c = true := by
        cases c with
        | true => rfl
        | false => exact absurd (by rw [hx]; rfl) d1
      exact s69 (Or.inl hc)
  · have c2 : ¬ (Q.1 4).toInt < (M.1 2).toInt := fun z => c1 (i_lt.mpr z)
    refine ⟨_, rfl, e1, e2, ⟨b1, b2⟩, ?_⟩
    rw [hg, gp_end (by omega)]
