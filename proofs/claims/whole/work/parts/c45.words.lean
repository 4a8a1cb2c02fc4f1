/-! words: where they end, for class and reference; what the reference keeps of one -/
theorem zb1 : dc_zb 1 = some () := if_pos (Or.inr rfl)
theorem zb0 : dc_zb 0 = some () := if_pos (Or.inl rfl)
abbrev ltr (c : Int32) : Prop := (¬ c < 97 ∧ ¬ 122 < c) ∨ (¬ c < 65 ∧ ¬ 90 < c)
abbrev pln (c : Int32) : Prop := ltr c ∨ (¬ c < 48 ∧ ¬ 57 < c) ∨ c = 95
theorem iw_w {G : hg_E} {S : hg_S} {c : Int32} : dc_wp (hm_LX_isInWord G S c) (fun q => (pln c ∧ q = 1) ∨ (¬ pln c ∧ q = 0)) := by
  have r1 : pln c → dc_wp (hm_LX_isInWord_L42 G S) (fun q => (pln c ∧ q = 1) ∨ (¬ pln c ∧ q = 0)) := by
    intro h
    show dc_wp ((dc_zb 1).bind fun _ => some 1) _
    rw [zb1]
    exact ⟨1, rfl, Or.inl ⟨h, rfl⟩⟩
  have r0 : ¬ pln c → dc_wp (hm_LX_isInWord_L47 G S 0) (fun q => (pln c ∧ q = 1) ∨ (¬ pln c ∧ q = 0)) := by
    intro h
    show dc_wp ((dc_zb 0).bind fun _ => some 0) _
    rw [zb0]
    exact ⟨0, rfl, Or.inr ⟨h, rfl⟩⟩
  have r36 : ¬ ltr c → ¬ (¬ c < 48 ∧ ¬ 57 < c) → dc_wp (hm_LX_isInWord_L36 G S c) (fun q => (pln c ∧ q = 1) ∨ (¬ pln c ∧ q = 0)) := by
    intro h1 h2
    delta hm_LX_isInWord_L36
    refine wq_if (fun h => r1 (Or.inr (Or.inr h))) (fun h => r0 ?_)
    rintro (z | z | z)
    · exact h1 z
    · exact h2 z
    · exact h z
  have r24 : ¬ ltr c → dc_wp (hm_LX_isInWord_L24 G S c) (fun q => (pln c ∧ q = 1) ∨ (¬ pln c ∧ q = 0)) := by
    intro h1
    delta hm_LX_isInWord_L24
    exact wq_if (fun h => r36 h1 (fun z => z.1 h)) (fun h => wq_if (fun g => r36 h1 (fun z => z.2 g)) (fun g => r1 (Or.inr (Or.inl ⟨h, g⟩))))
  have r12 : ¬ (¬ c < 97 ∧ ¬ 122 < c) → dc_wp (hm_LX_isInWord_L12 G S c) (fun q => (pln c ∧ q = 1) ∨ (¬ pln c ∧ q = 0)) := by
    intro h1
    delta hm_LX_isInWord_L12
    exact wq_if (fun h => r24 (by rintro (z | z); exact h1 z; exact z.1 h)) (fun h => wq_if (fun g => r24 (by rintro (z | z); exact h1 z; exact z.2 g)) (fun g => r1 (Or.inl (Or.inr ⟨h, g⟩))))
  delta hm_LX_isInWord
  exact wq_if (fun h => r12 (fun z => z.1 h)) (fun h => wq_if (fun g => r12 (fun z => z.2 g)) (fun g => r1 (Or.inl (Or.inl ⟨h, g⟩))))
theorem il_w {c : Int32} : dc_wp (mm_isLetter c) (fun q => (ltr c ∧ q = 1) ∨ (¬ ltr c ∧ q = 0)) := by
  have r1 : ltr c → dc_wp (mm_isLetter_L24) (fun q => (ltr c ∧ q = 1) ∨ (¬ ltr c ∧ q = 0)) := by
    intro h
    show dc_wp ((dc_zb 1).bind fun _ => some 1) _
    rw [zb1]
    exact ⟨1, rfl, Or.inl ⟨h, rfl⟩⟩
  have r0 : ¬ ltr c → dc_wp (mm_isLetter_L28) (fun q => (ltr c ∧ q = 1) ∨ (¬ ltr c ∧ q = 0)) := by
    intro h
    show dc_wp ((dc_zb 0).bind fun _ => some 0) _
    rw [zb0]
    exact ⟨0, rfl, Or.inr ⟨h, rfl⟩⟩
  have r12 : ¬ (¬ c < 97 ∧ ¬ 122 < c) → dc_wp (mm_isLetter_L12 c) (fun q => (ltr c ∧ q = 1) ∨ (¬ ltr c ∧ q = 0)) := by
    intro h1
    delta mm_isLetter_L12
    exact wq_if (fun h => r0 (by rintro (z | z); exact h1 z; exact z.1 h)) (fun h => wq_if (fun g => r0 (by rintro (z | z); exact h1 z; exact z.2 g)) (fun g => r1 (Or.inr ⟨h, g⟩)))
  delta mm_isLetter
  exact wq_if (fun h => r12 (fun z => z.1 h)) (fun h => wq_if (fun g => r12 (fun z => z.2 g)) (fun g => r1 (Or.inl ⟨h, g⟩)))
theorem ip_w {c : Int32} : dc_wp (mm_isPlain c) (fun q => (pln c ∧ q = 1) ∨ (¬ pln c ∧ q = 0)) := by
  have r1 : pln c → dc_wp (mm_isPlain_L25) (fun q => (pln c ∧ q = 1) ∨ (¬ pln c ∧ q = 0)) := by
    intro h
    show dc_wp ((dc_zb 1).bind fun _ => some 1) _
    rw [zb1]
    exact ⟨1, rfl, Or.inl ⟨h, rfl⟩⟩
  have r19 : ¬ ltr c → ¬ (¬ c < 48 ∧ ¬ 57 < c) → dc_wp (mm_isPlain_L19 c) (fun q => (pln c ∧ q = 1) ∨ (¬ pln c ∧ q = 0)) := by
    intro h1 h2
    delta mm_isPlain_L19
    refine wq_if (fun h => r1 (Or.inr (Or.inr h))) (fun h => ?_)
    show dc_wp ((dc_zb 0).bind fun _ => some 0) _
    rw [zb0]
    refine ⟨0, rfl, Or.inr ⟨?_, rfl⟩⟩
    rintro (z | z | z)
    · exact h1 z
    · exact h2 z
    · exact h z
  delta mm_isPlain
  refine wq_call il_w ?_
  rintro q (⟨h1, rfl⟩ | ⟨h1, rfl⟩)
  · exact wq_if (fun h => absurd h (by decide)) (fun _ => r1 (Or.inl h1))
  · exact wq_if (fun _ => wq_if (fun h => r19 h1 (fun z => z.1 h)) (fun h => wq_if (fun g => r19 h1 (fun z => z.2 g)) (fun g => r1 (Or.inr (Or.inl ⟨h, g⟩))))) (fun h => absurd rfl h)
theorem pln_0 : ¬ pln 0 := by decide
def we (f : Nat → Int32) (n : Nat) : Nat → Nat → Nat
  | 0, p => p
  | k + 1, p => if p < n ∧ pln (f p) then we f n k (p + 1) else p
theorem we_stop {f : Nat → Int32} {n p : Nat} (h : ¬ (p < n ∧ pln (f p))) (k : Nat) : we f n k p = p := by
  cases k with
  | zero => rfl
  | succ k => show (if p < n ∧ pln (f p) then _ else p) = p; rw [if_neg h]
theorem we_go {f : Nat → Int32} {n p : Nat} (h : p < n ∧ pln (f p)) : we f n (n - p) p = we f n (n - (p + 1)) (p + 1) := by
  obtain ⟨k, hk⟩ : ∃ k, n - p = k + 1 := ⟨n - p - 1, by omega⟩
  have hk2 : n - (p + 1) = k := by omega
  rw [hk, hk2]
  show (if p < n ∧ pln (f p) then _ else p) = _
  rw [if_pos h]
section LEXW
variable {G : hg_E} {S : hg_S} {o tx n : Nat} {f : Nat → Int32} {tk : Option Nat} {fr to ln fa : Int32}
theorem wl_w (h : lxv G S o tx n f tk fr to ln fa) (h0 : 0 ≤ to.toInt) (h1 : to.toInt ≤ (n : Int)) (hn : n ≤ 100000) : dc_wp (dc_it (hm_LX_advance_s32 G o) S) (fun S' => ∃ to', lxv G S' o tx n f tk fr to' ln fa ∧ of1 S S' o ∧ (to.toInt ≤ to'.toInt ∧ to'.toInt ≤ (n : Int)) ∧ we f n (n - to.toInt.toNat) to.toInt.toNat = to'.toInt.toNat) := by
  have aN : (Int32.ofNat n).toInt = (n : Int) := Int32.toInt_ofNat_of_lt (by omega)
  refine dc_itK (fun k q => ∃ to', lxv G q o tx n f tk fr to' ln fa ∧ of1 S q o ∧ (to.toInt ≤ to'.toInt ∧ to'.toInt ≤ (n : Int)) ∧ k = n - to'.toInt.toNat ∧ we f n (n - to.toInt.toNat) to.toInt.toNat = we f n (n - to'.toInt.toNat) to'.toInt.toNat) ?_ (n - to.toInt.toNat) S ⟨to, h, of1.rf, ⟨by omega, h1⟩, rfl, rfl⟩
  rintro k Q ⟨to', v, fq, ⟨b1, b2⟩, hk, hg⟩
  show dc_wp (hm_LX_advance_b32 G Q o) _
  delta hm_LX_advance_b32
  refine wq_gi (x := to') v.1 rfl ?_
  refine wq_gr (x := some tx) v.1 rfl ?_
  refine wq_ln v.2.1 ?_
  refine wq_if (fun c1 => ?_) (fun c1 => ?_)
  · have c2 := i_lt.mp c1
    rw [aN] at c2
    have a1 : (to' + 1).toInt = to'.toInt + 1 := by rw [i_addS (by rw [il_1]; omega), il_1]
    have a2 : (to' + 1).toInt.toNat = to'.toInt.toNat + 1 := by omega
    refine wq_gr (x := some tx) v.1 rfl ?_
    refine wq_gi (x := to') v.1 rfl ?_
    refine wq_ld v.2.1 (by omega) c2 ?_
    refine wq_call iw_w ?_
    rintro q (⟨p1, rfl⟩ | ⟨p1, rfl⟩)
    · refine wq_if (fun z => absurd z (by decide)) (fun _ => ?_)
      refine wq_gi (x := to') v.1 rfl ?_
      refine wq_pf v.1 (by simp) ?_
      refine ⟨_, rfl, n - (to' + 1).toInt.toNat, by omega, to' + 1, v.put, fq.trans of1.hu, ⟨by omega, by omega⟩, rfl, ?_⟩
      rw [a2, hg]
      exact we_go ⟨by omega, p1⟩
    · refine wq_if (fun _ => ?_) (fun z => absurd rfl z)
      refine ⟨_, rfl, to', v, fq, ⟨b1, b2⟩, ?_⟩
      rw [hg]
      exact we_stop (fun z => p1 z.2) _
  · have c2 : ¬ to'.toInt < (Int32.ofNat n).toInt := fun z => c1 (i_lt.mpr z)
    rw [aN] at c2
    refine ⟨_, rfl, to', v, fq, ⟨b1, b2⟩, ?_⟩
    rw [hg]
    exact we_stop (fun z => by omega) _
end LEXW
/-- the reference's number for a word's first letters -/
noncomputable def wa (f : Nat → Int32) (p : Nat) : Nat → Int64
  | 0 => 0
  | k + 1 => if k < 8 then (wa f p k <<< (Int32.toInt64 8 &&& 63)) ||| (Int32.toInt64 (f (p + k))) else -1
theorem rw_w {M : md_S} (h7 : M.1 7 = M.1 4) (h0 : 0 ≤ (M.1 4).toInt) (h1 : (M.1 4).toInt ≤ (M.1 2).toInt) (h2 : (M.1 2).toInt ≤ 32768) (hw0 : M.2.2.1 = 0) : dc_wp (dc_it mm_advance_s222 M) (fun M' => (∀ k, k ≠ 4 → M'.1 k = M.1 k) ∧ M'.2.1 = M.2.1 ∧ M'.2.2.2 = M.2.2.2 ∧ ((M.1 4).toInt ≤ (M'.1 4).toInt ∧ (M'.1 4).toInt ≤ (M.1 2).toInt) ∧ we (M.2.1 1) (M.1 2).toInt.toNat ((M.1 2).toInt.toNat - (M.1 4).toInt.toNat) (M.1 4).toInt.toNat = (M'.1 4).toInt.toNat ∧ M'.2.2.1 = wa (M.2.1 1) (M.1 4).toInt.toNat ((M'.1 4).toInt.toNat - (M.1 4).toInt.toNat)) := by
  refine dc_itK (fun k q => (∀ k, k ≠ 4 → q.1 k = M.1 k) ∧ q.2.1 = M.2.1 ∧ q.2.2.2 = M.2.2.2 ∧ ((M.1 4).toInt ≤ (q.1 4).toInt ∧ (q.1 4).toInt ≤ (M.1 2).toInt) ∧ k = (M.1 2).toInt.toNat - (q.1 4).toInt.toNat ∧ we (M.2.1 1) (M.1 2).toInt.toNat ((M.1 2).toInt.toNat - (M.1 4).toInt.toNat) (M.1 4).toInt.toNat = we (M.2.1 1) (M.1 2).toInt.toNat ((M.1 2).toInt.toNat - (q.1 4).toInt.toNat) (q.1 4).toInt.toNat ∧ q.2.2.1 = wa (M.2.1 1) (M.1 4).toInt.toNat ((q.1 4).toInt.toNat - (M.1 4).toInt.toNat)) ?_ ((M.1 2).toInt.toNat - (M.1 4).toInt.toNat) M ⟨fun _ _ => rfl, rfl, rfl, ⟨by omega, h1⟩, rfl, rfl, by rw [Nat.sub_self]; exact hw0⟩
  rintro k Q ⟨e1, e2, e3, ⟨b1, b2⟩, hk, hg, hv⟩
  have f2 : Q.1 2 = M.1 2 := e1 2 (by decide)
  have f7 : Q.1 7 = M.1 4 := (e1 7 (by decide)).trans h7
  show dc_wp (mm_advance_b222 Q) _
  delta mm_advance_b222
  have hq := rl_eq (M := Q) (p := Q.1 4) (by omega) (by rw [f2]; exact h2)
  rw [f2, e2] at hq
  rw [hq, Option.bind_some]
  refine wq_call ip_w ?_
  rintro q (⟨p1, rfl⟩ | ⟨p1, rfl⟩)
  · refine wq_if (fun z => absurd z (by decide)) (fun _ => ?_)
    have c2 : (Q.1 4).toInt < (M.1 2).toInt := by
      by_cases c : (Q.1 4).toInt < (M.1 2).toInt
      · exact c
      · rw [if_neg c] at p1; exact absurd p1 pln_0
    rw [if_pos c2] at p1
    have a1 : (Q.1 4 + 1).toInt = (Q.1 4).toInt + 1 := by rw [i_addS (by rw [il_1]; omega), il_1]
    have a2 : (Q.1 4 + 1).toInt.toNat = (Q.1 4).toInt.toNat + 1 := by omega
    have a3 : (Q.1 4 - Q.1 7).toInt = (Q.1 4).toInt - (M.1 4).toInt := by rw [f7, i_subS (by omega)]
    have one : ∀ y : Int64, y = wa (M.2.1 1) (M.1 4).toInt.toNat ((Q.1 4).toInt.toNat - (M.1 4).toInt.toNat + 1) → dc_wp (mm_advance_L274 Q y) (Sum.elim (fun z => ∃ k', k' < k ∧ ((∀ k, k ≠ 4 → z.1 k = M.1 k) ∧ z.2.1 = M.2.1 ∧ z.2.2.2 = M.2.2.2 ∧ ((M.1 4).toInt ≤ (z.1 4).toInt ∧ (z.1 4).toInt ≤ (M.1 2).toInt) ∧ k' = (M.1 2).toInt.toNat - (z.1 4).toInt.toNat ∧ we (M.2.1 1) (M.1 2).toInt.toNat ((M.1 2).toInt.toNat - (M.1 4).toInt.toNat) (M.1 4).toInt.toNat = we (M.2.1 1) (M.1 2).toInt.toNat ((M.1 2).toInt.toNat - (z.1 4).toInt.toNat) (z.1 4).toInt.toNat ∧ z.2.2.1 = wa (M.2.1 1) (M.1 4).toInt.toNat ((z.1 4).toInt.toNat - (M.1 4).toInt.toNat))) (fun M' => (∀ k, k ≠ 4 → M'.1 k = M.1 k) ∧ M'.2.1 = M.2.1 ∧ M'.2.2.2 = M.2.2.2 ∧ ((M.1 4).toInt ≤ (M'.1 4).toInt ∧ (M'.1 4).toInt ≤ (M.1 2).toInt) ∧ we (M.2.1 1) (M.1 2).toInt.toNat ((M.1 2).toInt.toNat - (M.1 4).toInt.toNat) (M.1 4).toInt.toNat = (M'.1 4).toInt.toNat ∧ M'.2.2.1 = wa (M.2.1 1) (M.1 4).toInt.toNat ((M'.1 4).toInt.toNat - (M.1 4).toInt.toNat))) := by
      intro y hy
      delta mm_advance_L274
      refine wq_let (fun Y1 hY1 => ?_)
      subst hY1
      refine wq_let (fun Y2 hY2 => ?_)
      subst hY2
      have g4 : (md_i (md_w Q y) 4 ((md_w Q y).1 4 + 1)).1 4 = Q.1 4 + 1 := rfl
      refine ⟨_, rfl, (M.1 2).toInt.toNat - (Q.1 4 + 1).toInt.toNat, by omega, fun k hk4 => ?_, e2, e3, ⟨?_, ?_⟩, rfl, ?_, ?_⟩
      · show upd Q.1 4 _ k = _
        unfold upd
        rw [if_neg hk4]
        exact e1 k hk4
      · rw [g4]; omega
      · rw [g4]; omega
      · rw [g4, a2, hg]
        exact we_go ⟨by omega, p1⟩
      · rw [g4, a2, show (Q.1 4).toInt.toNat + 1 - (M.1 4).toInt.toNat = (Q.1 4).toInt.toNat - (M.1 4).toInt.toNat + 1 by omega]
        exact hy
    refine wq_if (fun d1 => ?_) (fun d1 => ?_)
    · have d2 := i_lt.mp d1
      rw [a3, il_8] at d2
      rw [Option.bind_some]
      refine one _ ?_
      show _ = (if (Q.1 4).toInt.toNat - (M.1 4).toInt.toNat < 8 then _ else _)
      rw [hv, if_pos c2, if_pos (show (Q.1 4).toInt.toNat - (M.1 4).toInt.toNat < 8 by omega), show (M.1 4).toInt.toNat + ((Q.1 4).toInt.toNat - (M.1 4).toInt.toNat) = (Q.1 4).toInt.toNat by omega]
    · have d2 : ¬ (Q.1 4 - Q.1 7).toInt < (8 : Int32).toInt := fun z => d1 (i_lt.mpr z)
      rw [a3, il_8] at d2
      refine one _ ?_
      show _ = (if (Q.1 4).toInt.toNat - (M.1 4).toInt.toNat < 8 then _ else _)
      rw [if_neg (by omega)]
  · refine wq_if (fun _ => ?_) (fun z => absurd rfl z)
    refine ⟨_, rfl, e1, e2, e3, ⟨b1, b2⟩, ?_, hv⟩
    rw [hg]
    refine we_stop (fun z => p1 ?_) _
    rw [if_pos (by omega)]
    exact z.2
