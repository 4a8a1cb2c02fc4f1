/-! the class's reactor: places of signals -/
def plc (kd wt : Nat → Int32) (io : Nat) : Nat → Nat
  | 0 => io
  | n + 1 => plc kd wt io n + if kd n = 10 then (wt n).toInt.toNat else 0
theorem plc_m {kd wt : Nat → Int32} {io n : Nat} : ∀ k, plc kd wt io n ≤ plc kd wt io (n + k)
  | 0 => Nat.le_refl _
  | k + 1 => Nat.le_trans (plc_m k) (Nat.le_add_right _ _)
theorem plc_le {kd wt : Nat → Int32} {io n k : Nat} (h : n ≤ k) : plc kd wt io n ≤ plc kd wt io k := by
  have := plc_m (kd := kd) (wt := wt) (io := io) (n := n) (k - n)
  rw [show n + (k - n) = k by omega] at this
  exact this
/-- places are given to inputs, outputs and to the locals ahead of row n -/
def plP (kd nu wt : Nat → Int32) (io n : Nat) (f : Nat → Int32) : Prop := (∀ k, k < io → f k = Int32.ofNat k) ∧ ∀ j, j < n → kd j = 10 → f (nu j).toInt.toNat = Int32.ofNat (plc kd wt io j)
section GPS
variable {G : hg_E} {S0 S : hg_S} {o ci : Nat} {fs : List Value} {k w : Nat} {E E' : Nat → va_E}
theorem AV_cc (v : AV S0 S o ci fs k w E) (h : ∀ i, i < k → E i = E' i) : AV S0 S o ci fs k w E' := ⟨v.1, v.2.1, v.2.2.1, v.2.2.2.1, fun i hi => by rw [← h i hi]; exact v.2.2.2.2 i hi⟩
theorem AV_st (v : AV S0 S o ci fs k w E) {i : Nat} (hi : i < k) {e : va_E} : AV S0 (hu S (S0.2.1 + i) e) o ci fs k w (eU E i e) := by
  obtain ⟨⟨w1, w2⟩, w3, w4, w5, w6⟩ := v
  refine ⟨⟨w1.hu, w2⟩, ?_, w4, fun b b1 b2 => ?_, fun j hj => ?_⟩
  · rw [hu_ne (by omega)]; exact w3
  · rw [hu_ne (by omega)]; exact w5 b b1 b2
  · unfold eU
    by_cases c : j = i
    · subst c
      rw [if_pos rfl]
      exact hu_self (w6 j hj)
    · rw [if_neg c, hu_ne (by omega)]
      exact w6 j hj
variable {τ : Type} {Φ : τ → Prop}
theorem wa_st (v : AV S0 S o ci fs k w E) {i : Nat} (hi : i < k) {c : ClassId} {N : Nat} {f : Nat → Int32} (he : E i = .inl (c, N, .inl f)) {x y : Int32} (h0 : 0 ≤ x.toInt) (h1 : x.toInt < (N : Int)) {X : hg_S → Option τ} (kk : ∀ S', AV S0 S' o ci fs k w (eU E i (.inl (c, N, .inl (upd f x.toInt.toNat y)))) → dc_wp (X S') Φ) : dc_wp ((hg_st S (some (S0.2.1 + i)) c x y).bind X) Φ := wq_st ((v.2.2.2.2 i hi).trans (congrArg some he)) h0 h1 (kk _ (AV_st v hi))
variable {p nm pc : Nat} {a N : Nat → Nat} {R : Nat → Nat → Int32} {c : Nat → Int32} {made : Int32} {n io sg : Nat}
/-- two rows alike, written alike -/
theorem wa_s2 {f : Nat → Int32} (v : AV S0 S o 10 fs 2 w (fun _ => .inl (G.1 0, sg, .inl f))) {x y : Int32} (h0 : 0 ≤ x.toInt) (h1 : x.toInt < (sg : Int)) {S1 : hg_S} (v1 : AV S0 S1 o 10 fs 2 w (eU (eU (fun _ => .inl (G.1 0, sg, .inl f)) 0 (.inl (G.1 0, sg, .inl (upd f x.toInt.toNat y)))) 1 (.inl (G.1 0, sg, .inl (upd f x.toInt.toNat y))))) : AV S0 S1 o 10 fs 2 w (fun _ => .inl (G.1 0, sg, .inl (upd f x.toInt.toNat y))) := by
  refine AV_cc v1 (fun i hi => ?_)
  have : i = 0 ∨ i = 1 := by omega
  rcases this with e | e <;> subst e <;> rfl
theorem gp_w (h0 : hw S0) (ho : ∃ fs, hg_at S0.1 o = some (.inr (10, fs))) (pv : PGv G S0 p nm pc a N R c made) (hc : c 1 + c 2 = Int32.ofNat io) (hM : ∀ i, i < 11 → N i = n) (hn : n ≤ 5000) (hio : io ≤ sg) (hsg : sg ≤ 5000) (hl : ∀ j, j < n → R 0 j = 10 → (io : Int) ≤ (R 4 j).toInt ∧ (R 4 j).toInt < (sg : Int)) (hj : ∀ j j', j < n → j' < n → R 0 j = 10 → R 0 j' = 10 → R 4 j = R 4 j' → j = j') (hw0 : ∀ j, j < n → 0 ≤ (R 7 j).toInt) (hp : plc (R 0) (R 7) io n ≤ 10000) (hf : fs[0]? = some (.ref p) ∧ fs[3]? = some (.ref S0.2.1) ∧ fs[4]? = some (.ref (S0.2.1 + 1))) (v : AV S0 S o 10 fs 2 w (fun _ => .inl (G.1 0, sg, .inl (fun _ => 0)))) : dc_wp (hm_RE_givePlaces G S o) (fun q => q.2 = Int32.ofNat (plc (R 0) (R 7) io n) ∧ ∃ f, AV S0 q.1 o 10 fs 2 w (fun _ => .inl (G.1 0, sg, .inl f)) ∧ plP (R 0) (R 4) (R 7) io n f) := by
  obtain ⟨fso, ho⟩ := ho
  have np : p ≠ o := at_ne pv.1 ho (fun z => by cases z)
  have na : ∀ i, i < 16 → ¬ i = 10 → a i ≠ o := fun i hi n10 => at_ne (pv.2.2 i hi n10) ho (fun z => by cases z)
  have hP : ∀ {S1 : hg_S} {E1 : Nat → va_E}, AV S0 S1 o 10 fs 2 w E1 → hg_at S1.1 p = hg_at S0.1 p ∧ ∀ i, i < 16 → ¬ i = 10 → hg_at S1.1 (a i) = some (.inl (G.1 0, N i, .inl (R i))) := fun v1 => ⟨(v1.at h0 pv.1 np).trans pv.1.symm, fun i hi n10 => v1.at h0 (pv.2.2 i hi n10) (na i hi n10)⟩
  have tio : (Int32.ofNat io).toInt = (io : Int) := Int32.toInt_ofNat_of_lt (by omega)
  delta hm_RE_givePlaces
  refine wq_gr (x := some p) v.2.1 hf.1 ?_
  refine wq_gi (x := c 1) ((hP v).1.trans pv.1) rfl ?_
  refine wq_gr (x := some p) v.2.1 hf.1 ?_
  refine wq_gi (x := c 2) ((hP v).1.trans pv.1) rfl ?_
  rw [hc]
  show dc_wp (hm_RE_givePlaces_L18 G S o (Int32.ofNat io) 0) _
  delta hm_RE_givePlaces_L18
  refine wq_call (P := fun S1 => ∃ f, AV S0 S1 o 10 fs 2 w (fun _ => .inl (G.1 0, sg, .inl f)) ∧ ∀ k, k < io → f k = Int32.ofNat k) ?_ ?_
  · refine dc_itK (I := fun r (q : hg_S × Int32) => ∃ k f, r = io - k ∧ k ≤ io ∧ q.2 = Int32.ofNat k ∧ AV S0 q.1 o 10 fs 2 w (fun _ => .inl (G.1 0, sg, .inl f)) ∧ ∀ j, j < k → f j = Int32.ofNat j) ?_ io _ ⟨0, _, rfl, Nat.zero_le _, rfl, v, fun j hj => by omega⟩
    rintro r ⟨S1, x⟩ ⟨k, f, er, hk, ex, v1, i1⟩
    have ex : x = Int32.ofNat k := ex
    have v1 : AV S0 S1 o 10 fs 2 w (fun _ => .inl (G.1 0, sg, .inl f)) := v1
    subst ex
    have tk : (Int32.ofNat k).toInt = (k : Int) := Int32.toInt_ofNat_of_lt (by omega)
    have tkn : (Int32.ofNat k).toInt.toNat = k := by omega
    show dc_wp (hm_RE_givePlaces_b18 G S1 o (Int32.ofNat io) (Int32.ofNat k)) _
    delta hm_RE_givePlaces_b18
    refine wq_if (fun z => ?_) (fun z => ?_)
    · have z := i_lt.mp z
      rw [tk, tio] at z
      refine wq_gr (x := some S0.2.1) v1.2.1 hf.2.1 ?_
      refine wa_st v1 (i := 0) (by omega) rfl (by omega) (by omega) (fun S2 v2 => ?_)
      refine wq_gr (x := some (S0.2.1 + 1)) v2.2.1 hf.2.2 ?_
      refine wa_st v2 (i := 1) (by omega) rfl (by omega) (by omega) (fun S3 v3 => ?_)
      have v3 := wa_s2 v1 (by omega) (by omega) v3
      rw [tkn] at v3
      refine ⟨_, rfl, io - (k + 1), by omega, k + 1, _, rfl, by omega, ad_m (by omega), v3, fun j hj => ?_⟩
      by_cases e : j = k
      · subst e; rw [upd_s]
      · rw [upd_n e]; exact i1 j (by omega)
    · have z : ¬ (k : Int) < (io : Int) := fun t => z (i_lt.mpr (by rw [tk, tio]; exact t))
      have ek : k = io := by omega
      subst ek
      exact ⟨_, rfl, f, v1, i1⟩
  · rintro S1 ⟨f1, v1, i1⟩
    show dc_wp (hm_RE_givePlaces_L45 G S1 o (Int32.ofNat io) 0) _
    delta hm_RE_givePlaces_L45
    refine wq_call (P := fun (q : hg_S × Int32) => q.2 = Int32.ofNat (plc (R 0) (R 7) io n) ∧ ∃ f, AV S0 q.1 o 10 fs 2 w (fun _ => .inl (G.1 0, sg, .inl f)) ∧ plP (R 0) (R 4) (R 7) io n f) ?_ (fun q h => ⟨_, rfl, h⟩)
    refine dc_itK (I := fun r (q : hg_S × Int32 × Int32) => ∃ k f, r = n - k ∧ k ≤ n ∧ q.2.2 = Int32.ofNat k ∧ q.2.1 = Int32.ofNat (plc (R 0) (R 7) io k) ∧ AV S0 q.1 o 10 fs 2 w (fun _ => .inl (G.1 0, sg, .inl f)) ∧ plP (R 0) (R 4) (R 7) io k f) ?_ n _ ⟨0, f1, rfl, Nat.zero_le _, rfl, rfl, v1, i1, fun j hj => by omega⟩
    rintro r ⟨S2, x1, x2⟩ ⟨k, f, er, hk, ex2, ex1, v2, i2, i3⟩
    have ex2 : x2 = Int32.ofNat k := ex2
    have ex1 : x1 = Int32.ofNat (plc (R 0) (R 7) io k) := ex1
    have v2 : AV S0 S2 o 10 fs 2 w (fun _ => .inl (G.1 0, sg, .inl f)) := v2
    subst ex2
    subst ex1
    have tk : (Int32.ofNat k).toInt = (k : Int) := Int32.toInt_ofNat_of_lt (by omega)
    have tkn : (Int32.ofNat k).toInt.toNat = k := by omega
    have tn : (Int32.ofNat n).toInt = (n : Int) := Int32.toInt_ofNat_of_lt (by omega)
    show dc_wp (hm_RE_givePlaces_b45 G S2 o (Int32.ofNat (plc (R 0) (R 7) io k)) (Int32.ofNat k)) _
    delta hm_RE_givePlaces_b45
    refine wq_gr (x := some p) v2.2.1 hf.1 ?_
    refine wq_gr (x := some (a 0)) ((hP v2).1.trans pv.1) rfl ?_
    refine wq_ln ((hP v2).2 0 (by omega) (by omega)) ?_
    rw [hM 0 (by omega)]
    refine wq_if (fun z => ?_) (fun z => ?_)
    · have z := i_lt.mp z
      rw [tk, tn] at z
      have pl : plc (R 0) (R 7) io (k + 1) ≤ plc (R 0) (R 7) io n := plc_le (by omega)
      have pl1 : plc (R 0) (R 7) io (k + 1) = plc (R 0) (R 7) io k + if R 0 k = 10 then (R 7 k).toInt.toNat else 0 := rfl
      refine wq_gr (x := some p) v2.2.1 hf.1 ?_
      refine wq_gr (x := some (a 0)) ((hP v2).1.trans pv.1) rfl ?_
      refine wq_ld ((hP v2).2 0 (by omega) (by omega)) (by omega) (by rw [hM 0 (by omega), tk]; omega) ?_
      rw [tkn]
      refine wq_if (fun d => ?_) (fun d => ?_)
      · rw [if_pos d] at pl1
        have hr := hl k (by omega) d
        have hw7 := hw0 k (by omega)
        refine wq_gr (x := some S0.2.1) v2.2.1 hf.2.1 ?_
        refine wq_gr (x := some p) v2.2.1 hf.1 ?_
        refine wq_gr (x := some (a 4)) ((hP v2).1.trans pv.1) rfl ?_
        refine wq_ld ((hP v2).2 4 (by omega) (by omega)) (by omega) (by rw [hM 4 (by omega), tk]; omega) ?_
        rw [tkn]
        refine wa_st v2 (i := 0) (by omega) rfl (by omega) (by omega) (fun S3 v3 => ?_)
        refine wq_gr (x := some (S0.2.1 + 1)) v3.2.1 hf.2.2 ?_
        refine wq_gr (x := some p) v3.2.1 hf.1 ?_
        refine wq_gr (x := some (a 4)) ((hP v3).1.trans pv.1) rfl ?_
        refine wq_ld ((hP v3).2 4 (by omega) (by omega)) (by omega) (by rw [hM 4 (by omega), tk]; omega) ?_
        rw [tkn]
        refine wa_st v3 (i := 1) (by omega) rfl (by omega) (by omega) (fun S4 v4 => ?_)
        have v4 := wa_s2 v2 (by omega) (by omega) v4
        refine wq_gr (x := some p) v4.2.1 hf.1 ?_
        refine wq_gr (x := some (a 7)) ((hP v4).1.trans pv.1) rfl ?_
        refine wq_ld ((hP v4).2 7 (by omega) (by omega)) (by omega) (by rw [hM 7 (by omega), tk]; omega) ?_
        rw [tkn]
        have ad : Int32.ofNat (plc (R 0) (R 7) io k) + R 7 k = Int32.ofNat (plc (R 0) (R 7) io (k + 1)) := by
          rw [i_eq, i_addS (by rw [Int32.toInt_ofNat_of_lt (by omega)]; omega), Int32.toInt_ofNat_of_lt (by omega), Int32.toInt_ofNat_of_lt (by omega)]
          omega
        rw [ad]
        refine ⟨_, rfl, n - (k + 1), by omega, k + 1, _, rfl, by omega, ad_m (by omega), rfl, v4, fun j hj' => ?_, fun j hj' dj => ?_⟩
        · rw [upd_n (by omega)]; exact i2 j hj'
        · by_cases e : j = k
          · subst e; rw [upd_s]
          · have hrj := hl j (by omega) dj
            rw [upd_n (fun t => e (hj j k (by omega) (by omega) dj d (i_eq.mpr (by omega))))]
            exact i3 j (by omega) dj
      · rw [if_neg d] at pl1
        have pl2 : plc (R 0) (R 7) io k = plc (R 0) (R 7) io (k + 1) := by omega
        rw [pl2]
        refine ⟨_, rfl, n - (k + 1), by omega, k + 1, f, rfl, by omega, ad_m (by omega), rfl, v2, i2, fun j hj' dj => ?_⟩
        by_cases e : j = k
        · subst e; exact absurd dj d
        · exact i3 j (by omega) dj
    · have z : ¬ (k : Int) < (n : Int) := fun t => z (i_lt.mpr (by rw [tk, tn]; exact t))
      have ek : k = n := by omega
      subst ek
      exact ⟨_, rfl, rfl, f, v2, i2, i3⟩
end GPS
