/-! settle: codes, the whole; the first empty loop; too large -/
def gP (a b : Int32) : Int32 := (a &&& (-(b &&& (-b)))) ||| (b &&& (-(a &&& (-a))))
def wTr (p0 : Int32) : Int32 := ((((p0 &&& 3) ||| (((((Int32.toUInt32 p0 >>> (Int32.toUInt32 2 &&& Int32.toUInt32 31)).toInt32)) &&& 1)))) ||| (((((Int32.toUInt32 p0 >>> (Int32.toUInt32 1 &&& Int32.toUInt32 31)).toInt32)) &&& (-4))))
def cdN (kd nu a b : Int32) : Int32 := if kd = 0 then 1 else if kd = 1 then 2 else if kd = 2 then 1 else if kd = 3 then a ||| b else if kd = 4 then a ||| b else if kd = 5 then (if (a &&& 1) = 0 then a else ((a &&& (-2)) ||| b)) else if kd = 6 then a ||| b else if kd = 7 then gP a b else if kd = 8 then wTr a else if kd = 9 then ((1 : Int32) <<< (nu &&& (31 : Int32))) else a ||| b
section SET3
variable {G : hg_E} {S S' : hg_S} {a5 a6 a7 m xA xc i : Nat} {P : Nat → Nat} {c1 c2 : Nat → Option Nat} {xx : Nat → Int32} {F : Nat → Nat → Int32} {D : Nat → Int32}
theorem codes_w (v : DV G S a5 a6 a7 P m c1 c2 xA xc xx F D) (hi : i < m) : dc_wp (hm_DR_codesOf G S (some (P i))) (fun z => z = cdN (F i 0) (F i 4) (exN F 12 (c1 i)) (exN F 12 (c2 i))) := by
  have L37 : ∀ a b : Int32, dc_wp (hm_DR_codesOf_L37 G S (some (P i)) a b) (fun z => z = cdN (F i 0) (F i 4) a b) := by
    intro a b
    delta hm_DR_codesOf_L37
    refine wq_gi (x := F i 0) (v.nd hi) rfl ?_
    show dc_wp (if F i 0 = 0 then _ else _) _
    unfold cdN
    by_cases k0 : F i 0 = 0
    · rw [if_pos k0, if_pos k0]; exact ⟨_, rfl, rfl⟩
    rw [if_neg k0, if_neg k0]
    by_cases k1 : F i 0 = 1
    · rw [if_pos k1, if_pos k1]; exact ⟨_, rfl, rfl⟩
    rw [if_neg k1, if_neg k1]
    by_cases k2 : F i 0 = 2
    · rw [if_pos k2, if_pos k2]; exact ⟨_, rfl, rfl⟩
    rw [if_neg k2, if_neg k2]
    by_cases k3 : F i 0 = 3
    · rw [if_pos k3, if_pos k3]; exact ⟨_, rfl, rfl⟩
    rw [if_neg k3, if_neg k3]
    by_cases k4 : F i 0 = 4
    · rw [if_pos k4, if_pos k4]; exact ⟨_, rfl, rfl⟩
    rw [if_neg k4, if_neg k4]
    by_cases k5 : F i 0 = 5
    · rw [if_pos k5, if_pos k5]
      by_cases c : (a &&& 1) = 0
      · rw [if_pos c, if_pos c]; exact ⟨_, rfl, rfl⟩
      · rw [if_neg c, if_neg c]; exact ⟨_, rfl, rfl⟩
    rw [if_neg k5, if_neg k5]
    by_cases k6 : F i 0 = 6
    · rw [if_pos k6, if_pos k6]; exact ⟨_, rfl, rfl⟩
    rw [if_neg k6, if_neg k6]
    by_cases k7 : F i 0 = 7
    · rw [if_pos k7, if_pos k7]; exact ⟨_, rfl, rfl⟩
    rw [if_neg k7, if_neg k7]
    by_cases k8 : F i 0 = 8
    · rw [if_pos k8, if_pos k8]; exact ⟨_, rfl, rfl⟩
    rw [if_neg k8, if_neg k8]
    by_cases k9 : F i 0 = 9
    · rw [if_pos k9, if_pos k9]
      refine wq_gi (x := F i 4) (v.nd hi) rfl ?_
      exact ⟨_, rfl, rfl⟩
    rw [if_neg k9, if_neg k9]
    exact ⟨_, rfl, rfl⟩
  have L18 : ∀ a : Int32, dc_wp (hm_DR_codesOf_L18 G S (some (P i)) a) (fun z => z = cdN (F i 0) (F i 4) a (exN F 12 (c2 i))) := by
    intro a
    delta hm_DR_codesOf_L18
    refine wq_gr (x := (c2 i).map P) (v.nd hi) rfl ?_
    cases hc : c2 i with
    | none =>
      show dc_wp (if (none : Option Nat) = none then _ else _) _
      rw [if_pos rfl]
      exact L37 a 0
    | some c =>
      have hci := v.ch hi (Or.inr hc)
      show dc_wp (if some (P c) = none then _ else _) _
      rw [if_neg (fun z => by cases z)]
      refine wq_gr (x := some (P c)) (v.nd hi) (by show some (va_rf ((c2 i).map P)) = _; rw [hc]; rfl) ?_
      refine wq_gi (x := F c 12) (v.nd (by omega)) rfl ?_
      exact L37 a (F c 12)
  delta hm_DR_codesOf
  refine wq_gr (x := (c1 i).map P) (v.nd hi) rfl ?_
  cases hc : c1 i with
  | none =>
    show dc_wp (if (none : Option Nat) = none then _ else _) _
    rw [if_pos rfl]
    exact L18 0
  | some c =>
    have hci := v.ch hi (Or.inl hc)
    show dc_wp (if some (P c) = none then _ else _) _
    rw [if_neg (fun z => by cases z)]
    refine wq_gr (x := some (P c)) (v.nd hi) (by show some (va_rf ((c1 i).map P)) = _; rw [hc]; rfl) ?_
    refine wq_gi (x := F c 12) (v.nd (by omega)) rfl ?_
    exact L18 (F c 12)
theorem set3_w (v : DV G S a5 a6 a7 P m c1 c2 xA xc xx F D) : dc_wp (dc_it (hm_DR_settle_s94 G a5) (S, 0)) (fun S' => ∃ F', DV G S' a5 a6 a7 P m c1 c2 xA xc xx F' D ∧ frD P m a5 S S' ∧ (∀ i k, ¬ k = 12 → F' i k = F i k) ∧ ∀ i, i < m → F' i 12 = cdN (F' i 0) (F' i 4) (exN F' 12 (c1 i)) (exN F' 12 (c2 i))) := by
  have hm := v.1.2
  have ti : ∀ k : Nat, k ≤ 300000 → (Int32.ofNat k).toInt = (k : Int) := fun k hk => Int32.toInt_ofNat_of_lt (by omega)
  refine dc_itK (fun k (q : hg_S × Int32) => ∃ i F', (i ≤ m ∧ q.2 = Int32.ofNat i ∧ k = m - i) ∧ DV G q.1 a5 a6 a7 P m c1 c2 xA xc xx F' D ∧ frD P m a5 S q.1 ∧ (∀ i k, ¬ k = 12 → F' i k = F i k) ∧ ∀ i', i' < i → F' i' 12 = cdN (F' i' 0) (F' i' 4) (exN F' 12 (c1 i')) (exN F' 12 (c2 i'))) ?_ m (S, 0) ⟨0, F, ⟨by omega, rfl, rfl⟩, v, frD.rf, fun _ _ _ => rfl, fun i' h => absurd h (by omega)⟩
  rintro k ⟨Sx, x⟩ ⟨i, F', ⟨h1, h2, h3⟩, w, fr, g1, g2⟩
  have h2 : x = Int32.ofNat i := h2
  subst h2
  have w : DV G Sx a5 a6 a7 P m c1 c2 xA xc xx F' D := w
  have fr : frD P m a5 S Sx := fr
  show dc_wp (hm_DR_settle_b94 G Sx a5 (Int32.ofNat i)) _
  delta hm_DR_settle_b94
  refine wn_l w ?_
  refine wn_size w ?_
  refine wq_if (fun d => ?_) (fun d => ?_)
  · have d := i_lt.mp d
    rw [ti i (by omega), ti m (by omega)] at d
    have hi : i < m := by omega
    refine wn_l w ?_
    refine wn_get w hi ?_
    refine wq_chk (w.nd hi) ?_
    refine wq_call (codes_w w hi) ?_
    rintro z rfl
    refine wn_pf w hi (by omega) (ns (by omega)) ?_
    intro S2 w2 fr2
    have a1 : Int32.ofNat i + 1 = Int32.ofNat (i + 1) := by
      rw [i_eq, i_addS (by rw [ti i (by omega), il_1]; omega), ti i (by omega), il_1, ti (i + 1) (by omega)]
      omega
    refine ⟨_, rfl, m - (i + 1), by omega, i + 1, _, ⟨by omega, a1, rfl⟩, w2, fr.tr fr2, fun i' k' hk' => (fU_k hk').trans (g1 i' k' hk'), fun i' hi' => ?_⟩
    have e1 : ∀ (val : Int32) (j : Nat), j < m → j ≤ i → exN (fU F' i 12 val) 12 (c1 j) = exN F' 12 (c1 j) := fun val j hj hji => exN_cg (fun c hc => fU_i (by have := w.ch hj (Or.inl hc); omega))
    have e2 : ∀ (val : Int32) (j : Nat), j < m → j ≤ i → exN (fU F' i 12 val) 12 (c2 j) = exN F' 12 (c2 j) := fun val j hj hji => exN_cg (fun c hc => fU_i (by have := w.ch hj (Or.inr hc); omega))
    have e0 : ∀ val : Int32, fU F' i 12 val i' 0 = F' i' 0 := fun val => fU_k (by omega)
    have e4 : ∀ val : Int32, fU F' i 12 val i' 4 = F' i' 4 := fun val => fU_k (by omega)
    rw [e1 _ i' (by omega) (by omega), e2 _ i' (by omega) (by omega), e0, e4]
    by_cases ei : i' = i
    · subst ei
      exact fU_s
    · rw [fU_i ei]
      exact g2 i' (by omega)
  · have d : ¬ (Int32.ofNat i).toInt < (Int32.ofNat m).toInt := fun z => d (i_lt.mpr z)
    rw [ti i (by omega), ti m (by omega)] at d
    exact ⟨_, rfl, F', w, fr, g1, fun i' hi' => g2 i' (by omega)⟩
/-- all that settle finds out -/
def STD (m : Nat) (c1 c2 : Nat → Option Nat) (xx : Nat → Int32) (F0 F : Nat → Nat → Int32) (D : Nat → Int32) : Prop :=
  (∀ i k, k = 0 ∨ k = 1 ∨ k = 5 ∨ k = 6 → F i k = F0 i k) ∧ (∀ i, i < m → F i 7 = 1 + exN F 7 (c1 i) + exN F 7 (c2 i)) ∧ (∀ i, i < m → HE c1 c2 F i) ∧ (∀ k, 8 ≤ k → k ≤ 11 → F (m - 1) k = F0 (m - 1) k) ∧
  (∀ i, F0 i 5 = -1 ∨ F0 i 0 = 8 → F i 4 = F0 i 4) ∧
  (∀ i' i2, i2 < i' → i' < m → F0 i' 0 = 8 → ¬ F0 i2 5 = -1 → ¬ F0 i2 0 = 8 → F0 i' 5 = F0 i2 5 → F i2 4 = F i2 10 - F i' 10 + 1) ∧
  (D 2 = sd (fun k => F k 11) m m ∧ D 3 = sd (fun k => if F0 k 0 = 1 then 1 else 0) m m ∧ D 4 = sd (fun k => if F0 k 6 = -1 then 0 else xx (F0 k 6).toInt.toNat) m m ∧ D 5 = sx (fun k => F k 10) m m) ∧
  ∀ i, i < m → F i 12 = cdN (F i 0) (F i 4) (exN F 12 (c1 i)) (exN F 12 (c2 i))
theorem DV_hp (v : DV G S a5 a6 a7 P m c1 c2 xA xc xx F D) {e : va_E} {n : Nat} : DV G (hp S e n) a5 a6 a7 P m c1 c2 xA xc xx F D := by
  obtain ⟨⟨w1, w2⟩, w3, ⟨y0, y1, y2, y4, y5, w4⟩, w5, ⟨e', md, cap, el, w6, w7, w8, w9⟩, w10⟩ := v
  have nn : ∀ {a : Nat} {y : va_E}, hg_at S.1 a = some y → hg_at (hp S e n).1 a = hg_at S.1 a := fun {a y} hy => hp_ne (by have := w1.lt hy; omega)
  refine ⟨⟨w1.hp, w2⟩, (nn w3).trans w3, ⟨y0, y1, y2, y4, y5, (nn w4).trans w4⟩, (nn w5).trans w5, ⟨e', md, cap, el, (nn w6).trans w6, (nn w7).trans w7, w8, w9⟩, fun i' hi' => ?_⟩
  obtain ⟨z1, z2, z3⟩ := w10 i' hi'
  exact ⟨(nn z1).trans z1, z2, z3⟩
/-- what settle leaves: nodes and draft are written, a row of depths is new -/
def frS (P : Nat → Nat) (m a5 : Nat) (S S' : hg_S) (tm : Nat) : Prop := S'.2 = (S.2.1 + 1, S.2.2.1 - 1, S.2.2.2 - tm) ∧ ∀ b, (∀ i, i < m → b ≠ P i) → b ≠ a5 → b ≠ S.2.1 → hg_at S'.1 b = hg_at S.1 b
theorem settle_w (v : DV G S a5 a6 a7 P m c1 c2 xA xc xx F D) (hD : D 2 = 0 ∧ D 3 = 0 ∧ D 4 = 0 ∧ D 5 = 0) {tm : Nat} (hT : trN m tm xc c1 c2 F) {x : Int32} (hx : x.toInt = (tm : Int)) (ht : tm ≤ 40000) (hr1 : 1 ≤ S.2.2.1) (hr2 : tm ≤ S.2.2.2) : dc_wp (hm_DR_settle G S a5 x) (fun S' => ∃ F' D', DV G S' a5 a6 a7 P m c1 c2 xA xc xx F' D' ∧ frS P m a5 S S' tm ∧ STD m c1 c2 xx F F' D') := by
  have hm := v.1.2
  delta hm_DR_settle hm_DR_settle_L2
  refine wq_call (set1_w v) ?_
  rintro S1 ⟨F1, w1, fr1, k1, e1⟩
  delta hm_DR_settle_L52
  have s1 : S1.2 = S.2 := fr1.1
  refine wq_newa (N := tm) hx (by rw [s1]; exact hr1) (by rw [s1]; exact hr2) (by omega) ?_
  have w2 := DV_hp w1 (e := .inl (G.1 0, tm, .inl (fun _ => 0))) (n := tm)
  have hwS := w1.1.1
  have hd : hg_at (hp S1 (.inl (G.1 0, tm, .inl (fun _ => 0))) tm).1 S1.2.1 = some (.inl (G.1 0, tm, .inl (fun _ => 0))) := hp_self hwS
  have hdn : ∀ i, i < m → S1.2.1 ≠ P i := fun i hi => by have := hwS.lt (w1.nd hi); omega
  have hd5 : S1.2.1 ≠ a5 := by have := hwS.lt w1.2.1; omega
  have hdx : S1.2.1 ≠ xA := by have := hwS.lt w1.2.2.2.1; omega
  show dc_wp ((hg_gr (hp S1 (.inl (G.1 0, tm, .inl (fun _ => 0))) tm) (some a5) 6 0).bind _) _
  refine wn_l w2 ?_
  refine wn_size w2 ?_
  show dc_wp (hm_DR_settle_L66 G (hp S1 (.inl (G.1 0, tm, .inl (fun _ => 0))) tm) a5 (some S1.2.1) (Int32.ofNat m - 1)) _
  have tM : (Int32.ofNat m).toInt = (m : Int) := Int32.toInt_ofNat_of_lt (by omega)
  have tx : (Int32.ofNat m - 1).toInt = (m : Int) - 1 := by rw [i_subS (by rw [tM, il_1]; omega), tM, il_1]
  delta hm_DR_settle_L66
  have hT1 : trN m tm xc c1 c2 F1 := by
    obtain ⟨a1, a2, a3, a4, a5'⟩ := hT
    have q0 : ∀ i, F1 i 0 = F i 0 := fun i => k1 i 0 (by omega)
    have q5 : ∀ i, F1 i 5 = F i 5 := fun i => k1 i 5 (by omega)
    have q6 : ∀ i, F1 i 6 = F i 6 := fun i => k1 i 6 (by omega)
    refine ⟨a1, a2, fun i i' h1 h2 h3 h4 h5 h6 => ?_, fun i h1 h2 => ?_, fun i h1 h2 => ?_⟩
    · rw [q0] at h3 h4
      rw [q5] at h5 h6
      rw [q5] at h6
      exact a3 i i' h1 h2 h3 h4 h5 h6
    · rw [q5] at h2 ⊢
      exact a4 i h1 h2
    · rw [q6] at h2 ⊢
      exact a5' i h1 h2
  refine wq_call (set2_w w2 hD hd hdn hd5 hdx hT1 tx) ?_
  rintro S3 ⟨F3, D3, w3, fr3, ⟨J1, J2, J3, J4, J6, J7⟩⟩
  delta hm_DR_settle_L92 hm_DR_settle_L94
  refine wq_call (set3_w w3) ?_
  rintro S4 ⟨F4, w4, fr4, k4, e4⟩
  refine ⟨_, rfl, F4, D3, w4, ⟨?_, ?_⟩, ?_⟩
  · rw [fr4.1, fr3.1]
    show (S1.2.1 + 1, S1.2.2.1 - 1, S1.2.2.2 - tm) = _
    rw [s1]
  · intro b h1 h2 h3
    rw [fr4.2 b h1 h2, fr3.2 b h1 h2 (by rw [s1]; exact h3), hp_ne (by rw [s1]; exact h3)]
    exact fr1.2 b h1 h2
  · have c3 : ∀ i k, ¬ k = 4 → ¬ (8 ≤ k ∧ k ≤ 11) → ¬ k = 12 → F4 i k = F1 i k := fun i k h4 h8 h12 => (k4 i k h12).trans (J1 i k h4 h8)
    have hs : ∀ i, F1 i 0 = F i 0 ∧ F1 i 1 = F i 1 ∧ F1 i 5 = F i 5 ∧ F1 i 6 = F i 6 ∧ F1 i 4 = F i 4 := fun i => ⟨k1 i 0 (by omega), k1 i 1 (by omega), k1 i 5 (by omega), k1 i 6 (by omega), k1 i 4 (by omega)⟩
    have x7 : ∀ c, exN F4 7 c = exN F1 7 c := fun c => exN_cg (fun x _ => c3 x 7 (by omega) (by omega) (by omega))
    refine ⟨?_, ?_, ?_, ?_, ?_, ?_, ?_, e4⟩
    · intro i k hk
      rw [c3 i k (by omega) (by omega) (by omega)]
      exact k1 i k (by omega)
    · intro i hi
      rw [c3 i 7 (by omega) (by omega) (by omega), x7, x7]
      exact e1 i hi
    · intro i hi
      have H := J2 i (by omega) hi
      have q : ∀ i k, ¬ k = 12 → F4 i k = F3 i k := k4
      have x7' : exN F4 7 (c1 i) = exN F3 7 (c1 i) := exN_cg (fun x _ => q x 7 (by omega))
      refine ⟨fun c hc => ?_, fun c hc => ?_⟩
      · rw [q c 8 (by omega), q c 9 (by omega), q c 10 (by omega), q c 11 (by omega), q i 8 (by omega), q i 10 (by omega), q i 11 (by omega), q i 0 (by omega)]
        exact H.1 c hc
      · rw [q c 8 (by omega), q c 9 (by omega), q c 10 (by omega), q c 11 (by omega), q i 8 (by omega), q i 10 (by omega), q i 11 (by omega), q i 0 (by omega), x7']
        exact H.2 c hc
    · intro k h8 h11
      rw [k4 (m - 1) k (by omega), J3 k h8 h11]
      exact k1 (m - 1) k (by omega)
    · intro i hi
      rw [k4 i 4 (by omega), J4 i (Or.inr (by rw [(hs i).2.2.1, (hs i).1]; exact hi))]
      exact (hs i).2.2.2.2
    · intro i' i2 h1 h2 h3 h4 h5 h6
      rw [k4 i2 4 (by omega), k4 i2 10 (by omega), k4 i' 10 (by omega)]
      exact J6 i' i2 (by omega) h1 h2 (by rw [(hs i').1]; exact h3) (by rw [(hs i2).2.2.1]; exact h4) (by rw [(hs i2).1]; exact h5) (by rw [(hs i').2.2.1, (hs i2).2.2.1]; exact h6)
    · obtain ⟨j2, j3, j4, j5⟩ := J7
      refine ⟨?_, ?_, ?_, ?_⟩
      · rw [j2]
        exact (sd_cg m (Nat.le_refl _) (fun k _ _ => k4 k 11 (by omega))).symm
      · rw [j3]
        exact (sd_cg m (Nat.le_refl _) (fun k _ _ => by rw [(hs k).1])).symm
      · rw [j4]
        exact (sd_cg m (Nat.le_refl _) (fun k _ _ => by rw [(hs k).2.2.2.1])).symm
      · rw [j5]
        exact (sx_cg m (Nat.le_refl _) (fun k _ _ => k4 k 10 (by omega))).symm
/-- an empty loop -/
def elN (F : Nat → Nat → Int32) (i : Nat) : Prop := F i 0 = 6 ∧ ¬ (F i 12 &&& 1) = 0
theorem empty_w (v : DV G S a5 a6 a7 P m c1 c2 xA xc xx F D) : dc_wp (hm_DR_lineOfEmptyLoop G S a5) (fun z => (z = -1 ∧ ∀ i, i < m → ¬ elN F i) ∨ ∃ j, j < m ∧ elN F j ∧ z = F j 1 ∧ ∀ i, i < m → elN F i → (F j 8).toInt ≤ (F i 8).toInt) := by
  have hm := v.1.2
  have ti : ∀ k : Nat, k ≤ 300000 → (Int32.ofNat k).toInt = (k : Int) := fun k hk => Int32.toInt_ofNat_of_lt (by omega)
  show dc_wp (hm_DR_lineOfEmptyLoop_L4 G S a5 none 0) _
  delta hm_DR_lineOfEmptyLoop_L4
  refine wq_call (P := fun z => (z = none ∧ ∀ i, i < m → ¬ elN F i) ∨ ∃ j, j < m ∧ elN F j ∧ z = some (P j) ∧ ∀ i, i < m → elN F i → (F j 8).toInt ≤ (F i 8).toInt) ?_ ?_
  · refine dc_itK (fun k (q : Option Nat × Int32) => ∃ i, (i ≤ m ∧ q.2 = Int32.ofNat i ∧ k = m - i) ∧ ((q.1 = none ∧ ∀ i', i' < i → ¬ elN F i') ∨ ∃ j, j < i ∧ elN F j ∧ q.1 = some (P j) ∧ ∀ i', i' < i → elN F i' → (F j 8).toInt ≤ (F i' 8).toInt)) ?_ m (none, 0) ⟨0, ⟨by omega, rfl, rfl⟩, Or.inl ⟨rfl, fun i' h => absurd h (by omega)⟩⟩
    rintro k ⟨fd, x⟩ ⟨i, ⟨h1, h2, h3⟩, hI⟩
    have h2 : x = Int32.ofNat i := h2
    subst h2
    have hI : (fd = none ∧ ∀ i', i' < i → ¬ elN F i') ∨ ∃ j, j < i ∧ elN F j ∧ fd = some (P j) ∧ ∀ i', i' < i → elN F i' → (F j 8).toInt ≤ (F i' 8).toInt := hI
    show dc_wp (hm_DR_lineOfEmptyLoop_b4 G S a5 fd (Int32.ofNat i)) _
    delta hm_DR_lineOfEmptyLoop_b4
    refine wn_l v ?_
    refine wn_size v ?_
    refine wq_if (fun d => ?_) (fun d => ?_)
    · have d := i_lt.mp d
      rw [ti i (by omega), ti m (by omega)] at d
      have hi : i < m := by omega
      have a1 : Int32.ofNat i + 1 = Int32.ofNat (i + 1) := by
        rw [i_eq, i_addS (by rw [ti i (by omega), il_1]; omega), ti i (by omega), il_1, ti (i + 1) (by omega)]
        omega
      -- as it was; the new one
      have keep : ((fd = none ∧ ∀ i', i' < i + 1 → ¬ elN F i') ∨ ∃ j, j < i + 1 ∧ elN F j ∧ fd = some (P j) ∧ ∀ i', i' < i + 1 → elN F i' → (F j 8).toInt ≤ (F i' 8).toInt) → dc_wp (hm_DR_lineOfEmptyLoop_L74 G S a5 fd (Int32.ofNat i)) (Sum.elim (fun y : Option Nat × Int32 => ∃ k', k' < k ∧ ∃ i, (i ≤ m ∧ y.2 = Int32.ofNat i ∧ k' = m - i) ∧ ((y.1 = none ∧ ∀ i', i' < i → ¬ elN F i') ∨ ∃ j, j < i ∧ elN F j ∧ y.1 = some (P j) ∧ ∀ i', i' < i → elN F i' → (F j 8).toInt ≤ (F i' 8).toInt)) (fun z => (z = none ∧ ∀ i, i < m → ¬ elN F i) ∨ ∃ j, j < m ∧ elN F j ∧ z = some (P j) ∧ ∀ i, i < m → elN F i → (F j 8).toInt ≤ (F i 8).toInt)) := fun g => ⟨_, rfl, m - (i + 1), by omega, i + 1, ⟨by omega, a1, rfl⟩, g⟩
      have take : elN F i → (∀ i', i' < i + 1 → elN F i' → (F i 8).toInt ≤ (F i' 8).toInt) → dc_wp (hm_DR_lineOfEmptyLoop_L72 G S a5 (Int32.ofNat i) (some (P i))) (Sum.elim (fun y : Option Nat × Int32 => ∃ k', k' < k ∧ ∃ i, (i ≤ m ∧ y.2 = Int32.ofNat i ∧ k' = m - i) ∧ ((y.1 = none ∧ ∀ i', i' < i → ¬ elN F i') ∨ ∃ j, j < i ∧ elN F j ∧ y.1 = some (P j) ∧ ∀ i', i' < i → elN F i' → (F j 8).toInt ≤ (F i' 8).toInt)) (fun z => (z = none ∧ ∀ i, i < m → ¬ elN F i) ∨ ∃ j, j < m ∧ elN F j ∧ z = some (P j) ∧ ∀ i, i < m → elN F i → (F j 8).toInt ≤ (F i 8).toInt)) := fun g1 g2 => ⟨_, rfl, m - (i + 1), by omega, i + 1, ⟨by omega, a1, rfl⟩, Or.inr ⟨i, by omega, g1, rfl, g2⟩⟩
      have no : ¬ elN F i → ((fd = none ∧ ∀ i', i' < i + 1 → ¬ elN F i') ∨ ∃ j, j < i + 1 ∧ elN F j ∧ fd = some (P j) ∧ ∀ i', i' < i + 1 → elN F i' → (F j 8).toInt ≤ (F i' 8).toInt) := by
        intro ne
        rcases hI with ⟨y1, y2⟩ | ⟨j, y1, y2, y3, y4⟩
        · refine Or.inl ⟨y1, fun i' h => ?_⟩
          by_cases ei : i' = i
          · rw [ei]; exact ne
          · exact y2 i' (by omega)
        · refine Or.inr ⟨j, by omega, y2, y3, fun i' h he => ?_⟩
          by_cases ei : i' = i
          · rw [ei] at he; exact absurd he ne
          · exact y4 i' (by omega) he
      refine wn_l v ?_
      refine wn_get v hi ?_
      refine wq_chk (v.nd hi) ?_
      refine wq_gi (x := F i 0) (v.nd hi) rfl ?_
      refine wq_if (fun y6 => ?_) (fun y6 => ?_)
      · refine wq_gi (x := F i 12) (v.nd hi) rfl ?_
        refine wq_if (fun y1 => ?_) (fun y1 => ?_)
        · exact keep (no (fun z => z.2 y1))
        · have he : elN F i := ⟨y6, y1⟩
          delta hm_DR_lineOfEmptyLoop_L50
          rw [if_neg (show ¬ (1 : Int32) = 0 by decide)]
          rcases hI with ⟨y2, y3⟩ | ⟨j, y2, y3, y4, y5⟩
          · rw [if_pos y2]
            refine take he (fun i' h he' => ?_)
            by_cases ei : i' = i
            · rw [ei]; exact Int.le_refl _
            · exact absurd he' (y3 i' (by omega))
          · subst y4
            rw [if_neg (fun z => by cases z)]
            refine wq_gi (x := F i 8) (v.nd hi) rfl ?_
            refine wq_gi (x := F j 8) (v.nd (by omega)) rfl ?_
            refine wq_if (fun z => ?_) (fun z => ?_)
            · have z := i_lt.mp z
              refine take he (fun i' h he' => ?_)
              by_cases ei : i' = i
              · rw [ei]; exact Int.le_refl _
              · have := y5 i' (by omega) he'
                omega
            · have z : ¬ (F i 8).toInt < (F j 8).toInt := fun t => z (i_lt.mpr t)
              refine keep (Or.inr ⟨j, by omega, y3, rfl, fun i' h he' => ?_⟩)
              by_cases ei : i' = i
              · rw [ei]; omega
              · exact y5 i' (by omega) he'
      · exact keep (no (fun z => y6 z.1))
    · have d : ¬ (Int32.ofNat i).toInt < (Int32.ofNat m).toInt := fun z => d (i_lt.mpr z)
      rw [ti i (by omega), ti m (by omega)] at d
      have im : i = m := by omega
      subst im
      exact ⟨_, rfl, hI⟩
  · rintro z (⟨y1, y2⟩ | ⟨j, y1, y2, y3, y4⟩)
    · delta hm_DR_lineOfEmptyLoop_L80
      rw [if_pos y1]
      exact ⟨_, rfl, Or.inl ⟨rfl, y2⟩⟩
    · subst y3
      delta hm_DR_lineOfEmptyLoop_L80
      rw [if_neg (fun z => by cases z)]
      refine wq_gi (x := F j 1) (v.nd y1) rfl ?_
      exact ⟨_, rfl, Or.inr ⟨j, y1, y2, rfl, y4⟩⟩
theorem large_w (v : DV G S a5 a6 a7 P m c1 c2 xA xc xx F D) : hm_DR_isLarge G S a5 = some (if (200 < D 3 ∨ 1000 < D 4 ∨ 8 < D 5 ∨ 1200 < D 2) then 1 else 0) := by
  have main : dc_wp (hm_DR_isLarge G S a5) (fun z => z = (if (200 < D 3 ∨ 1000 < D 4 ∨ 8 < D 5 ∨ 1200 < D 2) then 1 else 0)) := by
    delta hm_DR_isLarge
    refine wq_gi (x := D 3) v.2.1 rfl ?_
    refine wq_if (fun z => ?_) (fun z3 => ?_)
    · rw [if_pos (Or.inl z)]; exact ⟨_, rfl, rfl⟩
    refine wq_gi (x := D 4) v.2.1 rfl ?_
    refine wq_if (fun z => ?_) (fun z4 => ?_)
    · rw [if_pos (Or.inr (Or.inl z))]; exact ⟨_, rfl, rfl⟩
    refine wq_gi (x := D 5) v.2.1 rfl ?_
    refine wq_if (fun z => ?_) (fun z5 => ?_)
    · rw [if_pos (Or.inr (Or.inr (Or.inl z)))]; exact ⟨_, rfl, rfl⟩
    refine wq_gi (x := D 2) v.2.1 rfl ?_
    refine wq_if (fun z => ?_) (fun z2 => ?_)
    · rw [if_pos (Or.inr (Or.inr (Or.inr z)))]; exact ⟨_, rfl, rfl⟩
    · rw [if_neg (fun z => by rcases z with z | z | z | z; exact z3 z; exact z4 z; exact z5 z; exact z2 z)]
      exact ⟨_, rfl, rfl⟩
  obtain ⟨z, ez, hz⟩ := main
  rw [ez, hz]
end SET3
