/-! pieces of tests: one more -/
theorem wd1 {τ : Type} {G : hg_E} {S : hg_S} {a ci k r n N : Nat} {fs fs' : List Value} {g : Nat → Int32} {x : Int32} {F : τ → Prop} {E : hg_S → Option τ} (ha : hg_at S.1 a = some (.inr (ci, fs))) (hk : fs[k]? = some (va_rf (some r))) (hfs : fs.set k (.ref S.2.1) = fs') (hr : hg_at S.1 r = some (.inl (G.1 0, n, .inl g))) (hw0 : hw S) (hx : x.toInt = (N : Int)) (hN : n < N) (hN2 : N ≤ 1000000) (hc : 1 ≤ S.2.2.1) (hs : N ≤ S.2.2.2) (kk : ∀ (T : hg_S) (g' : Nat → Int32), hg_at T.1 a = some (.inr (ci, fs')) → hg_at T.1 S.2.1 = some (.inl (G.1 0, N, .inl g')) → (∀ i, i < n → g' i = g i) → (∀ b, b ≠ a → b ≠ S.2.1 → hg_at T.1 b = hg_at S.1 b) → T.2 = (S.2.1 + 1, S.2.2.1 - 1, S.2.2.2 - N) → hw T → dc_wp (E T) F) : dc_wp ((hg_gr S (some a) ci k).bind fun e => (hm_JA_copyOf G S e x).bind fun q => (hg_pf q.1 (some a) ci k (va_rf q.2)).bind E) F := by
  have la := hw0.lt ha
  have hk2 : k < fs.length := by
    rcases Nat.lt_or_ge k fs.length with h | h
    · exact h
    · rw [List.getElem?_eq_none h] at hk; cases hk
  refine wq_gr (x := some r) ha hk ?_
  refine wq_call (cpI_w hr hw0 hx hN hN2 hc hs) ?_
  rintro ⟨P1, r1⟩ ⟨e1, g1, p1, p2, p3, p4, p5⟩
  have e1 : r1 = some S.2.1 := e1
  subst e1
  have q1 : hg_at P1.1 a = some (.inr (ci, fs)) := (p3 a (by omega)).trans ha
  refine wq_pfT (fs' := fs') q1 hk2 hfs ?_
  intro T hT
  refine kk T g1 (by rw [← hT]; exact hu_self q1) ?_ p2 ?_ (by rw [← hT]; exact p4) (by rw [← hT]; exact p5.hu)
  · rw [← hT, hu_ne (by omega)]; exact p1
  · intro b b1 b2
    rw [← hT, hu_ne b1]
    exact p3 b b2
section PIW
variable {G : hg_E} {S : hg_S} {a kA fA sA xA pA cap : Nat} {kk ff ss xx pp : Nat → Int32} {made : Int32}
theorem widen_w (h : piv G S a kA fA sA xA pA cap kk ff ss xx pp made) (hw0 : hw S) {x : Int32} {N : Nat} (hx : x.toInt = (N : Int)) (hN : cap < N) (hN2 : N ≤ 1000000) (hc : 5 ≤ S.2.2.1) (hs : 5 * N ≤ S.2.2.2) : dc_wp (hm_PI_widen G S a x) (fun T => ∃ g0 g1 g2 g3 g4, piv G T a S.2.1 (S.2.1 + 1) (S.2.1 + 2) (S.2.1 + 3) (S.2.1 + 4) N g0 g1 g2 g3 g4 made ∧ (∀ i, i < cap → g0 i = kk i ∧ g1 i = ff i ∧ g2 i = ss i ∧ g3 i = xx i) ∧ (∀ b, b < S.2.1 → b ≠ a → hg_at T.1 b = hg_at S.1 b) ∧ T.2 = (S.2.1 + 5, S.2.2.1 - 5, S.2.2.2 - 5 * N) ∧ hw T) := by
  obtain ⟨h0, h1, h2, h3, h4, h5⟩ := h
  have la := hw0.lt h0
  have l2 := hw0.lt h2
  have l3 := hw0.lt h3
  have l4 := hw0.lt h4
  have l5 := hw0.lt h5
  have na2 := at_ne h0 h2 (fun z => by cases z)
  have na3 := at_ne h0 h3 (fun z => by cases z)
  have na4 := at_ne h0 h4 (fun z => by cases z)
  have na5 := at_ne h0 h5 (fun z => by cases z)
  delta hm_PI_widen
  refine wd1 h0 rfl rfl h1 hw0 hx hN hN2 (by omega) (by omega) ?_
  intro T1 g0 a1 a2 a3 a4 a5 a6
  have s1 : T1.2.1 = S.2.1 + 1 := by rw [a5]
  have s2 : T1.2.2.1 = S.2.2.1 - 1 := by rw [a5]
  have s3 : T1.2.2.2 = S.2.2.2 - N := by rw [a5]
  refine wd1 a1 rfl rfl ((a4 fA (Ne.symm na2) (by omega)).trans h2) a6 hx hN hN2 (by omega) (by omega) ?_
  intro T2 g1 b1 b2 b3 b4 b5 b6
  rw [s1] at b1 b2 b4
  rw [s1, s2, s3] at b5
  have s1 : T2.2.1 = S.2.1 + 2 := by rw [b5]
  have s2 : T2.2.2.1 = S.2.2.1 - 1 - 1 := by rw [b5]
  have s3 : T2.2.2.2 = S.2.2.2 - N - N := by rw [b5]
  refine wd1 b1 rfl rfl ((b4 sA (Ne.symm na3) (by omega)).trans ((a4 sA (Ne.symm na3) (by omega)).trans h3)) b6 hx hN hN2 (by omega) (by omega) ?_
  intro T3 g2 c1 c2 c3 c4 c5 c6
  rw [s1] at c1 c2 c4
  rw [s1, s2, s3] at c5
  have s1 : T3.2.1 = S.2.1 + 3 := by rw [c5]
  have s2 : T3.2.2.1 = S.2.2.1 - 1 - 1 - 1 := by rw [c5]
  have s3 : T3.2.2.2 = S.2.2.2 - N - N - N := by rw [c5]
  refine wd1 c1 rfl rfl ((c4 xA (Ne.symm na4) (by omega)).trans ((b4 xA (Ne.symm na4) (by omega)).trans ((a4 xA (Ne.symm na4) (by omega)).trans h4))) c6 hx hN hN2 (by omega) (by omega) ?_
  intro T4 g3 d1 d2 d3 d4 d5 d6
  rw [s1] at d1 d2 d4
  rw [s1, s2, s3] at d5
  have s1 : T4.2.1 = S.2.1 + 4 := by rw [d5]
  have s2 : T4.2.2.1 = S.2.2.1 - 1 - 1 - 1 - 1 := by rw [d5]
  have s3 : T4.2.2.2 = S.2.2.2 - N - N - N - N := by rw [d5]
  refine wd1 d1 rfl rfl ((d4 pA (Ne.symm na5) (by omega)).trans ((c4 pA (Ne.symm na5) (by omega)).trans ((b4 pA (Ne.symm na5) (by omega)).trans ((a4 pA (Ne.symm na5) (by omega)).trans h5)))) d6 hx hN hN2 (by omega) (by omega) ?_
  intro T5 g4 e1 e2 e3 e4 e5 e6
  rw [s1] at e1 e2 e4
  rw [s1, s2, s3] at e5
  refine ⟨T5, rfl, g0, g1, g2, g3, g4, ⟨e1, ?_, ?_, ?_, ?_, e2⟩, fun i hi => ⟨a3 i hi, b3 i hi, c3 i hi, d3 i hi⟩, ?_, ?_, e6⟩
  · rw [e4 _ (by omega) (by omega), d4 _ (by omega) (by omega), c4 _ (by omega) (by omega), b4 _ (by omega) (by omega)]; exact a2
  · rw [e4 _ (by omega) (by omega), d4 _ (by omega) (by omega), c4 _ (by omega) (by omega)]; exact b2
  · rw [e4 _ (by omega) (by omega), d4 _ (by omega) (by omega)]; exact c2
  · rw [e4 _ (by omega) (by omega)]; exact d2
  · intro b hb hba
    rw [e4 _ hba (by omega), d4 _ hba (by omega), c4 _ hba (by omega), b4 _ hba (by omega), a4 _ hba (by omega)]
  · rw [e5]
    refine Prod.ext rfl (Prod.ext ?_ ?_)
    · show S.2.2.1 - 1 - 1 - 1 - 1 - 1 = S.2.2.1 - 5; omega
    · show S.2.2.2 - N - N - N - N - N = S.2.2.2 - 5 * N; omega
/-- behind the room: the stores -/
def pxx (xx : Nat → Int32) (k p s : Int32) : Int32 := (if k = 0 then 1 else 1 + xx p.toInt.toNat) + (if s = -1 then 0 else xx s.toInt.toNat)
def pnd (a kA fA sA xA pA : Nat) : Prop := (a ≠ kA ∧ a ≠ fA ∧ a ≠ sA ∧ a ≠ xA ∧ a ≠ pA) ∧ (kA ≠ fA ∧ kA ≠ sA ∧ kA ≠ xA ∧ kA ≠ pA) ∧ (fA ≠ sA ∧ fA ≠ xA ∧ fA ≠ pA) ∧ (sA ≠ xA ∧ sA ≠ pA) ∧ xA ≠ pA
theorem padd_w (h : piv G S a kA fA sA xA pA cap kk ff ss xx pp made) (d : pnd a kA fA sA xA pA) (hw0 : hw S) (m0 : 0 ≤ made.toInt) (m1 : made.toInt < (cap : Int)) (hcap : cap ≤ 1000000) {k p s : Int32} (hp : ¬ k = 0 → 0 ≤ p.toInt ∧ p.toInt < made.toInt) (hs : ¬ s = -1 → 0 ≤ s.toInt ∧ s.toInt < made.toInt) : dc_wp (hm_PI_add_L24 G S a k p s) (fun q => q.2 = made ∧ q.1.2 = S.2 ∧ hw q.1 ∧ (∀ b, b ≠ a → b ≠ kA → b ≠ fA → b ≠ sA → b ≠ xA → hg_at q.1.1 b = hg_at S.1 b) ∧ ∃ x', piv G q.1 a kA fA sA xA pA cap (upd kk made.toInt.toNat k) (upd ff made.toInt.toNat p) (upd ss made.toInt.toNat s) x' pp (made + 1) ∧ x' made.toInt.toNat = pxx xx k p s ∧ ∀ i, ¬ i = made.toInt.toNat → x' i = xx i) := by
  obtain ⟨h0, h1, h2, h3, h4, h5⟩ := h
  obtain ⟨⟨d1, d2, d3, d4, d5⟩, ⟨d6, d7, d8, d9⟩, ⟨d10, d11, d12⟩, ⟨d13, d14⟩, d15⟩ := d
  have e1 : (made + 1 - 1) = made := by
    have x1 : (made + 1).toInt = made.toInt + 1 := by rw [i_addS (by rw [il_1]; omega), il_1]
    refine i_eq.mpr ?_
    rw [i_subS (by rw [x1, il_1]; omega), x1, il_1]
    omega
  -- the last part: made is one more
  have fin : ∀ (T : hg_S) (x' : Nat → Int32), piv G T a kA fA sA xA pA cap (upd kk made.toInt.toNat k) (upd ff made.toInt.toNat p) (upd ss made.toInt.toNat s) x' pp made → T.2 = S.2 → hw T → (∀ b, b ≠ a → b ≠ kA → b ≠ fA → b ≠ sA → b ≠ xA → hg_at T.1 b = hg_at S.1 b) → x' made.toInt.toNat = pxx xx k p s → (∀ i, ¬ i = made.toInt.toNat → x' i = xx i) → dc_wp (hm_PI_add_L109 G T a) (fun q => q.2 = made ∧ q.1.2 = S.2 ∧ hw q.1 ∧ (∀ b, b ≠ a → b ≠ kA → b ≠ fA → b ≠ sA → b ≠ xA → hg_at q.1.1 b = hg_at S.1 b) ∧ ∃ x', piv G q.1 a kA fA sA xA pA cap (upd kk made.toInt.toNat k) (upd ff made.toInt.toNat p) (upd ss made.toInt.toNat s) x' pp (made + 1) ∧ x' made.toInt.toNat = pxx xx k p s ∧ ∀ i, ¬ i = made.toInt.toNat → x' i = xx i) := by
    rintro T x' ⟨t0, t1, t2, t3, t4, t5⟩ hT wT fT z1 z2
    delta hm_PI_add_L109
    refine wq_gi (x := made) t0 rfl ?_
    refine wq_pfT (fs' := [.ref kA, .ref fA, .ref sA, .ref xA, .ref pA, .int (made + 1)]) t0 (Nat.le_of_ble_eq_true rfl) rfl ?_
    intro T' eT
    have t0' : hg_at T'.1 a = some (.inr (5, [.ref kA, .ref fA, .ref sA, .ref xA, .ref pA, .int (made + 1)])) := by rw [← eT]; exact hu_self t0
    have tn : ∀ b, b ≠ a → hg_at T'.1 b = hg_at T.1 b := fun b hb => by rw [← eT, hu_ne hb]
    refine wq_gi (x := made + 1) t0' rfl ?_
    refine ⟨_, rfl, e1, ?_, ?_, ?_, x', ⟨t0', ?_, ?_, ?_, ?_, ?_⟩, z1, z2⟩
    · rw [← eT]; exact hT
    · rw [← eT]; exact wT.hu
    · intro b b1 b2 b3 b4 b5
      exact (tn b b1).trans (fT b b1 b2 b3 b4 b5)
    · exact (tn _ (Ne.symm d1)).trans t1
    · exact (tn _ (Ne.symm d2)).trans t2
    · exact (tn _ (Ne.symm d3)).trans t3
    · exact (tn _ (Ne.symm d4)).trans t4
    · exact (tn _ (Ne.symm d5)).trans t5
  delta hm_PI_add_L24
  refine wq_gr (x := some kA) h0 rfl ?_
  refine wq_gi (x := made) h0 rfl ?_
  refine wq_st h1 m0 m1 ?_
  generalize eS1 : hu S kA (.inl (G.1 0, cap, .inl (upd kk made.toInt.toNat k))) = S1
  have n1 : ∀ b, b ≠ kA → hg_at S1.1 b = hg_at S.1 b := fun b hb => by rw [← eS1, hu_ne hb]
  have k1 : hg_at S1.1 kA = some (.inl (G.1 0, cap, .inl (upd kk made.toInt.toNat k))) := by rw [← eS1]; exact hu_self h1
  have g0 := (n1 a d1).trans h0
  refine wq_gr (x := some fA) g0 rfl ?_
  refine wq_gi (x := made) g0 rfl ?_
  refine wq_st ((n1 fA (Ne.symm d6)).trans h2) m0 m1 ?_
  generalize eS2 : hu S1 fA (.inl (G.1 0, cap, .inl (upd ff made.toInt.toNat p))) = S2
  have n2 : ∀ b, b ≠ fA → hg_at S2.1 b = hg_at S1.1 b := fun b hb => by rw [← eS2, hu_ne hb]
  have k2 : hg_at S2.1 fA = some (.inl (G.1 0, cap, .inl (upd ff made.toInt.toNat p))) := by rw [← eS2]; exact hu_self ((n1 fA (Ne.symm d6)).trans h2)
  have g0 := (n2 a d2).trans g0
  refine wq_gr (x := some sA) g0 rfl ?_
  refine wq_gi (x := made) g0 rfl ?_
  have hs3 := (n2 sA (Ne.symm d10)).trans ((n1 sA (Ne.symm d7)).trans h3)
  refine wq_st hs3 m0 m1 ?_
  generalize eS3 : hu S2 sA (.inl (G.1 0, cap, .inl (upd ss made.toInt.toNat s))) = S3
  have n3 : ∀ b, b ≠ sA → hg_at S3.1 b = hg_at S2.1 b := fun b hb => by rw [← eS3, hu_ne hb]
  have k3 : hg_at S3.1 sA = some (.inl (G.1 0, cap, .inl (upd ss made.toInt.toNat s))) := by rw [← eS3]; exact hu_self hs3
  have g0 := (n3 a d3).trans g0
  refine wq_gr (x := some xA) g0 rfl ?_
  refine wq_gi (x := made) g0 rfl ?_
  have hx3 := (n3 xA (Ne.symm d13)).trans ((n2 xA (Ne.symm d11)).trans ((n1 xA (Ne.symm d8)).trans h4))
  refine wq_st hx3 m0 m1 ?_
  generalize eS4 : hu S3 xA (.inl (G.1 0, cap, .inl (upd xx made.toInt.toNat 1))) = S4
  have n4 : ∀ b, b ≠ xA → hg_at S4.1 b = hg_at S3.1 b := fun b hb => by rw [← eS4, hu_ne hb]
  have k4 : hg_at S4.1 xA = some (.inl (G.1 0, cap, .inl (upd xx made.toInt.toNat 1))) := by rw [← eS4]; exact hu_self hx3
  have g0 := (n4 a d4).trans g0
  have w4 : hw S4 := by rw [← eS4, ← eS3, ← eS2, ← eS1]; exact (((hw0.hu).hu).hu).hu
  have z4 : S4.2 = S.2 := by rw [← eS4, ← eS3, ← eS2, ← eS1]; rfl
  have fr4 : ∀ b, b ≠ a → b ≠ kA → b ≠ fA → b ≠ sA → b ≠ xA → hg_at S4.1 b = hg_at S.1 b := fun b _ b2 b3 b4 b5 => (n4 b b5).trans ((n3 b b4).trans ((n2 b b3).trans (n1 b b2)))
  have pk : hg_at S4.1 kA = some (.inl (G.1 0, cap, .inl (upd kk made.toInt.toNat k))) := (n4 kA d8).trans ((n3 kA d7).trans ((n2 kA d6).trans k1))
  have pf : hg_at S4.1 fA = some (.inl (G.1 0, cap, .inl (upd ff made.toInt.toNat p))) := (n4 fA d11).trans ((n3 fA d10).trans k2)
  have ps : hg_at S4.1 sA = some (.inl (G.1 0, cap, .inl (upd ss made.toInt.toNat s))) := (n4 sA d13).trans k3
  have pp' : hg_at S4.1 pA = some (.inl (G.1 0, cap, .inl pp)) := (n4 pA (Ne.symm d15)).trans ((n3 pA (Ne.symm d14)).trans ((n2 pA (Ne.symm d12)).trans ((n1 pA (Ne.symm d9)).trans h5)))
  -- the second piece's extent
  have sec : ∀ (T : hg_S) (x' : Nat → Int32), hg_at T.1 a = some (.inr (5, [.ref kA, .ref fA, .ref sA, .ref xA, .ref pA, .int made])) → hg_at T.1 xA = some (.inl (G.1 0, cap, .inl x')) → (∀ b, b ≠ xA → hg_at T.1 b = hg_at S4.1 b) → T.2 = S4.2 → hw T → x' made.toInt.toNat = (if k = 0 then 1 else 1 + xx p.toInt.toNat) → (∀ i, ¬ i = made.toInt.toNat → x' i = xx i) → dc_wp (hm_PI_add_L86 G T a s) (fun q => q.2 = made ∧ q.1.2 = S.2 ∧ hw q.1 ∧ (∀ b, b ≠ a → b ≠ kA → b ≠ fA → b ≠ sA → b ≠ xA → hg_at q.1.1 b = hg_at S.1 b) ∧ ∃ x', piv G q.1 a kA fA sA xA pA cap (upd kk made.toInt.toNat k) (upd ff made.toInt.toNat p) (upd ss made.toInt.toNat s) x' pp (made + 1) ∧ x' made.toInt.toNat = pxx xx k p s ∧ ∀ i, ¬ i = made.toInt.toNat → x' i = xx i) := by
    intro T x' t0 tx tf tz tw v1 v2
    delta hm_PI_add_L86
    refine wq_if (fun c => ?_) (fun c => ?_)
    · refine fin T x' ⟨t0, (tf kA d8).trans pk, (tf fA d11).trans pf, (tf sA d13).trans ps, tx, (tf pA (Ne.symm d15)).trans pp'⟩ (tz.trans z4) tw (fun b b1 b2 b3 b4 b5 => (tf b b5).trans (fr4 b b1 b2 b3 b4 b5)) ?_ v2
      rw [v1]
      unfold pxx
      rw [if_pos c]
      split
      · rfl
      · exact (Int32.add_zero _).symm
    · obtain ⟨s0, s1⟩ := hs c
      refine wq_gr (x := some xA) t0 rfl ?_
      refine wq_gi (x := made) t0 rfl ?_
      refine wq_ld tx m0 m1 ?_
      refine wq_gr (x := some xA) t0 rfl ?_
      refine wq_ld tx s0 (by omega) ?_
      refine wq_st tx m0 m1 ?_
      have ax : a ≠ xA := d4
      refine fin _ _ ⟨(hu_ne ax).trans t0, (hu_ne d8).trans ((tf kA d8).trans pk), (hu_ne d11).trans ((tf fA d11).trans pf), (hu_ne d13).trans ((tf sA d13).trans ps), hu_self tx, (hu_ne (Ne.symm d15)).trans ((tf pA (Ne.symm d15)).trans pp')⟩ (tz.trans z4) tw.hu (fun b b1 b2 b3 b4 b5 => (hu_ne b5).trans ((tf b b5).trans (fr4 b b1 b2 b3 b4 b5))) ?_ ?_
      · rw [upd_s, v1, v2 _ (by omega)]
        unfold pxx
        rw [if_neg c]
      · intro i hi
        rw [upd_n hi]
        exact v2 i hi
  refine wq_if (fun c => ?_) (fun c => ?_)
  · refine sec S4 _ g0 k4 (fun _ _ => rfl) rfl w4 ?_ ?_
    · rw [upd_s, if_pos c]
    · intro i hi
      exact upd_n hi
  · obtain ⟨p0, p1⟩ := hp c
    refine wq_gr (x := some xA) g0 rfl ?_
    refine wq_gi (x := made) g0 rfl ?_
    refine wq_ld k4 m0 m1 ?_
    refine wq_gr (x := some xA) g0 rfl ?_
    refine wq_ld k4 p0 (by omega) ?_
    refine wq_st k4 m0 m1 ?_
    refine sec _ _ ((hu_ne d4).trans g0) (hu_self k4) (fun b hb => hu_ne hb) rfl w4.hu ?_ ?_
    · rw [upd_s, upd_s, upd_n (by omega), if_neg c]
    · intro i hi
      rw [upd_n hi, upd_n hi]
end PIW
