/-! the class's net is widened -/
section WID
variable {G : hg_E} {E : nwE} {S T : hg_S} {b : Nat → Nat} {cap o P : Nat} {q : rsT}
/-- arrays as they lie when k of them were made anew -/
def wb (b : Nat → Nat) (t k i : Nat) : Nat := if 4 ≤ i ∧ i < 4 + k then t + (i - 4) else b i
def wfs (b : Nat → Nat) (c : Nat → Int32) : List Value := [.ref (b 0), .ref (b 1), .ref (b 2), .ref (b 3), .ref (b 4), .ref (b 5), .ref (b 6), .ref (b 7), .ref (b 8), .int (c 9), .int (c 10), .int (c 11), .int (c 12), .int (c 13), .int (c 14)]
def WI (G : hg_E) (T S : hg_S) (o : Nat) (b : Nat → Nat) (cap P : Nat) (q : rsT) (k : Nat) : Prop :=
  (hw S ∧ S.2 = (T.2.1 + k, T.2.2.1 - k, T.2.2.2 - k * P)) ∧ hg_at S.1 o = some (.inr (12, wfs (wb b T.2.1 k) q.2)) ∧ (∀ e, e < T.2.1 → e ≠ o → hg_at S.1 e = hg_at T.1 e) ∧ ∀ j, j < k → hg_at S.1 (T.2.1 + j) = some (.inl (G.1 0, P, .inl (fun i => if i < cap then q.1 (4 + j) i else 0)))
theorem wi_s {τ : Type} {Φ : τ → Prop} {x : Int32} (ho : o < T.2.1) (hb : ∀ i, i < 9 → hg_at T.1 (b i) = some (.inl (G.1 0, nN cap i, .inl (q.1 i))) ∧ b i ≠ o ∧ b i < T.2.1) (hx : x.toInt = (P : Int)) (hcp : cap < P) (hP : P ≤ 100000) {k : Nat} (hk : k < 5) (r1 : 5 ≤ T.2.2.1) (r2 : 5 * P ≤ T.2.2.2) (h : WI G T S o b cap P q k) {F : hg_S → Option τ} (kk : ∀ S', WI G T S' o b cap P q (k + 1) → dc_wp (F S') Φ) : dc_wp ((hg_gr S (some o) 12 (4 + k)).bind fun e1 => (hm_JA_copyOf G S e1 x).bind fun q2 => (hg_pf q2.1 (some o) 12 (4 + k) (va_rf q2.2)).bind F) Φ := by
  obtain ⟨⟨w1, w2⟩, w3, w4, w5⟩ := h
  obtain ⟨hb1, hb2, hb3⟩ := hb (4 + k) (by omega)
  have ebk : wb b T.2.1 k (4 + k) = b (4 + k) := if_neg (by omega)
  have eN : nN cap (4 + k) = cap := by
    unfold nN
    rw [if_neg (by omega), if_neg (by omega), if_neg (by omega)]
  have hat : hg_at S.1 (b (4 + k)) = some (.inl (G.1 0, cap, .inl (q.1 (4 + k)))) := by rw [w4 _ hb3 hb2, hb1, eN]
  have t1 : S.2.1 = T.2.1 + k := by rw [w2]
  have gr : (wfs (wb b T.2.1 k) q.2)[4 + k]? = some (va_rf (some (b (4 + k)))) := by
    rw [← ebk]
    have : k = 0 ∨ k = 1 ∨ k = 2 ∨ k = 3 ∨ k = 4 := by omega
    rcases this with e | e | e | e | e <;> subst e <;> rfl
  have k5 : k * P + P ≤ 5 * P := by
    have : k = 0 ∨ k = 1 ∨ k = 2 ∨ k = 3 ∨ k = 4 := by omega
    rcases this with e | e | e | e | e <;> subst e <;> omega
  refine wq_gr w3 gr ?_
  refine wq_call (cpo_w w1 hat hx hcp hP (by rw [w2]; show 1 ≤ T.2.2.1 - k; omega) (by rw [w2]; show P ≤ T.2.2.2 - k * P; omega)) ?_
  rintro ⟨S1, v⟩ ⟨ev, ⟨v1, v2⟩, v3, v4⟩
  have ev : v = some S.2.1 := ev
  have v1 : hw S1 := v1
  have v2 : S1.2 = (S.2.1 + 1, S.2.2.1 - 1, S.2.2.2 - P) := v2
  have v3 : ∀ e, e ≠ S.2.1 → hg_at S1.1 e = hg_at S.1 e := v3
  have v4 : hg_at S1.1 S.2.1 = some (.inl (G.1 0, P, .inl (fun i => if i < cap then q.1 (4 + k) i else 0))) := v4
  subst ev
  have ho1 : hg_at S1.1 o = some (.inr (12, wfs (wb b T.2.1 k) q.2)) := by rw [v3 o (by omega)]; exact w3
  have es : (wfs (wb b T.2.1 k) q.2).set (4 + k) (va_rf (some S.2.1)) = wfs (wb b T.2.1 (k + 1)) q.2 := by
    rw [t1]
    have : k = 0 ∨ k = 1 ∨ k = 2 ∨ k = 3 ∨ k = 4 := by omega
    rcases this with e | e | e | e | e <;> subst e <;> rfl
  show dc_wp ((hg_pf S1 (some o) 12 (4 + k) (va_rf (some S.2.1))).bind F) Φ
  refine wq_pfT (fs' := wfs (wb b T.2.1 (k + 1)) q.2) ho1 ?_ es (fun S2 e2 => kk S2 ?_)
  · show 4 + k < 15
    omega
  · subst e2
    refine ⟨⟨v1.hu, ?_⟩, hu_self ho1, fun e e1 e2 => ?_, fun j hj => ?_⟩
    · show S1.2 = _
      rw [v2, w2]
      refine Prod.ext ?_ (Prod.ext ?_ ?_)
      · show T.2.1 + k + 1 = T.2.1 + (k + 1); omega
      · show T.2.2.1 - k - 1 = T.2.2.1 - (k + 1); omega
      · show T.2.2.2 - k * P - P = T.2.2.2 - (k + 1) * P
        rw [Nat.add_mul, Nat.one_mul]; omega
    · rw [hu_ne e2, v3 e (by omega)]
      exact w4 e e1 e2
    · rw [hu_ne (by omega)]
      by_cases e : j = k
      · rw [e, ← t1]; exact v4
      · rw [v3 _ (by omega)]
        exact w5 j (by omega)
/-- what widening makes of the arrays -/
def wdQ (q : rsT) (cap : Nat) : rsT := (fun i => if 4 ≤ i ∧ i ≤ 8 then (fun k => if k < cap then q.1 i k else 0) else q.1 i, q.2)
theorem wd_w (h : NW G E S b cap q) {x : Int32} (hx : x.toInt = ((2 * cap : Nat) : Int)) (hc0 : 1 ≤ cap) (hc : cap ≤ 16384) (hE : E.2.2.2 ≤ cap ∧ E.2.1 < E.1.2.1) (r1 : 35 ≤ E.1.2.2.1) (r2 : 10 * (32768 - E.2.2.2) ≤ E.1.2.2.2) (hj : ∀ j, cap = E.2.2.2 * 2 ^ j → j ≤ 6) : dc_wp (hm_NT_widen G S E.2.1 x) (fun S' => ∃ b', NW G E S' b' (2 * cap) (wdQ q cap)) := by
  obtain ⟨⟨g1, g3⟩, ⟨g4, g5⟩, g6, g7, j, j1, j2⟩ := h
  have jj := hj j j1
  have c5 : E.2.2.2 ≤ cap := hE.1
  have hs : S.2.1 = E.1.2.1 + 5 * j := by rw [j2]
  have ho : E.2.1 < S.2.1 := by have := hE.2; omega
  have hb : ∀ i, i < 9 → hg_at S.1 (b i) = some (.inl (G.1 0, nN cap i, .inl (q.1 i))) ∧ b i ≠ E.2.1 ∧ b i < S.2.1 := fun i hi => ⟨g5 i hi, at_ne (g5 i hi) g4 (fun z => by cases z), g1.lt (g5 i hi)⟩
  have R1 : 5 ≤ S.2.2.1 := by rw [j2]; show 5 ≤ E.1.2.2.1 - 5 * j; omega
  have R2 : 5 * (2 * cap) ≤ S.2.2.2 := by rw [j2]; show 5 * (2 * cap) ≤ E.1.2.2.2 - 10 * (cap - E.2.2.2); omega
  have W0 : WI G S S E.2.1 b cap (2 * cap) q 0 := ⟨⟨g1, by rw [Nat.zero_mul]; rfl⟩, by
    have : wb b S.2.1 0 = b := by funext i; exact if_neg (by omega)
    rw [this]
    exact g4, fun _ _ _ => rfl, fun j hj => absurd hj (by omega)⟩
  delta hm_NT_widen
  refine wi_s (k := 0) ho hb hx (by omega) (by omega) (by omega) R1 R2 W0 (fun S1 W1 => ?_)
  refine wi_s (k := 1) ho hb hx (by omega) (by omega) (by omega) R1 R2 W1 (fun S2 W2 => ?_)
  refine wi_s (k := 2) ho hb hx (by omega) (by omega) (by omega) R1 R2 W2 (fun S3 W3 => ?_)
  refine wi_s (k := 3) ho hb hx (by omega) (by omega) (by omega) R1 R2 W3 (fun S4 W4 => ?_)
  refine wi_s (k := 4) ho hb hx (by omega) (by omega) (by omega) R1 R2 W4 (fun S5 W5 => ?_)
  clear W0 W1 W2 W3 W4
  obtain ⟨⟨w1, w2⟩, w3, w4, w5⟩ := W5
  refine ⟨_, rfl, wb b S.2.1 5, ⟨w1, fun i k i2 k2 e => ?_⟩, ⟨w3, fun i i2 => ?_⟩, fun e e0 e1 e2 => ?_, ⟨fun i i2 => ?_, fun i i2 => ?_⟩, j + 1, by rw [Nat.pow_succ, ← Nat.mul_assoc, ← j1, Nat.mul_comm], ?_⟩
  · have b1 := (hb i i2).2.2
    have b2 := (hb k k2).2.2
    unfold wb at e
    by_cases c1 : 4 ≤ i ∧ i < 4 + 5
    · rw [if_pos c1] at e
      by_cases c2 : 4 ≤ k ∧ k < 4 + 5
      · rw [if_pos c2] at e; omega
      · rw [if_neg c2] at e; omega
    · rw [if_neg c1] at e
      by_cases c2 : 4 ≤ k ∧ k < 4 + 5
      · rw [if_pos c2] at e; omega
      · rw [if_neg c2] at e; exact g3 i k i2 k2 e
  · unfold wb
    by_cases c1 : 4 ≤ i ∧ i < 4 + 5
    · have c1' : 4 ≤ i ∧ i ≤ 8 := by omega
      have := w5 (i - 4) (by omega)
      rw [show 4 + (i - 4) = i by omega] at this
      have eN : nN (2 * cap) i = 2 * cap := by
        unfold nN
        rw [if_neg (by omega), if_neg (by omega), if_neg (by omega)]
      have ew : (wdQ q cap).1 i = fun k => if k < cap then q.1 i k else 0 := if_pos c1'
      rw [if_pos c1, this, eN, ew]
    · have c1' : ¬ (4 ≤ i ∧ i ≤ 8) := by omega
      obtain ⟨k1, k2, k3⟩ := hb i i2
      have eN : nN (2 * cap) i = nN cap i := by
        unfold nN
        by_cases d1 : i < 2
        · rw [if_pos d1, if_pos d1]
        · rw [if_neg d1, if_neg d1]
          by_cases d2 : i = 2
          · rw [if_pos d2, if_pos d2]
          · rw [if_neg d2, if_neg d2, if_pos (by omega), if_pos (by omega)]
      have ew : (wdQ q cap).1 i = q.1 i := if_neg c1'
      rw [if_neg c1, w4 _ k3 k2, k1, eN, ew]
  · rw [w4 e (by omega) e1]
    exact g6 e e0 e1 e2
  · unfold wb
    by_cases c1 : 4 ≤ i ∧ i < 4 + 5
    · rw [if_pos c1]; right; omega
    · rw [if_neg c1]; exact g7.1 i i2
  · unfold wb
    rw [if_neg (by omega)]
    exact g7.2 i i2
  · rw [w2, j2]
    refine Prod.ext ?_ (Prod.ext ?_ ?_)
    · show E.1.2.1 + 5 * j + 5 = E.1.2.1 + 5 * (j + 1); omega
    · show E.1.2.2.1 - 5 * j - 5 = E.1.2.2.1 - 5 * (j + 1); omega
    · show E.1.2.2.2 - 10 * (cap - E.2.2.2) - 5 * (2 * cap) = E.1.2.2.2 - 10 * (2 * cap - E.2.2.2); omega
end WID
