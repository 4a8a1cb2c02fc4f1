/-! an object under way: its fields, the cells that were made since -/
def eU (E : Nat → va_E) (k : Nat) (e : va_E) : Nat → va_E := fun i => if i = k then e else E i
def AV (S0 S : hg_S) (o ci : Nat) (fs : List Value) (k w : Nat) (E : Nat → va_E) : Prop :=
  (hw S ∧ o < S0.2.1) ∧ hg_at S.1 o = some (.inr (ci, fs)) ∧ S.2 = (S0.2.1 + k, S0.2.2.1 - k, S0.2.2.2 - w) ∧ (∀ b, b < S0.2.1 → b ≠ o → hg_at S.1 b = hg_at S0.1 b) ∧ ∀ i, i < k → hg_at S.1 (S0.2.1 + i) = some (E i)
section AVS
variable {G : hg_E} {S0 S : hg_S} {o ci : Nat} {fs : List Value} {k w : Nat} {E : Nat → va_E}
theorem AV_0 (h : hw S0) (ho : hg_at S0.1 o = some (.inr (ci, fs))) : AV S0 S0 o ci fs 0 0 E := ⟨⟨h, h.lt ho⟩, ho, rfl, fun _ _ _ => rfl, fun i hi => by omega⟩
theorem AV.at (v : AV S0 S o ci fs k w E) (h0 : hw S0) {b : Nat} {e : va_E} (h : hg_at S0.1 b = some e) (n : b ≠ o) : hg_at S.1 b = some e := (v.2.2.2.1 b (h0.lt h) n).trans h
theorem AV_hp (v : AV S0 S o ci fs k w E) {e : va_E} {n : Nat} : AV S0 (hp S e n) o ci fs (k + 1) (w + n) (eU E k e) := by
  obtain ⟨⟨w1, w2⟩, w3, w4, w5, w6⟩ := v
  have t : S.2.1 = S0.2.1 + k := by rw [w4]
  refine ⟨⟨w1.hp, w2⟩, ?_, ?_, fun b b1 b2 => ?_, fun i hi => ?_⟩
  · rw [hp_ne (by omega)]; exact w3
  · show (S.2.1 + 1, S.2.2.1 - 1, S.2.2.2 - n) = _
    rw [w4]
    show (S0.2.1 + k + 1, S0.2.2.1 - k - 1, S0.2.2.2 - w - n) = (S0.2.1 + (k + 1), S0.2.2.1 - (k + 1), S0.2.2.2 - (w + n))
    rw [Nat.sub_sub, Nat.sub_sub, Nat.add_assoc]
  · rw [hp_ne (by omega)]; exact w5 b b1 b2
  · unfold eU
    by_cases c : i = k
    · subst c
      rw [if_pos rfl, ← t]
      exact hp_self w1
    · rw [if_neg c, hp_ne (by omega)]
      exact w6 i (by omega)
theorem AV_pf (v : AV S0 S o ci fs k w E) {fs' : List Value} : AV S0 (hu S o (.inr (ci, fs'))) o ci fs' k w E := by
  obtain ⟨⟨w1, w2⟩, w3, w4, w5, w6⟩ := v
  refine ⟨⟨w1.hu, w2⟩, hu_self w3, w4, fun b b1 b2 => ?_, fun i hi => ?_⟩
  · rw [hu_ne b2]; exact w5 b b1 b2
  · rw [hu_ne (by omega)]; exact w6 i hi
variable {τ : Type} {Φ : τ → Prop}
theorem wa_pf (v : AV S0 S o ci fs k w E) {j : Nat} {x : Value} (hj : j < fs.length) {X : hg_S → Option τ} (kk : ∀ S', AV S0 S' o ci (fs.set j x) k w E → dc_wp (X S') Φ) : dc_wp ((hg_pf S (some o) ci j x).bind X) Φ := wq_pf v.2.1 hj (kk _ (AV_pf v))
theorem wa_new (v : AV S0 S o ci fs k w E) {c N : Nat} {fs' : List Value} (h1 : k + 1 ≤ S0.2.2.1) (h2 : w + N ≤ S0.2.2.2) {X : hg_S → Option τ} (kk : ∀ S', AV S0 S' o ci fs (k + 1) (w + N) (eU E k (.inr (c, fs'))) → dc_wp (X S') Φ) : dc_wp ((hg_new S c N fs').bind X) Φ := by
  have e4 := v.2.2.1
  refine wq_new (by rw [e4]; show 1 ≤ S0.2.2.1 - k; omega) (by rw [e4]; show N ≤ S0.2.2.2 - w; omega) (kk _ (AV_hp v))
theorem wa_na (v : AV S0 S o ci fs k w E) {t N : Nat} {x : Int32} (hx : x.toInt = (N : Int)) (hN : N ≤ 100000000) (h1 : k + 1 ≤ S0.2.2.1) (h2 : w + N ≤ S0.2.2.2) {X : hg_S → Option τ} (kk : ∀ S', AV S0 S' o ci fs (k + 1) (w + N) (eU E k (.inl (G.1 t, N, .inl (fun _ => 0)))) → dc_wp (X S') Φ) : dc_wp ((hg_newa G S t x).bind X) Φ := by
  have e4 := v.2.2.1
  refine wq_newa hx (by rw [e4]; show 1 ≤ S0.2.2.1 - k; omega) (by rw [e4]; show N ≤ S0.2.2.2 - w; omega) (by omega) (kk _ (AV_hp v))
/-- an array made and hung into a field -/
theorem wa_nf (v : AV S0 S o ci fs k w E) {t N j : Nat} {x : Int32} (hx : x.toInt = (N : Int)) (hN : N ≤ 100000000) (h1 : k + 1 ≤ S0.2.2.1) (h2 : w + N ≤ S0.2.2.2) (hj : j < fs.length) {X : hg_S → Option τ} (kk : ∀ S', AV S0 S' o ci (fs.set j (.ref (S0.2.1 + k))) (k + 1) (w + N) (eU E k (.inl (G.1 t, N, .inl (fun _ => 0)))) → dc_wp (X S') Φ) : dc_wp ((hg_newa G S t x).bind fun S1 => (hg_pf S1 (some o) ci j (va_rf (some S.2.1))).bind X) Φ := by
  have t : S.2.1 = S0.2.1 + k := by rw [v.2.2.1]
  refine wa_na v hx hN h1 h2 (fun S1 v1 => ?_)
  rw [t]
  exact wa_pf v1 hj kk
/-- an object within is finished -/
theorem AV_in (v : AV S0 S o ci fs k w E) {S2 : hg_S} {j c : Nat} {fs' : List Value} {k' w' : Nat} {E' : Nat → va_E} (hj : j < k) (u : AV S S2 (S0.2.1 + j) c fs' k' w' E') : AV S0 S2 o ci fs (k + k') (w + w') (fun i => if i = j then .inr (c, fs') else if i < k then E i else E' (i - k)) := by
  obtain ⟨⟨w1, w2⟩, w3, w4, w5, w6⟩ := v
  obtain ⟨⟨u1, u2⟩, u3, u4, u5, u6⟩ := u
  have t : S.2.1 = S0.2.1 + k := by rw [w4]
  refine ⟨⟨u1, w2⟩, (u5 o (by omega) (by omega)).trans w3, ?_, fun b b1 b2 => (u5 b (by omega) (by omega)).trans (w5 b b1 b2), fun i hi => ?_⟩
  · rw [u4, w4]
    show (S0.2.1 + k + k', S0.2.2.1 - k - k', S0.2.2.2 - w - w') = (S0.2.1 + (k + k'), S0.2.2.1 - (k + k'), S0.2.2.2 - (w + w'))
    rw [Nat.sub_sub, Nat.sub_sub, Nat.add_assoc]
  · by_cases c1 : i = j
    · subst c1
      rw [u3]
      exact congrArg some (if_pos rfl).symm
    · by_cases c2 : i < k
      · rw [u5 _ (by omega) (by omega), w6 i c2]
        exact congrArg some ((if_neg c1).trans (if_pos c2)).symm
      · have := u6 (i - k) (by omega)
        rw [t, show S0.2.1 + k + (i - k) = S0.2.1 + i by omega] at this
        rw [this]
        exact congrArg some ((if_neg c1).trans (if_neg c2)).symm
theorem pi_w (h0 : hw S0) (ho : hg_at S0.1 o = some (.inr (5, [.null, .null, .null, .null, .null, .int 0]))) {x : Int32} {N : Nat} (hx : x.toInt = (N : Int)) (hN : N ≤ 100000000) (h1 : 5 ≤ S0.2.2.1) (h2 : 5 * N ≤ S0.2.2.2) : dc_wp (hm_PI_init G S0 o x) (fun S' => AV S0 S' o 5 [.ref S0.2.1, .ref (S0.2.1 + 1), .ref (S0.2.1 + 2), .ref (S0.2.1 + 3), .ref (S0.2.1 + 4), .int 0] 5 (5 * N) (fun _ => .inl (G.1 0, N, .inl (fun _ => 0)))) := by
  delta hm_PI_init
  have v : AV S0 S0 o 5 [.null, .null, .null, .null, .null, .int 0] 0 0 (fun _ => .inl (G.1 0, N, .inl (fun _ => 0))) := AV_0 h0 ho
  have ec : ∀ k, eU (fun _ => (.inl (G.1 0, N, .inl (fun _ => 0)) : va_E)) k (.inl (G.1 0, N, .inl (fun _ => 0))) = fun _ => .inl (G.1 0, N, .inl (fun _ => 0)) := by
    intro k
    funext i
    unfold eU
    split <;> rfl
  refine wa_nf v hx hN (by omega) (by omega) (Nat.le_of_ble_eq_true rfl) (fun S1 v1 => ?_)
  rw [ec] at v1
  refine wa_nf v1 hx hN (by omega) (by omega) (Nat.le_of_ble_eq_true rfl) (fun S2 v2 => ?_)
  rw [ec] at v2
  refine wa_nf v2 hx hN (by omega) (by omega) (Nat.le_of_ble_eq_true rfl) (fun S3 v3 => ?_)
  rw [ec] at v3
  refine wa_nf v3 hx hN (by omega) (by omega) (Nat.le_of_ble_eq_true rfl) (fun S4 v4 => ?_)
  rw [ec] at v4
  refine wa_nf v4 hx hN (by omega) (by omega) (Nat.le_of_ble_eq_true rfl) (fun S5 v5 => ?_)
  rw [ec, show 0 + N + N + N + N + N = 5 * N by omega] at v5
  exact ⟨_, rfl, v5⟩
end AVS
