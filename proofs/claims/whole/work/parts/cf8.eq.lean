/-! the class's rows and the reference's are the same -/
section EQT
variable {names : Int32} {pk pf ps xx : Nat → Int32} {m : Nat} {θ : (Int32 → Prop) → Int32 → Prop} {R : Nat → Nat → Int32}
/-- what the rows say of themselves -/
def stRw (m : Nat) (xx : Nat → Int32) (R : Nat → Nat → Int32) (T : tT) (k : Nat) : Prop :=
  (∀ j, k ≤ j → j < k + tsz T → (R 1 j = -1 ∨ ((j : Int) < (R 1 j).toInt ∧ (R 1 j).toInt < ((k + tsz T : Nat) : Int))) ∧ (R 2 j = -1 ∨ ((j : Int) < (R 2 j).toInt ∧ (R 2 j).toInt < ((k + tsz T : Nat) : Int))) ∧ (R 10 j = -1 ∨ (0 ≤ (R 10 j).toInt ∧ (R 10 j).toInt < (m : Int) ∧ 1 ≤ (xx (R 10 j).toInt.toNat).toInt ∧ (xx (R 10 j).toInt.toNat).toInt ≤ 2000))) ∧ ((gPa (R 0) (k + tsz T) : Int) = (gPa (R 0) k : Int) + pas T ∧ (gEx (R 10) xx (k + tsz T) : Int) = (gEx (R 10) xx k : Int) + tsm xx T)
theorem g_1 {x : lbT} {k : Nat} (h0 : R 0 k = x.1) (h10 : R 10 k = x.2.2.2.2.2) (ht : x.2.2.2.2.2 = -1 ∨ (0 ≤ x.2.2.2.2.2.toInt ∧ x.2.2.2.2.2.toInt < (m : Int) ∧ 1 ≤ (xx x.2.2.2.2.2.toInt.toNat).toInt ∧ (xx x.2.2.2.2.2.toInt.toNat).toInt ≤ 2000)) : (gPa (R 0) (k + 1) : Int) = (gPa (R 0) k : Int) + (if x.1 = 1 then 1 else 0) ∧ (gEx (R 10) xx (k + 1) : Int) = (gEx (R 10) xx k : Int) + txx xx x.2.2.2.2.2 := by
  refine ⟨?_, ?_⟩
  · show ((gPa (R 0) k + (if R 0 k = 1 then 1 else 0) : Nat) : Int) = _
    rw [h0]
    split <;> omega
  · show ((gEx (R 10) xx k + (if R 10 k = -1 then 0 else (xx (R 10 k).toInt.toNat).toInt.toNat) : Nat) : Int) = _
    rw [h10]
    unfold txx
    by_cases c : x.2.2.2.2.2 = -1
    · rw [if_pos c, if_pos c]; omega
    · have := ht.resolve_left c
      rw [if_neg c, if_neg c]; omega
theorem st_T (hθ : ∀ V e, θ V e → 0 ≤ e.toInt ∧ e.toInt < (m : Int) ∧ 1 ≤ (xx e.toInt.toNat).toInt ∧ (xx e.toInt.toNat).toInt ≤ 2000) : ∀ (T : tT) (V : Int32 → Prop) (k : Nat) (up : Int32) (w : Int) (Es : List Int32), okT θ V T → k + tsz T ≤ 5000 → RPr R T k up w Es → stRw m xx R T k
  | .const x, V, k, up, w, Es, hO, hk, ⟨r0, r1, r2, r3, r4, r5, r6, r7, r10⟩ => by
    have ht := ok_t hθ (Or.inl hO)
    have g := g_1 r0 r10 ht
    refine ⟨fun j j1 j2 => ?_, g.1, g.2⟩
    have j2 : j < k + 1 := j2
    have ej : j = k := by omega
    subst ej
    rw [r1, r2, r10]
    exact ⟨Or.inl rfl, Or.inl rfl, ht⟩
  | .unary x A, V, k, up, w, Es, hO, hk, ⟨⟨r0, r1, r2, r3, r4, r5, r6, r7, r10⟩, hA⟩ => by
    have ht := ok_t hθ (Or.inr (Or.inl hO.1))
    have g := g_1 r0 r10 ht
    have hk : k + (1 + tsz A) ≤ 5000 := hk
    have tz := (tsm_0 hθ A _ hO.2).2.1
    obtain ⟨a1, a2, a3⟩ := st_T hθ A _ (k + 1) _ _ _ hO.2 (by omega) hA
    have ek : k + (1 + tsz A) = k + 1 + tsz A := by omega
    refine ⟨fun j j1 j2 => ?_, ?_, ?_⟩
    · have j2 : j < k + (1 + tsz A) := j2
      show (R 1 j = -1 ∨ ((j : Int) < (R 1 j).toInt ∧ (R 1 j).toInt < ((k + (1 + tsz A) : Nat) : Int))) ∧ (R 2 j = -1 ∨ ((j : Int) < (R 2 j).toInt ∧ (R 2 j).toInt < ((k + (1 + tsz A) : Nat) : Int))) ∧ _
      by_cases ej : j = k
      · subst ej
        rw [r1, r2, r10]
        refine ⟨Or.inr ?_, Or.inl rfl, ht⟩
        rw [Int32.toInt_ofNat_of_lt (by omega)]
        omega
      · rw [ek]
        exact a1 j (by omega) (by omega)
    · show ((gPa (R 0) (k + (1 + tsz A)) : Nat) : Int) = (gPa (R 0) k : Int) + ((if (lT x).1 = 1 then 1 else 0) + pas A)
      rw [ek, a2, g.1]; omega
    · show ((gEx (R 10) xx (k + (1 + tsz A)) : Nat) : Int) = (gEx (R 10) xx k : Int) + (txx xx (lT x).2.2.2.2.2 + tsm xx A)
      rw [ek, a3, g.2]; omega
  | .binary x A B, V, k, up, w, Es, hO, hk, ⟨⟨r0, r1, r2, r3, r4, r5, r6, r7, r10⟩, hA, hB⟩ => by
    have ht := ok_t hθ (Or.inr (Or.inr hO.1))
    have g := g_1 r0 r10 ht
    have hk : k + (1 + tsz A + tsz B) ≤ 5000 := hk
    have tz := (tsm_0 hθ A _ hO.2.1).2.1
    have tzb := (tsm_0 hθ B _ hO.2.2).2.1
    obtain ⟨a1, a2, a3⟩ := st_T hθ A _ (k + 1) _ _ _ hO.2.1 (by omega) hA
    obtain ⟨b1, b2, b3⟩ := st_T hθ B _ (k + 1 + tsz A) _ _ _ hO.2.2 (by omega) hB
    have ek : k + (1 + tsz A + tsz B) = k + 1 + tsz A + tsz B := by omega
    refine ⟨fun j j1 j2 => ?_, ?_, ?_⟩
    · have j2 : j < k + (1 + tsz A + tsz B) := j2
      show (R 1 j = -1 ∨ ((j : Int) < (R 1 j).toInt ∧ (R 1 j).toInt < ((k + (1 + tsz A + tsz B) : Nat) : Int))) ∧ (R 2 j = -1 ∨ ((j : Int) < (R 2 j).toInt ∧ (R 2 j).toInt < ((k + (1 + tsz A + tsz B) : Nat) : Int))) ∧ _
      by_cases ej : j = k
      · subst ej
        rw [r1, r2, r10]
        refine ⟨Or.inr ?_, Or.inr ?_, ht⟩
        · rw [Int32.toInt_ofNat_of_lt (by omega)]
          omega
        · rw [Int32.toInt_ofNat_of_lt (by omega)]
          omega
      · rw [ek]
        by_cases eb : j < k + 1 + tsz A
        · obtain ⟨u1, u2, u3⟩ := a1 j (by omega) (by omega)
          exact ⟨u1.imp id (fun u => ⟨u.1, by omega⟩), u2.imp id (fun u => ⟨u.1, by omega⟩), u3⟩
        · exact b1 j (by omega) (by omega)
    · show ((gPa (R 0) (k + (1 + tsz A + tsz B)) : Nat) : Int) = (gPa (R 0) k : Int) + ((if (lT x).1 = 1 then 1 else 0) + (pas A + pas B))
      rw [ek, b2, a2, g.1]; omega
    · show ((gEx (R 10) xx (k + (1 + tsz A + tsz B)) : Nat) : Int) = (gEx (R 10) xx k : Int) + (txx xx (lT x).2.2.2.2.2 + (tsm xx A + tsm xx B))
      rw [ek, b3, a3, g.2]; omega
/-- a row of the class beside the reference's -/
def eqR (pk pf xx : Nat → Int32) (R Q : Nat → Nat → Int32) (g : Nat → Int32) (n j : Nat) : Prop :=
  (R 0 j = Q 51 j ∧ R 1 j = Q 52 j ∧ R 2 j = Q 53 j ∧ R 3 j = Q 58 j ∧ R 5 j = Q 55 j ∧ R 6 j = Q 56 j ∧ R 7 j = Q 57 j) ∧ Q 62 j = Int32.ofNat (gPa (R 0) j) ∧
  (R 10 j = -1 → (R 0 j = 1 → Q 54 j = Int32.ofNat (gPa (R 0) j)) ∧ (¬ R 0 j = 1 → ¬ R 0 j = 8 → R 4 j = Q 54 j) ∧ (R 0 j = 8 → R 4 j = -1)) ∧
  (¬ R 10 j = -1 → ¬ R 0 j = 8 ∧ Q 54 j = Int32.ofNat (gEx (R 10) xx j) ∧ PPr Q pk pf xx (xx (R 10 j).toInt.toNat).toInt.toNat (R 10 j).toInt.toNat (gEx (R 10) xx j) ∧ (Q 66 (gEx (R 10) xx j)).toInt = (gEx (R 10) xx j : Int) + (xx (R 10 j).toInt.toNat).toInt) ∧
  ∃ l, j < l ∧ l ≤ n ∧ Q 59 j = Int32.ofNat l ∧ g j = Int32.ofNat (gPa (R 0) l)
theorem w_eq {a b : Int32} (h : a.toInt = b.toInt) : a = b := i_eq.mpr h
theorem eq_1 {Q : Nat → Nat → Int32} {g : Nat → Int32} {T : tT} {V : Int32 → Prop} {x : lbT} {k n : Nat} {f s up t : Int32} {w : Int} {Es : List Int32} (hl : lb0 V x ∨ lb1 θ V x ∨ lb2 θ V x) (hb : gPa (R 0) k ≤ 5000 ∧ gEx (R 10) xx k ≤ 5000) (hr : rrow R T x k f s up w Es) (hq : lrow True False pk pf xx Q k x f s up w t (gPa (R 0) k) (gEx (R 10) xx k)) (hc : crow Q T x k Es) (hn : k < k + tsz T ∧ k + tsz T ≤ n) (hg : g k = Int32.ofNat (gPa (R 0) (k + tsz T))) : eqR pk pf xx R Q g n k := by
  obtain ⟨r0, r1, r2, r3, r4, r5, r6, r7, r10⟩ := hr
  obtain ⟨⟨q1, q2, q3, q4, q5, q6, q7⟩, q8, q9, -⟩ := hq
  obtain ⟨c1, c2, c3⟩ := hc
  refine ⟨⟨by rw [r0, q1], by rw [r1, q2], by rw [r2, q3], by rw [r3, q6], cB_uni r5 c1, by rw [r6, q4], w_eq (by rw [r7, q5])⟩, ?_, fun y => ?_, fun y => ?_, k + tsz T, hn.1, hn.2, c2, hg⟩
  · exact ofN_m q7 (by omega)
  · rw [r10] at y
    rw [r0, r4]
    refine ⟨fun z => ofN_m ((q8 y).1 z) (by omega), fun z1 z2 => ?_, fun z => ?_⟩
    · by_cases e : x.1 = 9
      · rw [if_pos e, c3 e]
      · rw [if_neg e, (q8 y).2 z1 (Or.inl (fun z => z.elim z2 e))]
        unfold rN
        rw [if_neg (fun z => z.elim z2 e)]
    · rw [if_neg (by rw [z]; decide)]
      rcases hl with hl | hl | hl
      · rcases hl.1 with (u | u | u) | ⟨u, -⟩ <;> (rw [u] at z; exact absurd z (by decide))
      · exact hl.2.2 z
      · rcases hl.1 with ⟨u, -⟩ | ⟨u | u, -⟩ <;> (rw [u] at z; exact absurd z (by decide))
  · rw [r10] at y
    obtain ⟨u1, u2, u3⟩ := q9 y trivial
    have et : txx xx x.2.2.2.2.2 = (xx x.2.2.2.2.2.toInt.toNat).toInt := if_neg y
    rw [et] at u2 u3
    rw [r10, r0]
    refine ⟨?_, ofN_m u1 (by omega), u2, u3⟩
    rcases hl with hl | hl | hl
    · exact absurd hl.2.1 y
    · rcases hl.1 with ⟨u, -⟩ | ⟨-, u⟩
      · rw [u]; decide
      · exact absurd u y
    · rcases hl.1 with ⟨u, -⟩ | ⟨-, u⟩
      · rw [u]; decide
      · exact absurd u y
/-- the bound of pauses, as a tree has it -/
theorem bp_T (hθ : ∀ V e, θ V e → 0 ≤ e.toInt ∧ e.toInt < (m : Int) ∧ 1 ≤ (xx e.toInt.toNat).toInt ∧ (xx e.toInt.toNat).toInt ≤ 2000) {R2 : Nat → Nat → Int32} {g : Nat → Int32} {n : Nat} (e0 : R2 0 = R 0 ∧ R2 1 = R 1 ∧ R2 2 = R 2) (e8 : ∀ j, j < n → R2 8 j = Int32.ofNat (gPa (R 0) j)) (hb : ∀ j, j < n → g j = bpF R2 g j) (hn : n ≤ 5000) : ∀ (T : tT) (V : Int32 → Prop) (k : Nat) (up : Int32) (w : Int) (Es : List Int32), okT θ V T → k + tsz T ≤ n → RPr R T k up w Es → g k = Int32.ofNat (gPa (R 0) (k + tsz T))
  | .const x, V, k, up, w, Es, hO, hk, ⟨r0, r1, r2, r3, r4, r5, r6, r7, r10⟩ => by
    have hk : k + 1 ≤ n := hk
    rw [hb k (by omega)]
    unfold bpF
    rw [e0.2.2, e0.2.1, e0.1, r2, r1, if_pos rfl, if_pos rfl, e8 k (by omega), r0]
    show _ = Int32.ofNat (gPa (R 0) k + (if R 0 k = 1 then 1 else 0))
    have gl := gPa_le (kd := R 0) k
    rw [r0]
    by_cases c : (lT x).1 = 1
    · rw [if_pos c, if_pos c]
      exact ad_n (by omega)
    · rw [if_neg c, if_neg c, Int32.add_zero, Nat.add_zero]
  | .unary x A, V, k, up, w, Es, hO, hk, ⟨⟨r0, r1, r2, r3, r4, r5, r6, r7, r10⟩, hA⟩ => by
    have hk : k + (1 + tsz A) ≤ n := hk
    have tz := (tsm_0 hθ A _ hO.2).2.1
    have IH := bp_T hθ e0 e8 hb hn A _ (k + 1) _ _ _ hO.2 (by omega) hA
    rw [hb k (by omega)]
    unfold bpF
    rw [e0.2.2, e0.2.1, r2, r1, if_pos rfl, if_neg (ofn_m (by omega)), show (Int32.ofNat (k + 1)).toInt.toNat = k + 1 by rw [Int32.toInt_ofNat_of_lt (by omega)]; omega, IH]
    exact congrArg (fun y => Int32.ofNat (gPa (R 0) y)) (show k + 1 + tsz A = k + (1 + tsz A) by omega)
  | .binary x A B, V, k, up, w, Es, hO, hk, ⟨⟨r0, r1, r2, r3, r4, r5, r6, r7, r10⟩, hA, hB⟩ => by
    have hk : k + (1 + tsz A + tsz B) ≤ n := hk
    have tz := (tsm_0 hθ A _ hO.2.1).2.1
    have tzb := (tsm_0 hθ B _ hO.2.2).2.1
    have IH := bp_T hθ e0 e8 hb hn B _ (k + 1 + tsz A) _ _ _ hO.2.2 (by omega) hB
    rw [hb k (by omega)]
    unfold bpF
    rw [e0.2.2, r2, if_neg (ofn_m (by omega)), show (Int32.ofNat (k + 1 + tsz A)).toInt.toNat = k + 1 + tsz A by rw [Int32.toInt_ofNat_of_lt (by omega)]; omega, IH]
    exact congrArg (fun y => Int32.ofNat (gPa (R 0) y)) (show k + 1 + tsz A + tsz B = k + (1 + tsz A + tsz B) by omega)
theorem eq_T (hθ : ∀ V e, θ V e → 0 ≤ e.toInt ∧ e.toInt < (m : Int) ∧ 1 ≤ (xx e.toInt.toNat).toInt ∧ (xx e.toInt.toNat).toInt ≤ 2000) {R2 Q : Nat → Nat → Int32} {g : Nat → Int32} {n : Nat} (e0 : R2 0 = R 0 ∧ R2 1 = R 1 ∧ R2 2 = R 2) (e8 : ∀ j, j < n → R2 8 j = Int32.ofNat (gPa (R 0) j)) (hb : ∀ j, j < n → g j = bpF R2 g j) (hn : n ≤ 5000) (hE : gEx (R 10) xx n ≤ 5000) : ∀ (T : tT) (V : Int32 → Prop) (k : Nat) (up t : Int32) (w : Int) (a c : Int) (Es : List Int32), okT θ V T → k + tsz T ≤ n → a = (gPa (R 0) k : Int) → c = (gEx (R 10) xx k : Int) → RPr R T k up w Es → LPr True False pk pf xx Q T k up w t a c → CPr Q T k Es → ∀ j, k ≤ j → j < k + tsz T → eqR pk pf xx R Q g n j
  | .const x, V, k, up, t, w, a, c, Es, hO, hk, ha, hc, hR, hL, hC, j, j1, j2 => by
    have hk : k + 1 ≤ n := hk
    have j2 : j < k + 1 := j2
    have ej : j = k := by omega
    subst ej
    rw [ha, hc] at hL
    have gl := gPa_le (kd := R 0) j
    have ge := gEx_le (ts := R 10) (xx := xx) (show j ≤ n by omega)
    exact eq_1 (θ := θ) (Or.inl hO) ⟨by omega, by omega⟩ hR hL hC ⟨Nat.lt_succ_self _, hk⟩ (bp_T hθ e0 e8 hb hn (.const x) V j up w Es hO hk hR)
  | .unary x A, V, k, up, t, w, a, c, Es, hO, hk, ha, hc, hR, hL, hC, j, j1, j2 => by
    have hb' := bp_T hθ e0 e8 hb hn (.unary x A) V k up w Es hO hk hR
    have hk : k + (1 + tsz A) ≤ n := hk
    have j2 : j < k + (1 + tsz A) := j2
    have gl := gPa_le (kd := R 0) k
    have ge := gEx_le (ts := R 10) (xx := xx) (show k ≤ n by omega)
    obtain ⟨hR1, hRA⟩ := hR
    obtain ⟨hL1, hLA⟩ := hL
    obtain ⟨hC1, hCA⟩ := hC
    have g1 := g_1 hR1.1 hR1.2.2.2.2.2.2.2.2 (ok_t hθ (Or.inr (Or.inl hO.1)))
    by_cases ej : j = k
    · subst ej
      rw [ha, hc] at hL1
      exact eq_1 (Or.inr (Or.inl hO.1)) ⟨by omega, by omega⟩ hR1 hL1 hC1 ⟨by show j < j + (1 + tsz A); omega, hk⟩ hb'
    · exact eq_T hθ e0 e8 hb hn hE A _ (k + 1) _ _ _ _ _ _ hO.2 (by omega) (by rw [ha, g1.1]) (by rw [hc, g1.2]) hRA hLA hCA j (by omega) (by omega)
  | .binary x A B, V, k, up, t, w, a, c, Es, hO, hk, ha, hc, hR, hL, hC, j, j1, j2 => by
    have hb' := bp_T hθ e0 e8 hb hn (.binary x A B) V k up w Es hO hk hR
    have hk : k + (1 + tsz A + tsz B) ≤ n := hk
    have j2 : j < k + (1 + tsz A + tsz B) := j2
    have gl := gPa_le (kd := R 0) k
    have ge := gEx_le (ts := R 10) (xx := xx) (show k ≤ n by omega)
    obtain ⟨hR1, hRA, hRB⟩ := hR
    obtain ⟨hL1, hLA, hLB⟩ := hL
    obtain ⟨hC1, hCA, hCB⟩ := hC
    have n6 : ¬ (lT x).1 = 6 := by rcases hO.1.1 with ⟨y, -⟩ | ⟨y | y, -⟩ <;> (rw [y]; decide)
    have g1 := g_1 hR1.1 hR1.2.2.2.2.2.2.2.2 (ok_t hθ (Or.inr (Or.inr hO.1)))
    rw [if_neg n6, Int.add_zero] at hLA
    by_cases ej : j = k
    · subst ej
      rw [ha, hc] at hL1
      exact eq_1 (Or.inr (Or.inr hO.1)) ⟨by omega, by omega⟩ hR1 hL1 hC1 ⟨by show j < j + (1 + tsz A + tsz B); omega, hk⟩ hb'
    · by_cases eb : j < k + 1 + tsz A
      · exact eq_T hθ e0 e8 hb hn hE A _ (k + 1) _ _ _ _ _ _ hO.2.1 (by omega) (by rw [ha, g1.1]) (by rw [hc, g1.2]) hRA hLA hCA j (by omega) eb
      · obtain ⟨-, a2, a3⟩ := st_T hθ A _ (k + 1) _ _ _ hO.2.1 (by omega) hRA
        exact eq_T hθ e0 e8 hb hn hE B _ (k + 1 + tsz A) _ _ _ _ _ _ hO.2.2 (by omega) (by rw [ha, a2, g1.1]) (by rw [hc, a3, g1.2]) hRB hLB hCB j (by omega) (by omega)
end EQT
