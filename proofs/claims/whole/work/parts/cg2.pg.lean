/-! the class's program is made, whole -/
def pgC (ins outs : Int32) (D : Nat → Int32) (k : Nat) : Int32 := if k = 1 then ins else if k = 2 then outs else if k = 3 then D 3 else if k = 4 then D 2 else D 5
section PGM
variable {G : hg_E} {S S' : hg_S} {o p1 lx nm tn : Nat} {A : Nat → Nat} {B : Nat → Nat → Int32} {P : Nat → Nat} {n xc : Nat} {ND : Nat → ndT} {F : Nat → Nat → Int32} {D : Nat → Int32} {ins outs q2 made names : Int32} {θ : (Int32 → Prop) → Int32 → Prop} {m : Nat} {T : tT} {i : Nat} {I : List Nat} {V : Int32 → Prop} {Q : Nat → Nat → Int32}
theorem pgA_c (t : Nat) (A : Nat → Nat) (i : Nat) (hi : i < 21) : (i < 10 ∧ pgA t A i = t + 6 + i) ∨ (i = 10 ∧ pgA t A i = t + 16) ∨ (11 ≤ i ∧ i < 16 ∧ pgA t A i = t + (i - 10)) ∨ (16 ≤ i ∧ ∃ k, 14 ≤ k ∧ k < 19 ∧ pgA t A i = A k ∧ (i = 16 → k = 18) ∧ (¬ i = 16 → k + 3 = i)) := by
  unfold pgA
  by_cases c : i < 10
  · rw [if_pos c]; exact Or.inl ⟨c, rfl⟩
  · rw [if_neg c]
    by_cases c1 : i = 10
    · rw [if_pos c1]; exact Or.inr (Or.inl ⟨c1, rfl⟩)
    · rw [if_neg c1]
      by_cases c2 : i < 16
      · rw [if_pos c2]; exact Or.inr (Or.inr (Or.inl ⟨by omega, c2, rfl⟩))
      · rw [if_neg c2]
        by_cases c3 : i = 16
        · rw [if_pos c3]; exact Or.inr (Or.inr (Or.inr ⟨by omega, 18, by omega, by omega, rfl, fun _ => rfl, fun z => absurd c3 z⟩))
        · rw [if_neg c3]; exact Or.inr (Or.inr (Or.inr ⟨by omega, i - 3, by omega, by omega, rfl, fun z => absurd z c3, fun _ => by omega⟩))
theorem pg_gv {fs : List Value} {ps w : Nat} (h0 : hw S) (ho : hg_at S.1 o = some (.inr (9, pg0))) (hA : inA A) (hpi : piv G S (A 6) (A 14) (A 15) (A 16) (A 17) (A 18) xc (B 6) (B 7) (B 8) (B 9) (B 10) made) (v : AV S S' o 9 fs 17 w (pgE G S.2.1 n ps)) (hf : fs[6]? = some (.ref S.2.1) ∧ ∀ i, i < 10 → fs[7 + i]? = some (.ref (pgA S.2.1 A i))) : GV G S' S' o S.2.1 (A 6) (pgA S.2.1 A) (pgN n ps xc) (pgR B) 0 := by
  obtain ⟨p6, p14, p15, p16, p17, p18⟩ := hpi
  have dr : ∀ k, 14 ≤ k → k < 19 → ∃ g, hg_at S.1 (A k) = some (.inl (G.1 0, xc, .inl g)) := by
    intro k k1 k2
    have : k = 14 ∨ k = 15 ∨ k = 16 ∨ k = 17 ∨ k = 18 := by omega
    rcases this with e | e | e | e | e <;> subst e
    · exact ⟨_, p14⟩
    · exact ⟨_, p15⟩
    · exact ⟨_, p16⟩
    · exact ⟨_, p17⟩
    · exact ⟨_, p18⟩
  have dl : ∀ k, 14 ≤ k → k < 19 → A k < S.2.1 := by
    intro k k1 k2
    obtain ⟨g, hg⟩ := dr k k1 k2
    exact h0.lt hg
  have l6 : A 6 < S.2.1 := h0.lt p6
  have nn : ∀ {b : Nat} {y : va_E}, hg_at S.1 b = some y → ¬ y = .inr (9, pg0) → hg_at S'.1 b = some y := fun {b y} hy ne => v.at h0 hy (at_ne hy ho ne)
  have aa : ∀ i, i < 21 → hg_at S'.1 (pgA S.2.1 A i) = some (.inl (G.1 0, pgN n ps xc i, .inl (pgR B i))) := by
    intro i hi
    by_cases c : i < 16
    · have eR : pgR B i = fun _ => 0 := if_pos c
      rw [eR]
      have e1 : ∃ j, j < 17 ∧ 1 ≤ j ∧ pgA S.2.1 A i = S.2.1 + j ∧ pgN n ps xc i = if j < 6 then ps else n := by
        unfold pgN
        rcases pgA_c S.2.1 A i hi with ⟨z, e⟩ | ⟨z, e⟩ | ⟨z, z1, e⟩ | ⟨z, -⟩
        · exact ⟨6 + i, by omega, by omega, by rw [e]; omega, by rw [if_pos (by omega), if_neg (by omega)]⟩
        · exact ⟨16, by omega, by omega, e, by rw [if_pos (by omega), if_neg (by omega)]⟩
        · exact ⟨i - 10, by omega, by omega, e, by rw [if_neg (by omega), if_pos (by omega), if_pos (by omega)]⟩
        · omega
      obtain ⟨j, j1, j2, j3, j4⟩ := e1
      rw [j3, j4, v.2.2.2.2 j j1]
      unfold pgE
      rw [if_neg (by omega)]
    · have : i = 16 ∨ i = 17 ∨ i = 18 ∨ i = 19 ∨ i = 20 := by omega
      rcases this with e | e | e | e | e <;> subst e
      · exact nn p18 (fun z => by cases z)
      · exact nn p14 (fun z => by cases z)
      · exact nn p15 (fun z => by cases z)
      · exact nn p16 (fun z => by cases z)
      · exact nn p17 (fun z => by cases z)
  refine ⟨⟨v.1.1, rfl⟩, fun i hi => ⟨aa i hi, _, aa i hi⟩, fun i j hi hj ne e => ?_, ⟨?_, ?_⟩, fun _ _ _ => rfl, ⟨fs, v.2.1, hf.1, hf.2⟩, ⟨_, nn p6 (fun z => by cases z), by omega⟩⟩
  · rcases pgA_c S.2.1 A i hi with ⟨z, a⟩ | ⟨z, a⟩ | ⟨z, z1, a⟩ | ⟨z, k, k1, k2, a, k3, k4⟩ <;> rcases pgA_c S.2.1 A j hj with ⟨y, b⟩ | ⟨y, b⟩ | ⟨y, y1, b⟩ | ⟨y, l, l1, l2, b, l3, l4⟩
    all_goals (try (have := dl k k1 k2)); (try (have := dl l l1 l2)); (try omega)
    rw [a, b] at e
    have := hA k (by omega) l (by omega) e
    by_cases c1 : i = 16
    · have := k3 c1
      by_cases c2 : j = 16
      · omega
      · have := l4 c2
        omega
    · have := k4 c1
      by_cases c2 : j = 16
      · have := l3 c2
        omega
      · have := l4 c2
        omega
  · exact v.2.2.2.2 0 (by omega)
  · exact ⟨_, v.2.2.2.2 0 (by omega)⟩
theorem pg_w (h0 : hw S) (ho : hg_at S.1 o = some (.inr (9, pg0))) (hp1 : hg_at S.1 p1 = some (.inr (4, [.ref lx, .ref nm, .ref tn, .ref (A 5), .int ins, .int outs, .int q2]))) (d : DV G S (A 5) (A 6) (A 7) P n (fun i => (ND i).2.2.1) (fun i => (ND i).2.2.2.1) (A 17) xc (B 9) F D) (hA : inA A) (hpi : piv G S (A 6) (A 14) (A 15) (A 16) (A 17) (A 18) xc (B 6) (B 7) (B 8) (B 9) (B 10) made) (W : pcW names (B 6) (B 7) (B 8) (B 9) m) (hm : m ≤ 50000) (hmc : m ≤ xc) (hθ : ∀ V e, θ V e → 0 ≤ e.toInt ∧ e.toInt < (m : Int) ∧ 1 ≤ (B 9 e.toInt.toNat).toInt ∧ (B 9 e.toInt.toNat).toInt ≤ 2000) (st : sTo ND (B 9) n T i I F D) (hO : okT θ V T) (hw' : wfT T []) (hT : repC ND T i I) (cv : cov I 0 n) (hd : ((tpT T).map Prod.snd).Nodup) (ht : tdp T ≤ 26) (hwd : twd T ≤ 900) (hz : tsz T ≤ 1200) (h6 : ∀ j, F j 6 = (ND j).2.2.2.2.2.2) (hts : tsm (B 9) T ≤ 1000) (hQ : LPr True False (B 6) (B 7) (B 9) Q T 0 (-1) 1 (-1) 0 0) (hC : CPr Q T 0 []) (h62 : (Q 62 (tsz T)).toInt = pas T) {ps : Nat} (eps : ps = (tsm (B 9) T).toNat) (r1 : 17 ≤ S.2.2.1) (r2 : 6 + 5 * ps + 11 * n ≤ S.2.2.2) : dc_wp (hm_PG_init G S o (some p1)) (fun S' => hw S' ∧ S'.2 = (S.2.1 + 17, S.2.2.1 - 17, S.2.2.2 - (6 + 5 * ps + 11 * n)) ∧ (∀ b, b < S.2.1 → b ≠ o → (∀ i, 14 ≤ i → i < 19 → b ≠ A i) → hg_at S'.1 b = hg_at S.1 b) ∧ ∃ R', PGv G S' o nm S.2.1 (pgA S.2.1 A) (pgN n ps xc) R' (pgC ins outs D) (Int32.ofNat ps) ∧ rEq R' Q n ps) := by
  have tz := tsm_0 hθ T V hO
  have en := tsz_n hT cv
  have e4 : (D 4).toInt = tsm (B 9) T := st.2.2.2.2.2.2.2.1
  refine pga_w h0 ho hp1 d (ps := ps) (by omega) (by omega) (by omega) r1 r2 (fun S1 v1 => ?_)
  have lo : o < S.2.1 := h0.lt ho
  have n5 : A 5 < S.2.1 := h0.lt d.2.1
  obtain ⟨ee, md, cap, el, w7, -⟩ := d.2.2.2.2.1
  have n7 : A 7 < S.2.1 := h0.lt w7
  have nP : ∀ j, j < n → P j < S.2.1 := fun j hj => h0.lt (d.nd hj)
  have gv := pg_gv h0 ho hA hpi v1 ⟨rfl, fun i hi => by
    have : i = 0 ∨ i = 1 ∨ i = 2 ∨ i = 3 ∨ i = 4 ∨ i = 5 ∨ i = 6 ∨ i = 7 ∨ i = 8 ∨ i = 9 := by omega
    rcases this with e | e | e | e | e | e | e | e | e | e <;> subst e <;> rfl⟩
  have d1 : DV G S1 (A 5) (A 6) (A 7) P n (fun i => (ND i).2.2.1) (fun i => (ND i).2.2.2.1) (pgA S.2.1 A 20) xc (B 9) F D := DV_AV d ho v1
  have N1 : ∀ j, 16 ≤ j → j < 21 → m ≤ pgN n ps xc j := by
    intro j j1 j2
    unfold pgN
    rw [if_neg (by omega), if_neg (by omega)]
    exact hmc
  have N2 : ∀ j, 11 ≤ j → j < 15 → (tsm (B 9) T).toNat ≤ pgN n ps xc j := by
    intro j j1 j2
    unfold pgN
    rw [if_neg (by omega), if_pos (by omega), eps]
    exact Nat.le_refl _
  have key := pgl_w (Q := Q) (kk := B 6) (ff := B 7) (ss := B 8) (xx := B 9) d1 gv ⟨if_neg (by omega), if_neg (by omega), if_neg (by omega), if_neg (by omega)⟩ (by omega) (by omega) (by omega) (fun j hj => by have := nP j hj; omega) (fun j hj => if_pos hj) W hm N1 N2 hθ st hO hw' hT cv hd ht hwd hz h6 hts hQ hC h62
  have key : dc_wp (hm_PG_init_L158 G S1 o (some (A 5)) (Int32.ofNat n) (some (S.2.1 + 16)) 0) (fun S' => ∃ R', GV G S1 S' o S.2.1 (A 6) (pgA S.2.1 A) (pgN n ps xc) R' (Int32.ofNat (tsm (B 9) T).toNat) ∧ rEq R' Q n (tsm (B 9) T).toNat) := key
  refine dc_mono key ?_
  clear key
  rintro S2 ⟨R', v2, e2⟩
  rw [← eps] at v2 e2
  have no : o ≠ S.2.1 := by omega
  have o2 := v2.ob v1.2.1 no
  have ea : pgA S.2.1 A 0 = S.2.1 + 6 ∧ pgA S.2.1 A 1 = S.2.1 + 7 ∧ pgA S.2.1 A 2 = S.2.1 + 8 ∧ pgA S.2.1 A 3 = S.2.1 + 9 ∧ pgA S.2.1 A 4 = S.2.1 + 10 ∧ pgA S.2.1 A 5 = S.2.1 + 11 ∧ pgA S.2.1 A 6 = S.2.1 + 12 ∧ pgA S.2.1 A 7 = S.2.1 + 13 ∧ pgA S.2.1 A 8 = S.2.1 + 14 ∧ pgA S.2.1 A 9 = S.2.1 + 15 := ⟨if_pos (by omega), if_pos (by omega), if_pos (by omega), if_pos (by omega), if_pos (by omega), if_pos (by omega), if_pos (by omega), if_pos (by omega), if_pos (by omega), if_pos (by omega)⟩
  have ec : pgC ins outs D 1 = ins ∧ pgC ins outs D 2 = outs ∧ pgC ins outs D 3 = D 3 ∧ pgC ins outs D 4 = D 2 ∧ pgC ins outs D 5 = D 5 := ⟨rfl, rfl, rfl, rfl, rfl⟩
  refine ⟨v2.1.1, by rw [v2.1.2]; exact v1.2.2.1, fun b b1 b2 b3 => ?_, R', ⟨?_, v2.2.2.2.1.1, fun i hi _ => (v2.2.1 i (by omega)).1⟩, e2⟩
  rotate_left
  · rw [ec.1, ec.2.1, ec.2.2.1, ec.2.2.2.1, ec.2.2.2.2, ea.1, ea.2.1, ea.2.2.1, ea.2.2.2.1, ea.2.2.2.2.1, ea.2.2.2.2.2.1, ea.2.2.2.2.2.2.1, ea.2.2.2.2.2.2.2.1, ea.2.2.2.2.2.2.2.2.1, ea.2.2.2.2.2.2.2.2.2]
    exact o2
  refine (v2.2.2.2.2.1 b (fun i hi => ?_) (by omega)).trans (v1.2.2.2.1 b b1 b2)
  rcases pgA_c S.2.1 A i hi with ⟨z, a⟩ | ⟨z, a⟩ | ⟨z, z1, a⟩ | ⟨z, k, k1, k2, a, k3, k4⟩
  · omega
  · omega
  · omega
  · rw [a]
    exact b3 k k1 k2
end PGM
