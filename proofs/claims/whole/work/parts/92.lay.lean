/-- what lies in a laid tree is laid -/
theorem sb_L_all {S : md_S} : ∀ (n : Nat) {h : Nat} {w : Int} {t : Int32} {k c : Nat}, sb_L S n h w t k c → ∀ j : Nat, k ≤ j → j < k + c → ∃ n2 h2 w2 t2 c2, sb_L S n2 h2 w2 t2 j c2 ∧ j + c2 ≤ k + c := by
  intro n
  induction n with
  | zero => intro h w t k c hl; exact hl.elim
  | succ n ih =>
    intro h w t k c hl j h1 h2
    by_cases hj : j = k
    · subst hj; exact ⟨n + 1, h, w, t, c, hl, Nat.le_refl _⟩
    · have y1 : k + 1 ≤ j := by omega
      unfold sb_L at hl
      have one : ∀ {g : Nat} {w' : Int} {t' : Int32} {k' c' : Nat}, sb_L S n g w' t' k' c' → k' ≤ j → j < k' + c' → k' + c' ≤ k + c → ∃ n2 h2 w2 t2 c2, sb_L S n2 h2 w2 t2 j c2 ∧ j + c2 ≤ k + c := by
        intro g w' t' k' c' l a b d
        obtain ⟨n2, h2, w2, t2, c2, l2, e⟩ := ih l j a b
        exact ⟨n2, h2, w2, t2, c2, l2, by omega⟩
      rcases hl.2 with ⟨a, _⟩ | ⟨c1, a, b1, b2, d, e⟩ | ⟨c1, c2, a, b1, b2, d, d2, e⟩
      · omega
      · have y2 : j < k + 1 + c1 := by omega
        have y3 : k + 1 + c1 ≤ k + c := by omega
        rcases e with ⟨e, f, g, g1, l⟩ | ⟨e, g, g1, l⟩ | ⟨e, g, g1, l⟩ | ⟨e, f, l⟩ <;> exact one l y1 y2 y3
      · have y3 : k + 1 + c1 ≤ k + c := by omega
        have y4 : k + 1 + c1 + c2 ≤ k + c := by omega
        have y5 : j < k + 1 + c1 + c2 := by omega
        by_cases hz : j < k + 1 + c1
        · rcases e with ⟨e, f, g, g1, l, l2⟩ | ⟨e, f, ⟨g, g1, l⟩, g2, g3, l2⟩ <;> exact one l y1 hz y3
        · have y6 : k + 1 + c1 ≤ j := by omega
          rcases e with ⟨e, f, g, g1, l, l2⟩ | ⟨e, f, ⟨g, g1, l⟩, g2, g3, l2⟩ <;> exact one l2 y6 y5 y4
/-- where its children are -/
theorem sb_L_ch {S : md_S} {n h : Nat} {w : Int} {t : Int32} {k c : Nat} (hl : sb_L S n h w t k c) : (S.2.1 52 k = -1 ∨ ((S.2.1 52 k).toInt = (k : Int) + 1 ∧ k + 1 < k + c)) ∧ (S.2.1 53 k = -1 ∨ ((k : Int) + 1 < (S.2.1 53 k).toInt ∧ (S.2.1 53 k).toInt < ((k + c : Nat) : Int))) := by
  cases n with
  | zero => exact hl.elim
  | succ n =>
    unfold sb_L at hl
    rcases hl.2 with ⟨a, b, c, d, _⟩ | ⟨c1, a, b, c, d, e⟩ | ⟨c1, c2, a, b, c, d, d2, e⟩
    · exact ⟨.inl c, .inl d⟩
    · have p1 : 1 ≤ c1 := by
        rcases e with ⟨_, _, g, _, l⟩ | ⟨_, g, _, l⟩ | ⟨_, g, _, l⟩ | ⟨_, _, l⟩ <;> exact sb_L_pos l
      exact ⟨.inr ⟨b, by omega⟩, .inl c⟩
    · have p1 : 1 ≤ c1 ∧ 1 ≤ c2 := by
        rcases e with ⟨_, _, g, _, l, l2⟩ | ⟨_, _, ⟨g, _, l⟩, g2, _, l2⟩ <;> exact ⟨sb_L_pos l, sb_L_pos l2⟩
      exact ⟨.inr ⟨b, by omega⟩, .inr ⟨by omega, by omega⟩⟩
/-- a code more -/
def sb_CO (S q : md_S) (k : Nat) : Prop := md_fr [] [54, 55, 59] false false S q ∧ (∀ j : Nat, ¬ j = k → q.2.1 54 j = S.2.1 54 j ∧ q.2.1 59 j = S.2.1 59 j) ∧ (¬ S.2.1 51 k = 9 → q.2.1 54 k = S.2.1 54 k) ∧ ((k : Int) < (q.2.1 59 k).toInt ∧ (q.2.1 59 k).toInt ≤ (S.1 42).toInt)
theorem mm_then_l (a b : Int32) : dc_wp (mm_then a b) (fun _ => True) := by
  unfold mm_then mm_then_L16
  exact dc_ifI (fun _ => dc_ret trivial) (fun _ => dc_ret trivial)
theorem mm_code_l {S : md_S} {p : Int32} (h0 : 0 ≤ p.toInt) (h1 : p.toInt < (S.1 42).toInt) (h2 : (S.1 42).toInt ≤ 1200)
    (c1 : S.2.1 52 p.toInt.toNat = -1 ∨ ((S.2.1 52 p.toInt.toNat).toInt = p.toInt + 1 ∧ p.toInt + 1 < (S.1 42).toInt)) (c2 : S.2.1 53 p.toInt.toNat = -1 ∨ (p.toInt + 1 < (S.2.1 53 p.toInt.toNat).toInt ∧ (S.2.1 53 p.toInt.toNat).toInt < (S.1 42).toInt))
    (hl : ∀ j : Nat, p.toInt < (j : Int) → (j : Int) < (S.1 42).toInt → (j : Int) < (S.2.1 59 j).toInt ∧ (S.2.1 59 j).toInt ≤ (S.1 42).toInt)
    (hx : S.2.1 51 p.toInt.toNat = 9 → ∃ m, sb_ch S m (S.2.1 60 p.toInt.toNat) (S.2.1 54 p.toInt.toNat)) : dc_wp (mm_code S p) (fun q => sb_CO S q p.toInt.toNat) := by
  have hp : p.toInt < ((1200 : Nat) : Int) := by omega
  have L108 : ∀ (x2 x3 y0 : Int32), p.toInt < y0.toInt → y0.toInt ≤ (S.1 42).toInt → dc_wp (mm_code_L108 S p x2 x3 y0 p) (fun q => sb_CO S q p.toInt.toNat) := by
    intro x2 x3 y0 hy hy2
    unfold mm_code_L108
    refine dc_ixT h0 hp ?_
    refine dc_letB ?_; intro S11 h11
    have f11 : md_fr [] [59] false false S S11 := by
      refine ⟨fun j _ => by rw [h11]; rfl, fun j hj => ?_, fun _ => by rw [h11]; rfl, fun _ => by rw [h11]; rfl⟩
      rw [h11, md_a2]; exact if_neg (fun h => hj (by rw [h]; decide))
    have c59 : S11.2.1 59 = upd (S.2.1 59) p.toInt.toNat y0 := by rw [h11]; rfl
    clear h11
    refine dc_ixT h0 hp ?_
    refine dc_letB ?_; intro v hv
    rw [f11.2.1 51 (by decide)] at hv
    have co : ∀ q : md_S, md_fr [] [54, 55] false false S11 q → (∀ j : Nat, ¬ j = p.toInt.toNat → q.2.1 54 j = S11.2.1 54 j) → (¬ S.2.1 51 p.toInt.toNat = 9 → q.2.1 54 p.toInt.toNat = S11.2.1 54 p.toInt.toNat) → sb_CO S q p.toInt.toNat := by
      intro q f d1 d2
      refine ⟨md_fr_tr (md_fr_tr (wi := []) (wa := [54, 55, 59]) (bw := false) (bt := false) md_fr_rf f11 (by decide)) f (by decide), fun j hj => ?_, fun h => ?_, ?_⟩
      · rw [d1 j hj, f.2.1 59 (by decide), c59, sb_dn _ _ hj, f11.2.1 54 (by decide)]; exact ⟨rfl, rfl⟩
      · rw [d2 h, f11.2.1 54 (by decide)]
      · rw [f.2.1 59 (by decide), c59, sb_up]; omega
    have one : ∀ (x : Int32), dc_wp ((dc_ix p 1200).bind fun j14 => dc_let (md_a S11 55 j14 x) fun S15 => mm_code_L322 S15) (fun q => sb_CO S q p.toInt.toNat) := by
      intro x
      refine dc_ixT h0 hp ?_
      refine dc_letB ?_; intro S15 h15
      have f : md_fr [] [55] false false S11 S15 := by
        refine ⟨fun j _ => by rw [h15]; rfl, fun j hj => ?_, fun _ => by rw [h15]; rfl, fun _ => by rw [h15]; rfl⟩
        rw [h15, md_a2]; exact if_neg (fun h => hj (by rw [h]; decide))
      exact dc_ret (co S15 (md_fr_sub f (by decide) (by decide)) (fun j _ => by rw [f.2.1 54 (by decide)]) (fun _ => by rw [f.2.1 54 (by decide)]))
    refine dc_ifI (fun _ => one _) (fun _ => ?_)
    refine dc_ifI (fun _ => one _) (fun _ => ?_)
    refine dc_ifI (fun _ => one _) (fun _ => ?_)
    refine dc_ifI (fun _ => one _) (fun _ => ?_)
    refine dc_ifI (fun _ => one _) (fun _ => ?_)
    refine dc_ifI (fun _ => dc_callI (mm_then_l _ _) (fun q _ => one q)) (fun _ => ?_)
    refine dc_ifI (fun _ => one _) (fun _ => ?_)
    refine dc_ifI (fun _ => dc_callI (mm_pairs_s _ _) (fun q _ => one q)) (fun _ => ?_)
    refine dc_ifI (fun _ => dc_callI (mm_caught_s _) (fun q _ => one q)) (fun _ => ?_)
    refine dc_ifI (fun h9 => ?_) (fun _ => one _)
    rw [hv] at h9
    obtain ⟨m, hm⟩ := hx h9
    refine dc_ixT h0 hp ?_
    refine dc_letB ?_; intro v45 h45
    rw [f11.2.1 54 (by decide)] at h45
    refine dc_ixT h0 hp ?_
    refine dc_letB ?_; intro S47 h47
    refine dc_ixT h0 hp ?_
    refine dc_letB ?_; intro v49 h49
    have f47 : md_fr [] [54, 55] false false S11 S47 ∧ ∀ j : Nat, ¬ j = p.toInt.toNat → S47.2.1 54 j = S11.2.1 54 j := by
      refine ⟨⟨fun j _ => by rw [h47]; rfl, fun j hj => ?_, fun _ => by rw [h47]; rfl, fun _ => by rw [h47]; rfl⟩, fun j hj => ?_⟩
      · rw [h47, md_a2]; exact if_neg (fun h => hj (by rw [h]; decide))
      · rw [h47]; exact sb_dn _ _ hj
    rw [f47.1.2.1 60 (by decide), f11.2.1 60 (by decide)] at h49
    rw [← h49, ← h45] at hm
    clear h49 h45 h47
    unfold mm_code_L211
    refine dc_bindI ?_
    -- out from trap to trap
    have go : ∀ (m : Nat) (q : md_S) (t : Int32), (md_fr [] [54, 55] false false S11 q ∧ ∀ j : Nat, ¬ j = p.toInt.toNat → q.2.1 54 j = S11.2.1 54 j) → sb_ch S m t v45 → dc_wp (dc_it (mm_code_s211 p v45) (q, t)) (fun z => dc_wp (mm_code_L245 z p) (fun q => sb_CO S q p.toInt.toNat)) := by
      intro m
      induction m with
      | zero => intro q t _ h; exact h.elim
      | succ m ih =>
        intro q t hq ht
        unfold sb_ch at ht
        obtain ⟨⟨b1, b2⟩, b3, b4⟩ := ht
        have htp : ¬ t.toInt.toNat = p.toInt.toNat := fun e => by rw [e, h9] at b3; exact absurd b3 (by decide)
        refine dc_it1 ?_
        show dc_wp (mm_code_b211 q p v45 t) _
        unfold mm_code_b211
        refine dc_ixT b1 (by show t.toInt < 1200; omega) ?_
        rw [hq.2 _ htp, f11.2.1 54 (by decide)]
        refine dc_ifI (fun _ => ?_) (fun hn => ?_)
        · refine dc_ret ?_
          show dc_wp (mm_code_L245 q p) _
          unfold mm_code_L245
          refine dc_ixT h0 hp ?_
          refine dc_ixT h0 hp ?_
          refine dc_letB ?_; intro S3 h3
          refine dc_ret (co S3 ⟨fun j hj => by rw [h3]; exact hq.1.1 j hj, fun j hj => ?_, fun _ => by rw [h3]; exact hq.1.2.2.1 rfl, fun _ => by rw [h3]; exact hq.1.2.2.2 rfl⟩ (fun j hj => by rw [h3]; exact hq.2 j hj) (fun h => absurd h9 h))
          rw [h3, md_a2, if_neg (fun h => hj (by rw [h]; decide))]; exact hq.1.2.1 j hj
        · have b4 := b4.resolve_left hn
          refine dc_ixT h0 hp ?_
          refine dc_ixT h0 hp ?_
          refine dc_letB ?_; intro S7 h7
          refine dc_ixT b1 (by show t.toInt < 1200; omega) ?_
          refine dc_letB ?_; intro v9 hv9
          have q7 : md_fr [] [54, 55] false false S11 S7 ∧ ∀ j : Nat, ¬ j = p.toInt.toNat → S7.2.1 54 j = S11.2.1 54 j := by
            refine ⟨⟨fun j hj => by rw [h7]; exact hq.1.1 j hj, fun j hj => ?_, fun _ => by rw [h7]; exact hq.1.2.2.1 rfl, fun _ => by rw [h7]; exact hq.1.2.2.2 rfl⟩, fun j hj => ?_⟩
            · rw [h7, md_a2, if_neg (fun h => hj (by rw [h]; decide))]; exact hq.1.2.1 j hj
            · rw [h7]; show upd (q.2.1 54) _ _ j = _; rw [sb_dn _ _ hj]; exact hq.2 j hj
          rw [q7.1.2.1 60 (by decide), f11.2.1 60 (by decide)] at hv9
          rw [← hv9] at b4
          exact dc_ret (ih S7 v9 q7 b4)
    exact go m S47 v49 f47 hm
  have L51 : ∀ (x2 y0 : Int32), dc_wp (mm_code_L51 S p x2 y0) (fun q => sb_CO S q p.toInt.toNat) := by
    intro x2 y0
    unfold mm_code_L51
    refine dc_ixT h0 hp ?_
    refine dc_ifI (fun e2 => ?_) (fun e2 => ?_)
    · refine dc_ixT h0 hp ?_
      refine dc_ifI (fun e1 => ?_) (fun e1 => ?_)
      · exact L108 _ _ _ (by rw [ar1 h0 (by omega)]; omega) (by rw [ar1 h0 (by omega)]; omega)
      · have c1 := c1.resolve_left e1
        refine dc_ixT h0 hp ?_
        refine dc_ixT (by omega) (by show (S.2.1 52 p.toInt.toNat).toInt < 1200; omega) ?_
        have := hl (S.2.1 52 p.toInt.toNat).toInt.toNat (by omega) (by omega)
        exact L108 _ _ _ (by omega) (by omega)
    · have c2 := c2.resolve_left e2
      refine dc_ixT h0 hp ?_
      refine dc_ixT (by omega) (by show (S.2.1 53 p.toInt.toNat).toInt < 1200; omega) ?_
      have := hl (S.2.1 53 p.toInt.toNat).toInt.toNat (by omega) (by omega)
      exact L108 _ _ _ (by omega) (by omega)
  have L25 : ∀ y0 : Int32, dc_wp (mm_code_L25 S p y0) (fun q => sb_CO S q p.toInt.toNat) := by
    intro y0
    unfold mm_code_L25
    refine dc_ixT h0 hp ?_
    refine dc_ifI (fun _ => L51 _ _) (fun e2 => ?_)
    have c2 := c2.resolve_left e2
    refine dc_ixT h0 hp ?_
    exact dc_ixT (by omega) (by show (S.2.1 53 p.toInt.toNat).toInt < 1200; omega) (L51 _ _)
  unfold mm_code
  refine dc_ixT h0 hp ?_
  refine dc_ifI (fun _ => L25 _) (fun e1 => ?_)
  have c1 := c1.resolve_left e1
  refine dc_ixT h0 hp ?_
  exact dc_ixT (by omega) (by show (S.2.1 52 p.toInt.toNat).toInt < 1200; omega) (L25 _)
