/-- a node is laid: its place, its kind, its weight, the trap around it; what hangs it up stands apart -/
def sb_FA (S q : md_S) (r : Nat) (up w t : Int32) : Prop :=
  md_fr [42, 48] [51, 52, 53, 54, 56, 57, 58, 60] false false S q ∧ q.1 42 = S.1 42 + 1 ∧ q.1 48 = S.1 48 + w ∧
  q.2.1 51 = upd (S.2.1 51) (S.1 42).toInt.toNat (S.2.1 30 r) ∧ q.2.1 54 = upd (S.2.1 54) (S.1 42).toInt.toNat (S.2.1 33 r) ∧ q.2.1 58 = upd (S.2.1 58) (S.1 42).toInt.toNat up ∧ q.2.1 57 = upd (S.2.1 57) (S.1 42).toInt.toNat w ∧ q.2.1 60 = upd (S.2.1 60) (S.1 42).toInt.toNat t
def sb_d (b : Prop) [Decidable b] : Int32 := if b then 1 else 0
section LAY
variable {S : md_S} {x2 r up : Int32} {F : (md_S × Int32) ⊕ md_S → Prop}
theorem lay_A1 (h42 : 0 ≤ (S.1 42).toInt) (h42' : (S.1 42).toInt < 1200) (hr : 0 ≤ r.toInt ∧ r.toInt < 1200) {y0 w t : Int32} (hup : up = -1 ∨ (0 ≤ up.toInt ∧ up.toInt < (S.1 42).toInt))
    (hw : up = -1 → w = 1) (hw2 : ¬ up = -1 → w = S.2.1 57 up.toInt.toNat + (if S.2.1 51 up.toInt.toNat = 6 ∨ (S.2.1 51 up.toInt.toNat = 5 ∧ ¬ y0 = 0) then 1 else 0)) (ht : up = -1 → t = -1) (ht2 : ¬ up = -1 → t = if S.2.1 51 up.toInt.toNat = 8 then up else S.2.1 60 up.toInt.toNat)
    (k : ∀ q : md_S, sb_FA S q r.toInt.toNat up w t → q.2.1 52 = (if up = -1 ∨ ¬ y0 = 0 then upd (S.2.1 52) (S.1 42).toInt.toNat (-1) else upd (upd (S.2.1 52) (S.1 42).toInt.toNat (-1)) up.toInt.toNat (S.1 42)) → q.2.1 53 = (if up = -1 ∨ y0 = 0 then upd (S.2.1 53) (S.1 42).toInt.toNat (-1) else upd (upd (S.2.1 53) (S.1 42).toInt.toNat (-1)) up.toInt.toNat (S.1 42)) → dc_wp (mm_lay_I_L298 q x2 r (S.1 42)) F) : dc_wp (mm_lay_I_L69 S x2 r (S.1 42) up y0) F := by
  have L243 : ∀ q : md_S, md_fr [42] [51, 52, 53, 54, 56, 57, 58] false false S q → q.1 42 = S.1 42 + 1 → q.2.1 51 = upd (S.2.1 51) (S.1 42).toInt.toNat (S.2.1 30 r.toInt.toNat) → q.2.1 54 = upd (S.2.1 54) (S.1 42).toInt.toNat (S.2.1 33 r.toInt.toNat) → q.2.1 58 = upd (S.2.1 58) (S.1 42).toInt.toNat up → q.2.1 57 = upd (S.2.1 57) (S.1 42).toInt.toNat w → q.2.1 52 = upd (S.2.1 52) (S.1 42).toInt.toNat (-1) → q.2.1 53 = upd (S.2.1 53) (S.1 42).toInt.toNat (-1) → dc_wp (mm_lay_I_L243 q x2 r (S.1 42) up y0 t (S.1 42)) F := by
    intro q f c42 c51 c54 c58 c57 c52 c53
    unfold mm_lay_I_L243
    refine dc_ixT h42 h42' ?_
    refine dc_letB ?_; intro S33 h33
    refine dc_ixT h42 h42' ?_
    refine dc_letB ?_; intro S35 h35
    have g1 : ∀ j, ¬ j = 48 → S35.1 j = q.1 j := fun j hj => by rw [h35, h33, md_i1, if_neg hj]; rfl
    have g2 : S35.1 48 = S.1 48 + w := by
      rw [h35, h33, md_i1, if_pos rfl]
      show q.1 48 + q.2.1 57 _ = _
      rw [c57, sb_up, f.1 48 (by decide)]
    have g3 : ∀ j, ¬ j = 60 → S35.2.1 j = q.2.1 j := fun j hj => by rw [h35, h33]; show (md_a q 60 _ t).2.1 j = _; rw [md_a2, if_neg hj]
    have g4 : S35.2.1 60 = upd (S.2.1 60) (S.1 42).toInt.toNat t := by
      rw [h35, h33]; show upd (q.2.1 60) _ t = _; rw [f.2.1 60 (by decide)]
    have g5 : S35.2.2 = q.2.2 := by rw [h35, h33]; rfl
    clear h35 h33
    have fa : ∀ q2 : md_S, q2.1 = S35.1 → q2.2.2 = S35.2.2 → (∀ j, ¬ j = 52 → ¬ j = 53 → q2.2.1 j = S35.2.1 j) → sb_FA S q2 r.toInt.toNat up w t := by
      intro q2 d1 d2 d3
      refine ⟨⟨fun j hj => ?_, fun j hj => ?_, fun _ => by rw [d2, g5]; exact f.2.2.1 rfl, fun _ => by rw [d2, g5]; exact f.2.2.2 rfl⟩, ?_, ?_, ?_, ?_, ?_, ?_, ?_⟩
      · simp only [List.mem_cons, List.mem_nil_iff, or_false, not_or] at hj
        rw [d1, g1 j hj.2]; exact f.1 j (by simp only [List.mem_cons, List.mem_nil_iff, or_false]; exact hj.1)
      · simp only [List.mem_cons, List.mem_nil_iff, or_false, not_or] at hj
        rw [d3 j hj.2.1 hj.2.2.1, g3 j hj.2.2.2.2.2.2.2]
        exact f.2.1 j (by simp only [List.mem_cons, List.mem_nil_iff, or_false, not_or]; exact ⟨hj.1, hj.2.1, hj.2.2.1, hj.2.2.2.1, hj.2.2.2.2.1, hj.2.2.2.2.2.1, hj.2.2.2.2.2.2.1⟩)
      · rw [d1, g1 42 (by decide)]; exact c42
      · rw [d1]; exact g2
      · rw [d3 51 (by decide) (by decide), g3 51 (by decide)]; exact c51
      · rw [d3 54 (by decide) (by decide), g3 54 (by decide)]; exact c54
      · rw [d3 58 (by decide) (by decide), g3 58 (by decide)]; exact c58
      · rw [d3 57 (by decide) (by decide), g3 57 (by decide)]; exact c57
      · rw [d3 60 (by decide) (by decide)]; exact g4
    have L283 : (up = -1 ∨ y0 = 0) → dc_wp (mm_lay_I_L283 S35 x2 r (S.1 42) up) F := by
      intro hz
      unfold mm_lay_I_L283
      refine dc_ifI (fun h1 => ?_) (fun h1 => ?_)
      · refine k S35 (fa S35 rfl rfl (fun _ _ _ => rfl)) ?_ ?_
        · rw [if_pos (.inl h1), g3 52 (by decide)]; exact c52
        · rw [if_pos (.inl h1), g3 53 (by decide)]; exact c53
      · have hup := hup.resolve_left h1
        have hy := hz.resolve_left h1
        refine dc_ixT hup.1 (by show up.toInt < 1200; omega) ?_
        refine dc_letB ?_; intro S31 h31
        have e1 : S31.1 = S35.1 := by rw [h31]; rfl
        have e2 : S31.2.2 = S35.2.2 := by rw [h31]; rfl
        have e3 : ∀ j, ¬ j = 52 → S31.2.1 j = S35.2.1 j := fun j hj => by rw [h31, md_a2, if_neg hj]
        have e4 : S31.2.1 52 = upd (S35.2.1 52) up.toInt.toNat (S.1 42) := by rw [h31]; rfl
        refine k S31 (fa S31 e1 e2 (fun j hj _ => e3 j hj)) ?_ ?_
        · rw [if_neg (fun h => h.elim h1 (fun h => h hy)), e4, g3 52 (by decide), c52]
        · rw [if_pos (.inr hy), e3 53 (by decide), g3 53 (by decide)]; exact c53
    refine dc_ifI (fun h1 => L283 (.inl h1)) (fun h1 => ?_)
    refine dc_ifI (fun h2 => L283 (.inr h2)) (fun h2 => ?_)
    have hup := hup.resolve_left h1
    refine dc_ixT hup.1 (by show up.toInt < 1200; omega) ?_
    refine dc_letB ?_; intro S31 h31
    have e1 : S31.1 = S35.1 := by rw [h31]; rfl
    have e2 : S31.2.2 = S35.2.2 := by rw [h31]; rfl
    have e3 : ∀ j, ¬ j = 53 → S31.2.1 j = S35.2.1 j := fun j hj => by rw [h31, md_a2, if_neg hj]
    have e4 : S31.2.1 53 = upd (S35.2.1 53) up.toInt.toNat (S.1 42) := by rw [h31]; rfl
    refine k S31 (fa S31 e1 e2 (fun j _ hj => e3 j hj)) ?_ ?_
    · rw [if_pos (.inr h2), e3 52 (by decide), g3 52 (by decide)]; exact c52
    · rw [if_neg (fun h => h.elim h1 h2), e4, g3 53 (by decide), c53]
  -- the kinds of a parent are those of before
  have L202 : ∀ q : md_S, md_fr [42] [51, 52, 53, 54, 56, 58] false false S q → q.1 42 = S.1 42 + 1 → q.2.1 51 = upd (S.2.1 51) (S.1 42).toInt.toNat (S.2.1 30 r.toInt.toNat) → q.2.1 54 = upd (S.2.1 54) (S.1 42).toInt.toNat (S.2.1 33 r.toInt.toNat) → q.2.1 58 = upd (S.2.1 58) (S.1 42).toInt.toNat up → q.2.1 52 = upd (S.2.1 52) (S.1 42).toInt.toNat (-1) → q.2.1 53 = upd (S.2.1 53) (S.1 42).toInt.toNat (-1) → dc_wp (mm_lay_I_L202 q x2 r (S.1 42) up y0 w (S.1 42)) F := by
    intro q f c42 c51 c54 c58 c52 c53
    unfold mm_lay_I_L202
    refine dc_ixT h42 h42' ?_
    refine dc_letB ?_; intro S39 h39
    have g1 : S39.1 = q.1 := by rw [h39]; rfl
    have g2 : S39.2.2 = q.2.2 := by rw [h39]; rfl
    have g3 : ∀ j, ¬ j = 57 → S39.2.1 j = q.2.1 j := fun j hj => by rw [h39, md_a2, if_neg hj]
    have g4 : S39.2.1 57 = upd (S.2.1 57) (S.1 42).toInt.toNat w := by rw [h39]; show upd (q.2.1 57) _ w = _; rw [f.2.1 57 (by decide)]
    clear h39
    have ok : dc_wp (mm_lay_I_L243 S39 x2 r (S.1 42) up y0 t (S.1 42)) F := by
      refine L243 S39 ⟨fun j hj => by rw [g1]; exact f.1 j hj, fun j hj => ?_, fun _ => by rw [g2]; exact f.2.2.1 rfl, fun _ => by rw [g2]; exact f.2.2.2 rfl⟩ (by rw [g1]; exact c42) ?_ ?_ ?_ g4 ?_ ?_
      · simp only [List.mem_cons, List.mem_nil_iff, or_false, not_or] at hj
        rw [g3 j hj.2.2.2.2.2.1]
        exact f.2.1 j (by simp only [List.mem_cons, List.mem_nil_iff, or_false, not_or]; exact ⟨hj.1, hj.2.1, hj.2.2.1, hj.2.2.2.1, hj.2.2.2.2.1, hj.2.2.2.2.2.2⟩)
      · rw [g3 51 (by decide)]; exact c51
      · rw [g3 54 (by decide)]; exact c54
      · rw [g3 58 (by decide)]; exact c58
      · rw [g3 52 (by decide)]; exact c52
      · rw [g3 53 (by decide)]; exact c53
    refine dc_ifI (fun h1 => ?_) (fun h1 => ?_)
    · rw [ht h1] at ok; exact ok
    · have hup := hup.resolve_left h1
      have hne : ¬ up.toInt.toNat = (S.1 42).toInt.toNat := by omega
      have k51 : S39.2.1 51 up.toInt.toNat = S.2.1 51 up.toInt.toNat := by rw [g3 51 (by decide), c51, sb_dn _ _ hne]
      refine dc_ixT hup.1 (by show up.toInt < 1200; omega) ?_
      rw [k51]
      have ht2 := ht2 h1
      refine dc_ifI (fun h2 => ?_) (fun h2 => ?_)
      · rw [if_pos h2] at ht2; rw [ht2] at ok; exact ok
      · rw [if_neg h2] at ht2
        refine dc_ixT hup.1 (by show up.toInt < 1200; omega) ?_
        rw [g3 60 (by decide), f.2.1 60 (by decide), ← ht2]
        exact ok
  unfold mm_lay_I_L69
  refine dc_letB ?_; intro S42 h42s
  refine dc_ixT hr.1 hr.2 ?_
  refine dc_ixT h42 h42' ?_
  refine dc_letB ?_; intro S45 h45
  refine dc_ixT hr.1 hr.2 ?_
  refine dc_ixT h42 h42' ?_
  refine dc_letB ?_; intro S48 h48
  refine dc_ixT hr.1 hr.2 ?_
  refine dc_ixT h42 h42' ?_
  refine dc_letB ?_; intro S51 h51
  refine dc_ixT h42 h42' ?_
  refine dc_letB ?_; intro S53 h53
  refine dc_ixT h42 h42' ?_
  refine dc_letB ?_; intro S55 h55
  refine dc_ixT h42 h42' ?_
  refine dc_letB ?_; intro S57 h57
  have f : md_fr [42] [51, 52, 53, 54, 56, 58] false false S S57 := by
    refine ⟨fun j hj => ?_, fun j hj => ?_, fun _ => by rw [h57, h55, h53, h51, h48, h45, h42s]; rfl, fun _ => by rw [h57, h55, h53, h51, h48, h45, h42s]; rfl⟩
    · rw [h57, h55, h53, h51, h48, h45, h42s]
      show (md_i S 42 _).1 j = _
      rw [md_i1]; exact if_neg (fun h => hj (by rw [h]; decide))
    · simp only [List.mem_cons, List.mem_nil_iff, or_false, not_or] at hj
      rw [h57, h55, h53, h51, h48, h45, h42s, md_a2, if_neg hj.2.2.2.2.2, md_a2, if_neg hj.2.1, md_a2, if_neg hj.2.2.1, md_a2, if_neg hj.2.2.2.2.1, md_a2, if_neg hj.2.2.2.1, md_a2, if_neg hj.1]; rfl
  have c42 : S57.1 42 = S.1 42 + 1 := by rw [h57, h55, h53, h51, h48, h45, h42s]; rfl
  have c51 : S57.2.1 51 = upd (S.2.1 51) (S.1 42).toInt.toNat (S.2.1 30 r.toInt.toNat) := by rw [h57, h55, h53, h51, h48, h45, h42s]; rfl
  have c54 : S57.2.1 54 = upd (S.2.1 54) (S.1 42).toInt.toNat (S.2.1 33 r.toInt.toNat) := by rw [h57, h55, h53, h51, h48, h45, h42s]; rfl
  have c58 : S57.2.1 58 = upd (S.2.1 58) (S.1 42).toInt.toNat up := by rw [h57, h55, h53, h51, h48, h45, h42s]; rfl
  have c52 : S57.2.1 52 = upd (S.2.1 52) (S.1 42).toInt.toNat (-1) := by rw [h57, h55, h53, h51, h48, h45, h42s]; rfl
  have c53 : S57.2.1 53 = upd (S.2.1 53) (S.1 42).toInt.toNat (-1) := by rw [h57, h55, h53, h51, h48, h45, h42s]; rfl
  clear h57 h55 h53 h51 h48 h45 h42s
  have ok := L202 S57 f c42 c51 c54 c58 c52 c53
  refine dc_ifI (fun h1 => ?_) (fun h1 => ?_)
  · rw [hw h1] at ok; exact ok
  · have hup := hup.resolve_left h1
    have hne : ¬ up.toInt.toNat = (S.1 42).toInt.toNat := by omega
    have k51 : S57.2.1 51 up.toInt.toNat = S.2.1 51 up.toInt.toNat := by rw [c51, sb_dn _ _ hne]
    have k57 : S57.2.1 57 up.toInt.toNat = S.2.1 57 up.toInt.toNat := by rw [f.2.1 57 (by decide)]
    have hw2 := hw2 h1
    refine dc_ixT hup.1 (by show up.toInt < 1200; omega) ?_
    refine dc_ixT hup.1 (by show up.toInt < 1200; omega) ?_
    rw [k51, k57]
    refine dc_ifI (fun h2 => ?_) (fun h2 => ?_)
    · rw [if_pos (.inl h2)] at hw2; rw [hw2] at ok; exact ok
    · refine dc_ixT hup.1 (by show up.toInt < 1200; omega) ?_
      rw [k51]
      refine dc_ifI (fun h3 => ?_) (fun h3 => ?_)
      · refine dc_ifI (fun h4 => ?_) (fun h4 => ?_)
        · rw [if_neg (fun h => h.elim h2 (fun h => h.2 h4))] at hw2; rw [hw2] at ok; exact ok
        · rw [if_pos (.inr ⟨h3, h4⟩)] at hw2; rw [hw2] at ok; exact ok
      · rw [if_neg (fun h => h.elim h2 (fun h => h3 h.1))] at hw2; rw [hw2] at ok; exact ok
end LAY
