def sb_RQ (S q : md_S) : Prop := md_fr [78, 79, 80, 81] [67, 71, 72, 73, 75] false false S q ∧ sb_RW q ∧ q.1 79 = S.1 79
theorem sb_RQ_PE {S q : md_S} (h : md_fr [78, 79, 80, 81] [67, 71, 72, 73, 75] false false S q) : sb_PE S q := sb_PE_fr h (by decide) (by decide)
theorem sb_RQ_RV {S q : md_S} (h : sb_RQ S q) (v : sb_RV S) : sb_RV q := ⟨sb_PE_PF (sb_RQ_PE h.1) v.1, h.2.1, by rw [h.1.2.1 74 (by decide)]; exact v.2.2⟩
theorem sb_RQ_tr {S q r : md_S} (h : sb_RQ S q) (k : sb_RQ q r) : sb_RQ S r := ⟨md_fr_tr h.1 k.1 (by decide), k.2.1, k.2.2.trans h.2.2⟩
theorem sb_RQ_ND {S q : md_S} (h : sb_RQ S q) {k g : Nat} {w : Int} (l : sb_ND S k g w) : sb_ND q k g w := sb_PE_ND (sb_RQ_PE h.1) l
theorem sb_RQ_out {S q : md_S} {a b : Int32} (h : sb_RQ S q) : sb_RQ S (md_i (md_i q 81 a) 80 b) := by
  refine ⟨⟨fun k hk => ?_, h.1.2.1, h.1.2.2.1, h.1.2.2.2⟩, h.2.1, h.2.2⟩
  simp only [List.mem_cons, List.mem_nil_iff, or_false, not_or] at hk
  rw [md_i1, if_neg hk.2.2.1, md_i1, if_neg hk.2.2.2]; exact h.1.1 k (by simp only [List.mem_cons, List.mem_nil_iff, or_false, not_or]; exact hk)
theorem sb_RQ_rf {S : md_S} (v : sb_RW S) : sb_RQ S S := ⟨md_fr_rf, v, rfl⟩
def sb_WY (S : md_S) (w : Int) (p : Int32) : Prop := ¬ p = 0 → 1 ≤ (S.1 79).toInt ∧ (S.1 79).toInt ≤ 1 + w
theorem sb_WY_RQ {S q : md_S} {w w2 : Int} {p : Int32} (h : sb_RQ S q) (hw : w ≤ w2) (y : sb_WY S w p) : sb_WY q w2 p := fun hp => by rw [h.2.2]; have := y hp; omega
theorem sb_WY_mono {S : md_S} {w w2 : Int} {p : Int32} (hw : w ≤ w2) (y : sb_WY S w p) : sb_WY S w2 p := fun hp => by have := y hp; omega
def sb_bo (p : Int32) : Prop := p = 0 ∨ p = 1
section NDK
variable {S : md_S} {k h : Nat} {w : Int}
theorem nd_w (l : sb_ND S k h w) : (S.2.1 57 k).toInt = w := by
  obtain ⟨n, t, c, l, b⟩ := l
  cases n with
  | zero => exact l.elim
  | succ n => unfold sb_L at l; exact l.1.1
theorem nd_kind (l : sb_ND S k h w) : (S.2.1 51 k = 0 ∨ S.2.1 51 k = 1 ∨ S.2.1 51 k = 2 ∨ S.2.1 51 k = 9) ∨ S.2.1 51 k = 3 ∨ S.2.1 51 k = 4 ∨ S.2.1 51 k = 5 ∨ S.2.1 51 k = 6 ∨ S.2.1 51 k = 7 ∨ S.2.1 51 k = 8 ∨ S.2.1 51 k = 10 := by
  obtain ⟨n, t, c, l, b⟩ := l
  cases n with
  | zero => exact l.elim
  | succ n =>
    unfold sb_L at l
    rcases l.2 with ⟨_, _, _, _, a | a | a | a⟩ | ⟨c1, _, _, _, _, a | a | a | a⟩ | ⟨c1, c2, _, _, _, _, _, a | ⟨a | a, _⟩⟩
    · exact .inl (.inl a)
    · exact .inl (.inr (.inl a.1))
    · exact .inl (.inr (.inr (.inl a.1)))
    · exact .inl (.inr (.inr (.inr a)))
    · exact .inr (.inr (.inl a.1))
    · exact .inr (.inr (.inr (.inr (.inl a.1))))
    · exact .inr (.inr (.inr (.inr (.inr (.inr (.inl a.1))))))
    · exact .inr (.inr (.inr (.inr (.inr (.inr (.inr a.1))))))
    · exact .inr (.inl a.1)
    · exact .inr (.inr (.inr (.inl a)))
    · exact .inr (.inr (.inr (.inr (.inr (.inl a)))))
theorem k_ne {x a b : Int32} (h : x = a) (hn : ¬ a = b) (k : x = b) : False := hn (h.symm.trans k)
theorem nd_leaf (l : sb_ND S k h w) (hk : S.2.1 51 k = 0 ∨ S.2.1 51 k = 1 ∨ S.2.1 51 k = 2 ∨ S.2.1 51 k = 9) : 1 ≤ h ∧ (S.2.1 51 k = 1 → 0 ≤ (S.2.1 54 k).toInt ∧ (S.2.1 54 k).toInt < (S.1 47).toInt) ∧ (S.2.1 51 k = 2 → 0 ≤ (S.2.1 54 k).toInt ∧ (S.2.1 54 k).toInt < 400) := by
  obtain ⟨n, t, c, l, b⟩ := l
  cases n with
  | zero => exact l.elim
  | succ n =>
    unfold sb_L at l
    rcases l.2 with ⟨_, h1, _, _, a | a | a | a⟩ | ⟨c1, _, _, _, _, a | a | a | a⟩ | ⟨c1, c2, _, _, _, _, _, a | ⟨a, _⟩⟩
    · exact ⟨h1, fun e => (k_ne a (by decide) e).elim, fun e => (k_ne a (by decide) e).elim⟩
    · exact ⟨h1, fun _ => a.2, fun e => (k_ne a.1 (by decide) e).elim⟩
    · exact ⟨h1, fun e => (k_ne a.1 (by decide) e).elim, fun _ => a.2⟩
    · exact ⟨h1, fun e => (k_ne a (by decide) e).elim, fun e => (k_ne a (by decide) e).elim⟩
    all_goals (exfalso; rcases hk with e | e | e | e <;> first | exact k_ne a.1 (by decide) e | (rcases a with a | a <;> exact k_ne a (by decide) e))
theorem nd_un (l : sb_ND S k h w) (hk : S.2.1 51 k = 4 ∨ S.2.1 51 k = 6 ∨ S.2.1 51 k = 8) : (S.2.1 52 k).toInt = (k : Int) + 1 ∧ (S.2.1 51 k = 4 → sb_PR S (S.2.1 54 k)) ∧ ∃ g w2, g + 2 ≤ h ∧ w ≤ w2 ∧ sb_ND S (k + 1) g w2 := by
  obtain ⟨n, t, c, l, b⟩ := l
  cases n with
  | zero => exact l.elim
  | succ n =>
    unfold sb_L at l
    rcases l.2 with ⟨_, h1, _, _, a | a | a | a⟩ | ⟨c1, e0, e1, _, _, a | a | a | a⟩ | ⟨c1, c2, _, _, _, _, _, a | ⟨a, _⟩⟩
    · exfalso; rcases hk with e | e | e <;> exact k_ne a (by decide) e
    · exfalso; rcases hk with e | e | e <;> exact k_ne a.1 (by decide) e
    · exfalso; rcases hk with e | e | e <;> exact k_ne a.1 (by decide) e
    · exfalso; rcases hk with e | e | e <;> exact k_ne a (by decide) e
    · obtain ⟨a1, a2, g, a3, a4⟩ := a
      exact ⟨e1, fun _ => a2, g, w, a3, Int.le_refl _, n, t, c1, a4, by omega⟩
    · obtain ⟨a1, g, a3, a4⟩ := a
      exact ⟨e1, fun e => (k_ne a1 (by decide) e).elim, g, w + 1, a3, by omega, n, t, c1, a4, by omega⟩
    · obtain ⟨a1, g, a3, a4⟩ := a
      exact ⟨e1, fun e => (k_ne a1 (by decide) e).elim, g, w, a3, Int.le_refl _, n, _, c1, a4, by omega⟩
    · exfalso; rcases hk with e | e | e <;> exact k_ne a.1 (by decide) e
    · exfalso; rcases hk with e | e | e <;> exact k_ne a.1 (by decide) e
    · exfalso; rcases a with a | a <;> rcases hk with e | e | e <;> exact k_ne a (by decide) e
theorem nd_local (l : sb_ND S k h w) (hk : S.2.1 51 k = 10) : (S.2.1 52 k).toInt = (k : Int) + 1 ∧ (0 ≤ (S.2.1 54 k).toInt ∧ (S.2.1 54 k).toInt < 400) ∧ sb_ND S (k + 1) h w := by
  obtain ⟨n, t, c, l, b⟩ := l
  cases n with
  | zero => exact l.elim
  | succ n =>
    unfold sb_L at l
    rcases l.2 with ⟨_, h1, _, _, a | a | a | a⟩ | ⟨c1, e0, e1, _, _, a | a | a | a⟩ | ⟨c1, c2, _, _, _, _, _, a | ⟨a, _⟩⟩
    · exact (k_ne a (by decide) hk).elim
    · exact (k_ne a.1 (by decide) hk).elim
    · exact (k_ne a.1 (by decide) hk).elim
    · exact (k_ne a (by decide) hk).elim
    · exact (k_ne a.1 (by decide) hk).elim
    · exact (k_ne a.1 (by decide) hk).elim
    · exact (k_ne a.1 (by decide) hk).elim
    · obtain ⟨a1, a2, a4⟩ := a
      exact ⟨e1, a2, n, t, c1, a4, by omega⟩
    · exact (k_ne a.1 (by decide) hk).elim
    · rcases a with a | a <;> exact (k_ne a (by decide) hk).elim
theorem nd_pres (l : sb_ND S k h w) (hk : S.2.1 51 k = 3) : (S.2.1 52 k).toInt = (k : Int) + 1 ∧ sb_PR S (S.2.1 54 k) ∧ ∃ m g : Nat, (S.2.1 53 k).toInt = (m : Int) ∧ g + 2 ≤ h ∧ sb_ND S (k + 1) g w ∧ sb_ND S m g w := by
  obtain ⟨n, t, c, l, b⟩ := l
  cases n with
  | zero => exact l.elim
  | succ n =>
    unfold sb_L at l
    rcases l.2 with ⟨_, h1, _, _, a | a | a | a⟩ | ⟨c1, e0, e1, _, _, a | a | a | a⟩ | ⟨c1, c2, e0, e1, e2, _, _, a | ⟨a, _⟩⟩
    · exact (k_ne a (by decide) hk).elim
    · exact (k_ne a.1 (by decide) hk).elim
    · exact (k_ne a.1 (by decide) hk).elim
    · exact (k_ne a (by decide) hk).elim
    · exact (k_ne a.1 (by decide) hk).elim
    · exact (k_ne a.1 (by decide) hk).elim
    · exact (k_ne a.1 (by decide) hk).elim
    · exact (k_ne a.1 (by decide) hk).elim
    · obtain ⟨a1, a2, g, a3, a4, a5⟩ := a
      exact ⟨e1, a2, k + 1 + c1, g, by rw [e2]; omega, a3, ⟨n, t, c1, a4, by omega⟩, ⟨n, t, c2, a5, by omega⟩⟩
    · rcases a with a | a <;> exact (k_ne a (by decide) hk).elim
theorem nd_two (l : sb_ND S k h w) (hk : S.2.1 51 k = 5 ∨ S.2.1 51 k = 7) : (S.2.1 52 k).toInt = (k : Int) + 1 ∧ (S.2.1 58 (k + 1)).toInt = (k : Int) ∧ (∃ g, (g + 3 ≤ h ∨ (g ≤ h ∧ S.2.1 51 (k + 1) = S.2.1 51 k)) ∧ sb_ND S (k + 1) g w) ∧ ∃ m g : Nat, ∃ w2, (S.2.1 53 k).toInt = (m : Int) ∧ g + 3 ≤ h ∧ w ≤ w2 ∧ sb_ND S m g w2 := by
  obtain ⟨n, t, c, l, b⟩ := l
  cases n with
  | zero => exact l.elim
  | succ n =>
    unfold sb_L at l
    rcases l.2 with ⟨_, h1, _, _, a | a | a | a⟩ | ⟨c1, e0, e1, _, _, a | a | a | a⟩ | ⟨c1, c2, e0, e1, e2, e3, _, a | ⟨a, _, ⟨g, a2, a3⟩, g2, a4, a5⟩⟩
    · exfalso; rcases hk with e | e <;> exact k_ne a (by decide) e
    · exfalso; rcases hk with e | e <;> exact k_ne a.1 (by decide) e
    · exfalso; rcases hk with e | e <;> exact k_ne a.1 (by decide) e
    · exfalso; rcases hk with e | e <;> exact k_ne a (by decide) e
    · exfalso; rcases hk with e | e <;> exact k_ne a.1 (by decide) e
    · exfalso; rcases hk with e | e <;> exact k_ne a.1 (by decide) e
    · exfalso; rcases hk with e | e <;> exact k_ne a.1 (by decide) e
    · exfalso; rcases hk with e | e <;> exact k_ne a.1 (by decide) e
    · exfalso; rcases hk with e | e <;> exact k_ne a.1 (by decide) e
    · refine ⟨e1, e3, ⟨g, a2, n, t, c1, a3, by omega⟩, k + 1 + c1, g2, _, by rw [e2]; omega, a4, ?_, n, t, c2, a5, by omega⟩
      split <;> omega
end NDK
def mm_SP3 (T : mm_T3) (d : Nat) : Prop :=
  (∀ S (k p2 p3 : Int32) (h : Nat) (w : Int), sb_RV S → 0 ≤ k.toInt → sb_ND S k.toInt.toNat h w → h ≤ d → sb_WY S w p2 → sb_bo p3 → dc_wp (T.1 S k p2 p3) (sb_RQ S)) ∧
  (∀ S (k p2 p3 : Int32) (h : Nat) (w : Int), sb_RV S → 0 ≤ k.toInt → sb_ND S k.toInt.toNat h w → S.2.1 51 k.toInt.toNat = 3 → h ≤ d + 1 → sb_WY S w p2 → sb_bo p3 → dc_wp (T.2.1 S k p2 p3) (sb_RQ S)) ∧
  (∀ S (k p2 p3 : Int32) (h : Nat) (w : Int), sb_RV S → 0 ≤ k.toInt → sb_ND S k.toInt.toNat h w → S.2.1 51 k.toInt.toNat = 4 → h ≤ d + 1 → sb_WY S w p2 → sb_bo p3 → dc_wp (T.2.2.1 S k p2 p3) (sb_RQ S)) ∧
  (∀ S (k p2 p3 : Int32) (h : Nat) (w : Int), sb_RV S → 0 ≤ k.toInt → sb_ND S k.toInt.toNat h w → S.2.1 51 k.toInt.toNat = 5 → h ≤ d + 1 → sb_WY S w p2 → sb_bo p3 → dc_wp (T.2.2.2.1 S k p2 p3) (sb_RQ S)) ∧
  (∀ S (k th p2 p3 : Int32) (h : Nat) (w : Int), sb_RV S → 0 ≤ k.toInt → k.toInt < (S.1 42).toInt → (S.2.1 57 k.toInt.toNat).toInt ≤ w → 0 ≤ th.toInt → sb_ND S th.toInt.toNat h w → h + 1 ≤ d → sb_WY S w p2 → sb_bo p3 → dc_wp (T.2.2.2.2.1 S k th p2 p3) (sb_RQ S)) ∧
  (∀ S (k p2 p3 : Int32) (h : Nat) (w : Int), sb_RV S → 0 ≤ k.toInt → sb_ND S k.toInt.toNat h w → S.2.1 51 k.toInt.toNat = 7 → h ≤ d + 1 → sb_WY S w p2 → sb_bo p3 → dc_wp (T.2.2.2.2.2.1 S k p2 p3) (sb_RQ S)) ∧
  (∀ S (k p2 p3 : Int32) (h : Nat) (w : Int), sb_RV S → 0 ≤ k.toInt → sb_ND S k.toInt.toNat h w → h + 1 ≤ d → sb_WY S w p2 → sb_bo p3 → dc_wp (T.2.2.2.2.2.2.1 S k p2 p3) (sb_RQ S)) ∧
  (∀ S (k p2 p3 : Int32) (h : Nat) (w : Int), sb_RV S → 0 ≤ k.toInt → sb_ND S k.toInt.toNat h w → S.2.1 51 k.toInt.toNat = 8 → h ≤ d + 1 → sb_WY S w p2 → sb_bo p3 → dc_wp (T.2.2.2.2.2.2.2 S k p2 p3) (sb_RQ S))
theorem sb_k1 {x y : Int32} {k : Nat} (h : y.toInt = (k : Int)) : y.toInt.toNat = k := by omega
theorem sb_42 {S : md_S} (v : sb_RV S) : (S.1 42).toInt ≤ 1200 := v.1.1.1.2
theorem sb_ix {S : md_S} (v : sb_RV S) {k : Int32} {h : Nat} {w : Int} (h0 : 0 ≤ k.toInt) (l : sb_ND S k.toInt.toNat h w) : k.toInt < ((1200 : Nat) : Int) := by
  have := sb_ND_lt l; have := sb_42 v; show k.toInt < 1200; omega
theorem rg_side {T : mm_T3} {d : Nat} (hT : mm_SP3 T d) (S : md_S) (k p2 p3 : Int32) (h : Nat) (w : Int) (v : sb_RV S) (h0 : 0 ≤ k.toInt) (l : sb_ND S k.toInt.toNat h w) (hd : h + 1 ≤ d + 1) (y : sb_WY S w p2) (b : sb_bo p3) : dc_wp (mm_side T S k p2 p3) (sb_RQ S) := by
  have L12 : dc_wp (mm_side_L12 T S k p2 p3) (sb_RQ S) := by
    unfold mm_side_L12
    exact dc_callI (hT.1 S k p2 p3 h w v h0 l (by omega) y b) (fun q r => dc_ret r)
  have L33 : ∀ a b : Int32, dc_wp (mm_side_L33 T S a b) (sb_RQ S) := by
    intro a b
    unfold mm_side_L33
    refine dc_callI (mm_outcome_l S b a) ?_
    rintro q rfl
    exact dc_ret (sb_RQ_out (sb_RQ_rf v.2.1))
  unfold mm_side
  refine dc_ifI (fun _ => ?_) (fun _ => L12)
  refine dc_callI (mm_has_l v.1 h0 (by have := sb_ND_lt l; omega)) (fun q _ => ?_)
  refine dc_ifI (fun _ => ?_) (fun _ => L12)
  exact dc_ifI (fun _ => L33 _ _) (fun _ => L33 _ _)
theorem rg_behind {T : mm_T3} {d : Nat} (hT : mm_SP3 T d) (S : md_S) (k th p2 p3 : Int32) (h : Nat) (w : Int) (v : sb_RV S) (h0 : 0 ≤ k.toInt) (h1 : k.toInt < (S.1 42).toInt) (hw : (S.2.1 57 k.toInt.toNat).toInt ≤ w) (t0 : 0 ≤ th.toInt) (l : sb_ND S th.toInt.toNat h w) (hd : h + 1 ≤ d + 1) (y : sb_WY S w p2) (b : sb_bo p3) : dc_wp (mm_behind T S k th p2 p3) (sb_RQ S) := by
  have L86 : ∀ (x5 x6 x7 y0 y1 : Int32), (1 ≤ y1.toInt ∧ y1.toInt ≤ 1 + w) → sb_bo y0 → dc_wp (mm_behind_L86 T (md_i S 79 y1) x5 x6 x7 (S.1 79) y0 1 th) (sb_RQ S) := by
    intro x5 x6 x7 y0 y1 hy hb
    have f : md_fr [78, 79, 80, 81] [67, 71, 72, 73, 75] false false S (md_i S 79 y1) := by
      refine ⟨fun j hj => ?_, fun _ _ => rfl, fun _ => rfl, fun _ => rfl⟩
      rw [md_i1]; exact if_neg (fun h => hj (by rw [h]; decide))
    have e := sb_RQ_PE f
    have v1 : sb_RV (md_i S 79 y1) := ⟨sb_PE_PF e v.1, v.2.1, v.2.2⟩
    unfold mm_behind_L86
    refine dc_callI (hT.1 _ th 1 y0 h w v1 t0 (sb_PE_ND e l) (by omega) (fun _ => hy) hb) (fun q2 r => ?_)
    refine dc_letB ?_; intro S3 h3
    have r3 : sb_RQ S S3 := by
      refine ⟨?_, by rw [h3]; exact r.2.1, by rw [h3]; rfl⟩
      refine md_fr_tr (md_fr_tr f r.1 (by decide)) (wi' := [79]) (wa' := []) (bw' := false) (bt' := false) ⟨fun j hj => ?_, fun _ _ => by rw [h3]; rfl, fun _ => by rw [h3]; rfl, fun _ => by rw [h3]; rfl⟩ (by decide)
      rw [h3, md_i1]; exact if_neg (fun h => hj (by rw [h]; decide))
    have L117 : ∀ a b : Int32, dc_wp (mm_behind_L117 T S3 a b) (sb_RQ S) := by
      intro a b
      unfold mm_behind_L117
      refine dc_callI (mm_outcome_l S3 b a) ?_
      rintro q rfl
      exact dc_ret (sb_RQ_out r3)
    exact dc_ifI (fun _ => L117 _ _) (fun _ => L117 _ _)
  have L65 : ∀ (x5 x6 x7 y1 : Int32), (1 ≤ y1.toInt ∧ y1.toInt ≤ 1 + w) → dc_wp (mm_behind_L65 T S th p3 x5 x6 x7 (S.1 79) y1) (sb_RQ S) := by
    intro x5 x6 x7 y1 hy
    unfold mm_behind_L65
    refine dc_letB ?_; rintro _ rfl
    refine dc_ifI (fun _ => L86 _ _ _ _ _ hy (.inl rfl)) (fun _ => ?_)
    exact dc_ifI (fun _ => L86 _ _ _ _ _ hy (.inl rfl)) (fun _ => L86 _ _ _ _ _ hy (.inr rfl))
  have L31 : ∀ (x5 y0 : Int32), dc_wp (mm_behind_L31 T S k th p2 p3 x5 y0) (sb_RQ S) := by
    intro x5 y0
    unfold mm_behind_L31
    refine dc_letB ?_; rintro _ rfl
    refine dc_letB ?_; rintro _ rfl
    refine dc_ifI (fun _ => ?_) (fun hp => L65 _ _ _ _ (y hp))
    refine dc_ixT h0 (by have := sb_42 v; show k.toInt < 1200; omega) ?_
    have hb := (v.1.2.2.1 k.toInt.toNat (by omega)).1
    refine L65 _ _ _ _ ?_
    have := sb_42 v
    have e : (1 + S.2.1 57 k.toInt.toNat).toInt = 1 + (S.2.1 57 k.toInt.toNat).toInt := by
      have := ar2 (x := 1) (y := S.2.1 57 k.toInt.toNat) (by decide) (by decide) (by omega) (by omega)
      rw [this, il_1]
    omega
  unfold mm_behind
  refine dc_ifI (fun _ => dc_ret (sb_RQ_rf v.2.1)) (fun _ => ?_)
  refine dc_letB ?_; rintro _ rfl
  exact dc_ifI (fun _ => L31 _ _) (fun _ => L31 _ _)
theorem rg_present {T : mm_T3} {d : Nat} (hT : mm_SP3 T d) (S : md_S) (k p2 p3 : Int32) (h : Nat) (w : Int) (v : sb_RV S) (h0 : 0 ≤ k.toInt) (l : sb_ND S k.toInt.toNat h w) (hk : S.2.1 51 k.toInt.toNat = 3) (hd : h ≤ d + 1 + 1) (y : sb_WY S w p2) (b : sb_bo p3) : dc_wp (mm_present_IZZ T S k p2 p3) (sb_RQ S) := by
  obtain ⟨e1, pr, m, g, e2, hg, l1, l2⟩ := nd_pres l hk
  have kx := sb_ix v h0 l
  have f0 : 0 ≤ (S.2.1 52 k.toInt.toNat).toInt := by omega
  have s0 : 0 ≤ (S.2.1 53 k.toInt.toNat).toInt := by omega
  have l1' : sb_ND S (S.2.1 52 k.toInt.toNat).toInt.toNat g w := by rw [show (S.2.1 52 k.toInt.toNat).toInt.toNat = k.toInt.toNat + 1 by omega]; exact l1
  have l2' : sb_ND S (S.2.1 53 k.toInt.toNat).toInt.toNat g w := by rw [show (S.2.1 53 k.toInt.toNat).toInt.toNat = m by omega]; exact l2
  unfold mm_present_IZZ
  refine dc_ifI (fun hp => ?_) (fun hp => ?_)
  · have y0 : sb_WY S w 0 := fun h => absurd rfl h
    refine dc_ixT h0 kx ?_
    refine dc_callI (mm_has_l v.1 f0 (by have := sb_ND_lt l1'; omega)) (fun q _ => ?_)
    refine dc_ifI (fun _ => ?_) (fun _ => ?_)
    · refine dc_ixT h0 kx ?_
      unfold mm_present_IZZ_L33
      exact dc_callI (hT.1 S _ 0 p3 g w v s0 l2' (by omega) y0 b) (fun q r => dc_ret r)
    · refine dc_ixT h0 kx ?_
      unfold mm_present_IZZ_L33
      exact dc_callI (hT.1 S _ 0 p3 g w v f0 l1' (by omega) y0 b) (fun q r => dc_ret r)
  · refine dc_ixT h0 kx ?_
    refine dc_callI (dc_wpw (mm_truth_l v.1 v.2.1 pr) (mm_truth_fr S _)) ?_
    rintro q8 ⟨_, f8⟩
    have r8 : sb_RQ S q8.1 := ⟨md_fr_sub f8 (by decide) (by decide), ⟨by rw [f8.2.1 73 (by decide)]; exact v.2.1.1, by rw [f8.2.1 71 (by decide)]; exact v.2.1.2⟩, f8.1 79 (by decide)⟩
    have v8 := sb_RQ_RV r8 v
    have y1 : sb_WY q8.1 w 1 := fun _ => by rw [r8.2.2]; exact y hp
    refine dc_ifI (fun _ => ?_) (fun _ => ?_)
    · refine dc_ixT h0 kx ?_
      rw [f8.2.1 52 (by decide)]
      refine dc_callI (hT.1 q8.1 _ 1 0 g w v8 f0 (sb_RQ_ND r8 l1') (by omega) y1 (.inl rfl)) (fun q10 r10 => ?_)
      refine dc_letB ?_; rintro _ rfl
      refine dc_ixT h0 kx ?_
      have r10' := sb_RQ_tr r8 r10
      rw [r10'.1.2.1 53 (by decide)]
      refine dc_callI (hT.1 q10 _ 1 0 g w (sb_RQ_RV r10' v) s0 (sb_RQ_ND r10' l2') (by omega) (fun _ => by rw [r10.2.2]; exact y1 (by decide)) (.inl rfl)) (fun q13 r13 => ?_)
      refine dc_callI (mm_outcome_l q13 _ _) ?_
      rintro q rfl
      exact dc_ret (sb_RQ_out (sb_RQ_tr r10' r13))
    · refine dc_ifI (fun _ => ?_) (fun _ => ?_)
      · refine dc_ixT h0 kx ?_
        rw [f8.2.1 52 (by decide)]
        unfold mm_present_IZZ_L79
        exact dc_callI (hT.1 q8.1 _ 1 p3 g w v8 f0 (sb_RQ_ND r8 l1') (by omega) y1 b) (fun q r => dc_ret (sb_RQ_tr r8 r))
      · refine dc_ixT h0 kx ?_
        rw [f8.2.1 53 (by decide)]
        unfold mm_present_IZZ_L79
        exact dc_callI (hT.1 q8.1 _ 1 p3 g w v8 s0 (sb_RQ_ND r8 l2') (by omega) y1 b) (fun q r => dc_ret (sb_RQ_tr r8 r))
theorem inc_b {x : Int32} {n : Int} (h0 : 0 ≤ x.toInt) (h : x.toInt < n) (hn : n ≤ 100000) : (x + 1).toInt = x.toInt + 1 := ar1 h0 (by omega)
theorem rg_clear {S : md_S} {k : Nat} (v : sb_RV S) (hk : (k : Int) < (S.1 42).toInt) : (0 ≤ (S.2.1 62 k).toInt ∧ (S.2.1 62 k).toInt ≤ 200) ∧ (0 ≤ (S.2.1 59 k).toInt ∧ (S.2.1 59 k).toInt ≤ 1200) ∧ (0 ≤ (S.2.1 62 (S.2.1 59 k).toInt.toNat).toInt ∧ (S.2.1 62 (S.2.1 59 k).toInt.toNat).toInt ≤ 200) := by
  obtain ⟨⟨⟨_, p1⟩, _, _, _, _, _, ⟨_, p2⟩, _⟩, _, p3, p4, _⟩ := v.1
  have a := (p3 k hk).2
  have b := p4 k (by omega)
  have c := p4 (S.2.1 59 k).toInt.toNat (by omega)
  exact ⟨⟨b.1, by omega⟩, ⟨by omega, by omega⟩, ⟨c.1, by omega⟩⟩
theorem rg_trapped {T : mm_T3} {d : Nat} (hT : mm_SP3 T d) (S : md_S) (k p2 p3 : Int32) (h : Nat) (w : Int) (v : sb_RV S) (h0 : 0 ≤ k.toInt) (l : sb_ND S k.toInt.toNat h w) (hk : S.2.1 51 k.toInt.toNat = 8) (hd : h ≤ d + 1 + 1) (y : sb_WY S w p2) (b : sb_bo p3) : dc_wp (mm_trapped T S k p2 p3) (sb_RQ S) := by
  obtain ⟨e1, _, g, w2, hg, hw, l1⟩ := nd_un l (.inr (.inr hk))
  have kx := sb_ix v h0 l
  have f0 : 0 ≤ (S.2.1 52 k.toInt.toNat).toInt := by omega
  have l1' : sb_ND S (S.2.1 52 k.toInt.toNat).toInt.toNat g w2 := by rw [show (S.2.1 52 k.toInt.toNat).toInt.toNat = k.toInt.toNat + 1 by omega]; exact l1
  have hkl := sb_ND_lt l
  obtain ⟨a1, a2, a3⟩ := rg_clear v hkl
  unfold mm_trapped
  refine dc_ixT h0 kx ?_
  refine dc_callI (hT.1 S _ p2 p3 g w2 v f0 l1' (by omega) (sb_WY_mono hw y) b) (fun q8 r8 => ?_)
  refine dc_ixT h0 (by show k.toInt < 1201; omega) ?_
  refine dc_letB ?_; intro v10 h10
  rw [r8.1.2.1 62 (by decide)] at h10
  unfold mm_trapped_L20
  refine dc_loopI (fun z => sb_RQ S z.1 ∧ (0 ≤ z.2.toInt ∧ z.2.toInt ≤ 200)) (fun z => (200 - z.2.toInt).toNat) ⟨r8, by rw [h10]; exact a1⟩ ?_
  rintro ⟨S1, x4⟩ ⟨r1, hx⟩
  replace hx : 0 ≤ x4.toInt ∧ x4.toInt ≤ 200 := hx
  replace r1 : sb_RQ S S1 := r1
  have L58 : dc_wp (mm_trapped_L58 T S1) (sb_RQ S) := by
    have L99 : ∀ a b : Int32, dc_wp (mm_trapped_L99 T S1 a b) (sb_RQ S) := by
      intro a b
      unfold mm_trapped_L99
      refine dc_callI (mm_outcome_l S1 b a) ?_
      rintro q rfl
      exact dc_ret (sb_RQ_out r1)
    unfold mm_trapped_L58
    refine dc_callI (mm_caught_s _) (fun q2 _ => ?_)
    refine dc_ifI (fun _ => L99 _ _) (fun _ => ?_)
    exact dc_ifI (fun _ => L99 _ _) (fun _ => L99 _ _)
  unfold mm_trapped_s20 mm_trapped_b20
  refine dc_ixT h0 kx ?_
  rw [r1.1.2.1 59 (by decide), r1.1.2.1 62 (by decide)]
  refine dc_ixT a2.1 (by show _ < (1201 : Int); omega) ?_
  refine dc_ifI (fun hlt => ?_) (fun _ => dc_ret L58)
  have hlt : x4.toInt < (S.2.1 62 (S.2.1 59 k.toInt.toNat).toInt.toNat).toInt := i_lt.mp hlt
  refine dc_ifI (fun _ => ?_) (fun _ => dc_ret L58)
  refine dc_ixT hx.1 (by show x4.toInt < 200; omega) ?_
  refine dc_letB ?_; intro S6 h6
  have e := ar1 hx.1 (by omega)
  refine dc_ret ⟨⟨⟨⟨fun j hj => by rw [h6]; exact r1.1.1 j hj, fun j hj => ?_, fun _ => by rw [h6]; exact r1.1.2.2.1 rfl, fun _ => by rw [h6]; exact r1.1.2.2.2 rfl⟩, by rw [h6]; exact r1.2.1, by rw [h6]; exact r1.2.2⟩, by show 0 ≤ (x4 + 1).toInt ∧ (x4 + 1).toInt ≤ 200; omega⟩, ?_⟩
  · rw [h6, md_a2, if_neg (fun h => hj (by rw [h]; decide))]; exact r1.1.2.1 j hj
  · show (200 - (x4 + 1).toInt).toNat < (200 - x4.toInt).toNat
    rw [e]; exact inc_ms hx.1 (by omega)
