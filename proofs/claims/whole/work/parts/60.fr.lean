/-! what a told program leaves as it was; written by wip/gen/fr.py -/
def dc_pw {τ : Type} (E : Option τ) (F : τ → Prop) : Prop := ∀ q, E = some q → F q
theorem dc_wpw {τ : Type} {E : Option τ} {F G : τ → Prop} (h : dc_wp E F) (g : dc_pw E G) : dc_wp E (fun q => F q ∧ G q) := by
  obtain ⟨q, e, hf⟩ := h
  exact ⟨q, e, hf, g q e⟩
theorem pw_some {τ : Type} {q : τ} {F : τ → Prop} (h : F q) : dc_pw (some q) F := fun _ e => by cases e; exact h
theorem pw_any {τ ρ : Type} {E : Option τ} {f : τ → Option ρ} {F : ρ → Prop} (k : ∀ q, dc_pw (f q) F) : dc_pw (E.bind f) F := by
  intro q e
  cases E with
  | none => cases e
  | some v => exact k v q e
theorem pw_bind {τ ρ : Type} {E : Option τ} {f : τ → Option ρ} {P : τ → Prop} {F : ρ → Prop} (h : dc_pw E P) (k : ∀ q, P q → dc_pw (f q) F) : dc_pw (E.bind f) F := by
  intro q e
  cases E with
  | none => cases e
  | some v => exact k v (h v rfl) q e
theorem pw_if {τ : Type} {c : Prop} [Decidable c] {E1 E2 : Option τ} {F : τ → Prop} (k1 : dc_pw E1 F) (k2 : dc_pw E2 F) : dc_pw (if c then E1 else E2) F := by
  by_cases h : c
  · rw [if_pos h]; exact k1
  · rw [if_neg h]; exact k2
theorem pw_none {τ : Type} {F : τ → Prop} : dc_pw (none : Option τ) F := fun _ e => by cases e
theorem pw_let {α τ : Type} {e : α} {f : α → Option τ} {F : τ → Prop} (k : ∀ x, dc_pw (f x) F) : dc_pw (dc_let e f) F := k e
theorem pw_loop {α β ρ : Type} {step : α → Option (α ⊕ β)} {f : β → Option ρ} {x : α} {F : ρ → Prop} (I : α → Prop) (B : β → Prop) (h0 : I x) (hs : ∀ x, I x → dc_pw (step x) (Sum.elim I B)) (hc : ∀ z, B z → dc_pw (f z) F) : dc_pw ((dc_it step x).bind f) F := by
  refine pw_bind (P := B) ?_ hc
  intro b e
  obtain ⟨n, hn⟩ := dc_it_iff.mp e
  clear e
  revert x
  induction n with
  | zero => intro x _ h; cases h
  | succ n ih =>
    intro x hx h
    unfold dc_itN at h
    revert h
    cases hq : step x with
    | none => intro h; cases h
    | some q =>
      cases q with
      | inl y => intro h; exact ih (hs x hx _ hq) h
      | inr z => intro h; cases h; exact hs x hx _ hq
def md_fr (wi wa : List Nat) (bw bt : Bool) (S q : md_S) : Prop := (∀ k, k ∉ wi → q.1 k = S.1 k) ∧ (∀ k, k ∉ wa → q.2.1 k = S.2.1 k) ∧ (bw = false → q.2.2.1 = S.2.2.1) ∧ (bt = false → q.2.2.2 = S.2.2.2)
section MDFR
variable {wi wa : List Nat} {bw bt : Bool} {S0 S : md_S} {τ : Type} {F : τ → Prop} {f : md_S → Option τ}
theorem md_fr_rf : md_fr wi wa bw bt S S := ⟨fun _ _ => rfl, fun _ _ => rfl, fun _ => rfl, fun _ => rfl⟩
theorem md_fr_tr {wi' wa' : List Nat} {bw' bt' : Bool} {q : md_S} (h : md_fr wi wa bw bt S0 S) (h2 : md_fr wi' wa' bw' bt' S q) (hs : (wi'.all (fun k => wi.contains k) && wa'.all (fun k => wa.contains k) && (!bw' || bw) && (!bt' || bt)) = true) : md_fr wi wa bw bt S0 q := by
  simp only [Bool.and_eq_true, List.all_eq_true, List.contains_iff_mem, Bool.or_eq_true, Bool.not_eq_true'] at hs
  obtain ⟨⟨⟨a, b⟩, c⟩, d⟩ := hs
  refine ⟨fun k hk => (h2.1 k (fun hm => hk (a k hm))).trans (h.1 k hk), fun k hk => (h2.2.1 k (fun hm => hk (b k hm))).trans (h.2.1 k hk), fun e => ?_, fun e => ?_⟩
  · rcases c with c | c
    · exact (h2.2.2.1 c).trans (h.2.2.1 e)
    · rw [e] at c; cases c
  · rcases d with d | d
    · exact (h2.2.2.2 d).trans (h.2.2.2 e)
    · rw [e] at d; cases d
theorem pwS_i {k : Nat} {v : Int32} (hk : wi.contains k = true) (hf : md_fr wi wa bw bt S0 S) (kk : ∀ S1, md_fr wi wa bw bt S0 S1 → dc_pw (f S1) F) : dc_pw (dc_let (md_i S k v) f) F :=
  kk (md_i S k v) ⟨fun j hj => (if_neg (fun (e : j = k) => hj (e ▸ List.contains_iff_mem.mp hk))).trans (hf.1 j hj), hf.2⟩
theorem pwS_a {k i : Nat} {v : Int32} (hk : wa.contains k = true) (hf : md_fr wi wa bw bt S0 S) (kk : ∀ S1, md_fr wi wa bw bt S0 S1 → dc_pw (f S1) F) : dc_pw (dc_let (md_a S k i v) f) F :=
  kk (md_a S k i v) ⟨hf.1, fun j hj => (if_neg (fun (e : j = k) => hj (e ▸ List.contains_iff_mem.mp hk))).trans (hf.2.1 j hj), hf.2.2⟩
theorem pwS_w {v : Int64} (hf : md_fr wi wa true bt S0 S) (kk : ∀ S1, md_fr wi wa true bt S0 S1 → dc_pw (f S1) F) : dc_pw (dc_let (md_w S v) f) F :=
  kk (md_w S v) ⟨hf.1, hf.2.1, fun e => (by cases e), hf.2.2.2⟩
theorem pwS_t {i : Nat} {v : Int64} (hf : md_fr wi wa bw true S0 S) (kk : ∀ S1, md_fr wi wa bw true S0 S1 → dc_pw (f S1) F) : dc_pw (dc_let (md_t S i v) f) F :=
  kk (md_t S i v) ⟨hf.1, hf.2.1, hf.2.2.1, fun e => by cases e⟩
theorem pwS_call {ρ : Type} {wi' wa' : List Nat} {bw' bt' : Bool} {E : Option (md_S × ρ)} {g : md_S × ρ → Option τ} (h : dc_pw E (fun q => md_fr wi' wa' bw' bt' S q.1)) (hs : (wi'.all (fun k => wi.contains k) && wa'.all (fun k => wa.contains k) && (!bw' || bw) && (!bt' || bt)) = true) (hf : md_fr wi wa bw bt S0 S) (kk : ∀ q, md_fr wi wa bw bt S0 q.1 → dc_pw (g q) F) : dc_pw (E.bind g) F :=
  pw_bind h (fun q hq => kk q (md_fr_tr hf hq hs))
theorem pwS_callv {wi' wa' : List Nat} {bw' bt' : Bool} {E : Option md_S} {g : md_S → Option τ} (h : dc_pw E (fun q => md_fr wi' wa' bw' bt' S q)) (hs : (wi'.all (fun k => wi.contains k) && wa'.all (fun k => wa.contains k) && (!bw' || bw) && (!bt' || bt)) = true) (hf : md_fr wi wa bw bt S0 S) (kk : ∀ q, md_fr wi wa bw bt S0 q → dc_pw (g q) F) : dc_pw (E.bind g) F :=
  pw_bind h (fun q hq => kk q (md_fr_tr hf hq hs))
end MDFR

theorem mm_feed_fr (S0 : md_S) (p1 : Int32) (p2 : Int32) (p3 : Int32) (p4 : Int32) (p5 : Int32) : dc_pw (mm_feed S0 p1 p2 p3 p4 p5) (fun q => md_fr [0, 2, 3] [1] false false S0 q.1) := by
  have lab_109 : ∀ (S : md_S), md_fr [0, 2, 3] [1] false false S0 S → dc_pw (mm_feed_L109 S) (fun q => md_fr [0, 2, 3] [1] false false S0 q.1) := by
    intro S  hf
    delta mm_feed_L109
    refine pwS_i (by decide) hf ?_
    intro S1 hf
    refine pwS_i (by decide) hf ?_
    intro S2 hf
    exact pw_some hf
  have lab_75 : ∀ (S : md_S) (x1 : Int32) (x2 : Int32) (x3 : Int32) (x4 : Int32) (x5 : Int32) (x6 : Int32) (y0 : Int32), md_fr [0, 2, 3] [1] false false S0 S → dc_pw (mm_feed_L75 S x1 x2 x3 x4 x5 x6 y0) (Sum.elim (fun (q : md_S × Int32) => md_fr [0, 2, 3] [1] false false S0 q.1) (fun (q : md_S) => md_fr [0, 2, 3] [1] false false S0 q)) := by
    intro S x1 x2 x3 x4 x5 x6 y0 hf
    delta mm_feed_L75
    refine pw_any ?_
    intro j3
    refine pwS_a (by decide) hf ?_
    intro S4 hf
    exact pw_some hf
  have body_22 : ∀ (S : md_S) (x1 : Int32) (x2 : Int32) (x3 : Int32) (x4 : Int32) (x5 : Int32) (x6 : Int32), md_fr [0, 2, 3] [1] false false S0 S → dc_pw (mm_feed_b22 S x1 x2 x3 x4 x5 x6) (Sum.elim (fun (q : md_S × Int32) => md_fr [0, 2, 3] [1] false false S0 q.1) (fun (q : md_S) => md_fr [0, 2, 3] [1] false false S0 q)) := by
    intro S x1 x2 x3 x4 x5 x6 hf
    delta mm_feed_b22
    refine pw_if ?_ ?_
    · refine pw_if ?_ ?_
      · exact lab_75 S x1 x2 x3 x4 x5 x6 x1 hf
      · refine pw_if ?_ ?_
        · exact lab_75 S x1 x2 x3 x4 x5 x6 x2 hf
        · refine pw_if ?_ ?_
          · exact lab_75 S x1 x2 x3 x4 x5 x6 x3 hf
          · refine pw_if ?_ ?_
            · exact lab_75 S x1 x2 x3 x4 x5 x6 x4 hf
            · exact lab_75 S x1 x2 x3 x4 x5 x6 x5 hf
    · exact pw_some hf
  have lab_22 : ∀ (S : md_S) (x1 : Int32) (x2 : Int32) (x3 : Int32) (x4 : Int32) (x5 : Int32) (x6 : Int32), md_fr [0, 2, 3] [1] false false S0 S → dc_pw (mm_feed_L22 S x1 x2 x3 x4 x5 x6) (fun q => md_fr [0, 2, 3] [1] false false S0 q.1) := by
    intro S x1 x2 x3 x4 x5 x6 hf
    delta mm_feed_L22
    refine pw_loop (fun (q : md_S × Int32) => md_fr [0, 2, 3] [1] false false S0 q.1) (fun (q : md_S) => md_fr [0, 2, 3] [1] false false S0 q) hf ?_ ?_
    · rintro ⟨S, x6⟩ hf
      exact body_22 S x1 x2 x3 x4 x5 x6 hf
    · rintro Sz hf
      exact lab_109 Sz hf
  have hf : md_fr [0, 2, 3] [1] false false S0 S0 := md_fr_rf
  delta mm_feed
  refine pwS_i (by decide) hf ?_
  intro S5 hf
  refine pw_if ?_ ?_
  · exact pw_some hf
  · exact lab_22 S5 p1 p2 p3 p4 p5 0 hf
theorem mm_end_fr (S0 : md_S) (p1 : Int32) : dc_pw (mm_end S0 p1) (fun q => md_fr [0, 2, 3] [] false false S0 q.1) := by
  have lab_22 : ∀ (S : md_S), md_fr [0, 2, 3] [] false false S0 S → dc_pw (mm_end_L22 S) (fun q => md_fr [0, 2, 3] [] false false S0 q.1) := by
    intro S  hf
    delta mm_end_L22
    exact pw_some hf
  have hf : md_fr [0, 2, 3] [] false false S0 S0 := md_fr_rf
  delta mm_end
  refine pwS_i (by decide) hf ?_
  intro S1 hf
  refine pw_if ?_ ?_
  · exact lab_22 S1 hf
  · refine pw_if ?_ ?_
    · exact lab_22 S1 hf
    · refine pw_if ?_ ?_
      · exact lab_22 S1 hf
      · refine pwS_i (by decide) hf ?_
        intro S2 hf
        refine pwS_i (by decide) hf ?_
        intro S3 hf
        exact pw_some hf
theorem mm_forget_fr (S0 : md_S) : dc_pw (mm_forget S0) (fun q => md_fr [41, 42, 43, 44, 45, 46, 47, 48, 49, 77, 82, 83, 85, 86, 87, 106] [74, 84] false false S0 q) := by
  have lab_123 : ∀ (S : md_S), md_fr [41, 42, 43, 44, 45, 46, 47, 48, 49, 77, 82, 83, 85, 86, 87, 106] [74, 84] false false S0 S → dc_pw (mm_forget_L123 S) (fun q => md_fr [41, 42, 43, 44, 45, 46, 47, 48, 49, 77, 82, 83, 85, 86, 87, 106] [74, 84] false false S0 q) := by
    intro S  hf
    delta mm_forget_L123
    exact pw_some hf
  have body_104 : ∀ (S : md_S) (x1 : Int32), md_fr [41, 42, 43, 44, 45, 46, 47, 48, 49, 77, 82, 83, 85, 86, 87, 106] [74, 84] false false S0 S → dc_pw (mm_forget_b104 S x1) (Sum.elim (fun (q : md_S × Int32) => md_fr [41, 42, 43, 44, 45, 46, 47, 48, 49, 77, 82, 83, 85, 86, 87, 106] [74, 84] false false S0 q.1) (fun (q : md_S) => md_fr [41, 42, 43, 44, 45, 46, 47, 48, 49, 77, 82, 83, 85, 86, 87, 106] [74, 84] false false S0 q)) := by
    intro S x1 hf
    delta mm_forget_b104
    refine pw_if ?_ ?_
    · refine pw_any ?_
      intro j1
      refine pwS_a (by decide) hf ?_
      intro S2 hf
      exact pw_some hf
    · exact pw_some hf
  have lab_104 : ∀ (S : md_S) (x1 : Int32), md_fr [41, 42, 43, 44, 45, 46, 47, 48, 49, 77, 82, 83, 85, 86, 87, 106] [74, 84] false false S0 S → dc_pw (mm_forget_L104 S x1) (fun q => md_fr [41, 42, 43, 44, 45, 46, 47, 48, 49, 77, 82, 83, 85, 86, 87, 106] [74, 84] false false S0 q) := by
    intro S x1 hf
    delta mm_forget_L104
    refine pw_loop (fun (q : md_S × Int32) => md_fr [41, 42, 43, 44, 45, 46, 47, 48, 49, 77, 82, 83, 85, 86, 87, 106] [74, 84] false false S0 q.1) (fun (q : md_S) => md_fr [41, 42, 43, 44, 45, 46, 47, 48, 49, 77, 82, 83, 85, 86, 87, 106] [74, 84] false false S0 q) hf ?_ ?_
    · rintro ⟨S, x1⟩ hf
      exact body_104 S x1 hf
    · rintro Sz hf
      exact lab_123 Sz hf
  have lab_102 : ∀ (S : md_S), md_fr [41, 42, 43, 44, 45, 46, 47, 48, 49, 77, 82, 83, 85, 86, 87, 106] [74, 84] false false S0 S → dc_pw (mm_forget_L102 S) (fun q => md_fr [41, 42, 43, 44, 45, 46, 47, 48, 49, 77, 82, 83, 85, 86, 87, 106] [74, 84] false false S0 q) := by
    intro S  hf
    delta mm_forget_L102
    exact lab_104 S 0 hf
  have body_82 : ∀ (S : md_S) (x1 : Int32), md_fr [41, 42, 43, 44, 45, 46, 47, 48, 49, 77, 82, 83, 85, 86, 87, 106] [74, 84] false false S0 S → dc_pw (mm_forget_b82 S x1) (Sum.elim (fun (q : md_S × Int32) => md_fr [41, 42, 43, 44, 45, 46, 47, 48, 49, 77, 82, 83, 85, 86, 87, 106] [74, 84] false false S0 q.1) (fun (q : md_S) => md_fr [41, 42, 43, 44, 45, 46, 47, 48, 49, 77, 82, 83, 85, 86, 87, 106] [74, 84] false false S0 q)) := by
    intro S x1 hf
    delta mm_forget_b82
    refine pw_if ?_ ?_
    · refine pw_any ?_
      intro j3
      refine pwS_a (by decide) hf ?_
      intro S4 hf
      exact pw_some hf
    · exact pw_some hf
  have lab_82 : ∀ (S : md_S) (x1 : Int32), md_fr [41, 42, 43, 44, 45, 46, 47, 48, 49, 77, 82, 83, 85, 86, 87, 106] [74, 84] false false S0 S → dc_pw (mm_forget_L82 S x1) (fun q => md_fr [41, 42, 43, 44, 45, 46, 47, 48, 49, 77, 82, 83, 85, 86, 87, 106] [74, 84] false false S0 q) := by
    intro S x1 hf
    delta mm_forget_L82
    refine pw_loop (fun (q : md_S × Int32) => md_fr [41, 42, 43, 44, 45, 46, 47, 48, 49, 77, 82, 83, 85, 86, 87, 106] [74, 84] false false S0 q.1) (fun (q : md_S) => md_fr [41, 42, 43, 44, 45, 46, 47, 48, 49, 77, 82, 83, 85, 86, 87, 106] [74, 84] false false S0 q) hf ?_ ?_
    · rintro ⟨S, x1⟩ hf
      exact body_82 S x1 hf
    · rintro Sz hf
      exact lab_102 Sz hf
  have hf : md_fr [41, 42, 43, 44, 45, 46, 47, 48, 49, 77, 82, 83, 85, 86, 87, 106] [74, 84] false false S0 S0 := md_fr_rf
  delta mm_forget
  refine pwS_i (by decide) hf ?_
  intro S5 hf
  refine pwS_i (by decide) hf ?_
  intro S6 hf
  refine pwS_i (by decide) hf ?_
  intro S7 hf
  refine pwS_i (by decide) hf ?_
  intro S8 hf
  refine pwS_i (by decide) hf ?_
  intro S9 hf
  refine pwS_i (by decide) hf ?_
  intro S10 hf
  refine pwS_i (by decide) hf ?_
  intro S11 hf
  refine pwS_i (by decide) hf ?_
  intro S12 hf
  refine pwS_i (by decide) hf ?_
  intro S13 hf
  refine pwS_i (by decide) hf ?_
  intro S14 hf
  refine pwS_i (by decide) hf ?_
  intro S15 hf
  refine pwS_i (by decide) hf ?_
  intro S16 hf
  refine pwS_i (by decide) hf ?_
  intro S17 hf
  refine pwS_i (by decide) hf ?_
  intro S18 hf
  refine pwS_i (by decide) hf ?_
  intro S19 hf
  refine pwS_i (by decide) hf ?_
  intro S20 hf
  exact lab_82 S20 0 hf
theorem mm_fail_fr (S0 : md_S) (p1 : Int32) (p2 : Int32) : dc_pw (mm_fail S0 p1 p2) (fun q => md_fr [10] [] false false S0 q) := by
  have lab_17 : ∀ (S : md_S), md_fr [10] [] false false S0 S → dc_pw (mm_fail_L17 S) (fun q => md_fr [10] [] false false S0 q) := by
    intro S  hf
    delta mm_fail_L17
    exact pw_some hf
  have hf : md_fr [10] [] false false S0 S0 := md_fr_rf
  delta mm_fail
  refine pw_if ?_ ?_
  · refine pwS_i (by decide) hf ?_
    intro S1 hf
    exact lab_17 S1 hf
  · exact lab_17 S0 hf
theorem mm_advance_fr (S0 : md_S) : dc_pw (mm_advance S0) (fun q => md_fr [4, 5, 6, 7, 8] [] true false S0 q) := by
  have lab_371 : ∀ (S : md_S) (y0 : Int64), md_fr [4, 5, 6, 7, 8] [] true false S0 S → dc_pw (mm_advance_L371 S y0) (fun q => md_fr [4, 5, 6, 7, 8] [] true false S0 q) := by
    intro S y0 hf
    delta mm_advance_L371
    refine pwS_w hf ?_
    intro S1 hf
    exact pw_some hf
  have lab_345 : ∀ (S : md_S) (x2 : Int32) (y0 : Int32) (y1 : Int32), md_fr [4, 5, 6, 7, 8] [] true false S0 S → dc_pw (mm_advance_L345 S x2 y0 y1) (fun q => md_fr [4, 5, 6, 7, 8] [] true false S0 q) := by
    intro S x2 y0 y1 hf
    delta mm_advance_L345
    refine pwS_i (by decide) hf ?_
    intro S2 hf
    refine pw_if ?_ ?_
    · exact lab_371 S2 256 hf
    · exact lab_371 S2 (Int32.toInt64 x2) hf
  have lab_344 : ∀ (S : md_S) (x2 : Int32) (y0 : Int32), md_fr [4, 5, 6, 7, 8] [] true false S0 S → dc_pw (mm_advance_L344 S x2 y0) (fun q => md_fr [4, 5, 6, 7, 8] [] true false S0 q) := by
    intro S x2 y0 hf
    delta mm_advance_L344
    exact lab_345 S x2 1 y0 hf
  have lab_310 : ∀ (S : md_S) (y0 : Int32), md_fr [4, 5, 6, 7, 8] [] true false S0 S → dc_pw (mm_advance_L310 S y0) (fun q => md_fr [4, 5, 6, 7, 8] [] true false S0 q) := by
    intro S y0 hf
    delta mm_advance_L310
    refine pwS_i (by decide) hf ?_
    intro S3 hf
    exact pw_some hf
  have lab_290 : ∀ (S : md_S), md_fr [4, 5, 6, 7, 8] [] true false S0 S → dc_pw (mm_advance_L290 S) (fun q => md_fr [4, 5, 6, 7, 8] [] true false S0 q) := by
    intro S  hf
    delta mm_advance_L290
    refine pw_if ?_ ?_
    · exact lab_310 S 3 hf
    · exact lab_310 S 1 hf
  have lab_274 : ∀ (S : md_S) (y0 : Int64), md_fr [4, 5, 6, 7, 8] [] true false S0 S → dc_pw (mm_advance_L274 S y0) (Sum.elim (fun (q : md_S) => md_fr [4, 5, 6, 7, 8] [] true false S0 q) (fun (q : md_S) => md_fr [4, 5, 6, 7, 8] [] true false S0 q)) := by
    intro S y0 hf
    delta mm_advance_L274
    refine pwS_w hf ?_
    intro S4 hf
    refine pwS_i (by decide) hf ?_
    intro S5 hf
    exact pw_some hf
  have body_222 : ∀ (S : md_S), md_fr [4, 5, 6, 7, 8] [] true false S0 S → dc_pw (mm_advance_b222 S) (Sum.elim (fun (q : md_S) => md_fr [4, 5, 6, 7, 8] [] true false S0 q) (fun (q : md_S) => md_fr [4, 5, 6, 7, 8] [] true false S0 q)) := by
    intro S  hf
    delta mm_advance_b222
    refine pw_any ?_
    intro q6
    refine pw_any ?_
    intro q7
    refine pw_if ?_ ?_
    · exact pw_some hf
    · refine pw_if ?_ ?_
      · refine pw_any ?_
        intro q8
        exact lab_274 S ((S.2.2.1 <<< (Int32.toInt64 8 &&& 63)) ||| (Int32.toInt64 q8)) hf
      · exact lab_274 S (-1) hf
  have lab_222 : ∀ (S : md_S), md_fr [4, 5, 6, 7, 8] [] true false S0 S → dc_pw (mm_advance_L222 S) (fun q => md_fr [4, 5, 6, 7, 8] [] true false S0 q) := by
    intro S  hf
    delta mm_advance_L222
    refine pw_loop (fun (q : md_S) => md_fr [4, 5, 6, 7, 8] [] true false S0 q) (fun (q : md_S) => md_fr [4, 5, 6, 7, 8] [] true false S0 q) hf ?_ ?_
    · rintro S hf
      exact body_222 S hf
    · rintro Sz hf
      exact lab_290 Sz hf
  have lab_198 : ∀ (S : md_S) (x2 : Int32) (y0 : Int32), md_fr [4, 5, 6, 7, 8] [] true false S0 S → dc_pw (mm_advance_L198 S x2 y0) (fun q => md_fr [4, 5, 6, 7, 8] [] true false S0 q) := by
    intro S x2 y0 hf
    delta mm_advance_L198
    refine pwS_i (by decide) hf ?_
    intro S9 hf
    refine pwS_w hf ?_
    intro S10 hf
    refine pw_if ?_ ?_
    · exact pw_some hf
    · refine pw_if ?_ ?_
      · exact lab_222 S10 hf
      · refine pw_if ?_ ?_
        · refine pw_any ?_
          intro q11
          refine pw_if ?_ ?_
          · exact lab_345 S10 x2 2 (S10.1 4) hf
          · exact lab_344 S10 x2 (S10.1 4) hf
        · exact lab_344 S10 x2 (S10.1 4) hf
  have lab_145 : ∀ (S : md_S), md_fr [4, 5, 6, 7, 8] [] true false S0 S → dc_pw (mm_advance_L145 S) (fun q => md_fr [4, 5, 6, 7, 8] [] true false S0 q) := by
    intro S  hf
    delta mm_advance_L145
    refine pwS_i (by decide) hf ?_
    intro S12 hf
    refine pwS_i (by decide) hf ?_
    intro S13 hf
    refine pw_any ?_
    intro q14
    refine pw_if ?_ ?_
    · exact lab_198 S13 q14 0 hf
    · refine pw_any ?_
      intro q15
      refine pw_if ?_ ?_
      · exact lab_198 S13 q14 2 hf
      · exact lab_198 S13 q14 1 hf
  have lab_128 : ∀ (S : md_S) (x1 : Int32) (y0 : Int32) (y1 : Int32), md_fr [4, 5, 6, 7, 8] [] true false S0 S → dc_pw (mm_advance_L128 S x1 y0 y1) (Sum.elim (fun (q : md_S × Int32) => md_fr [4, 5, 6, 7, 8] [] true false S0 q.1) (fun (q : md_S) => md_fr [4, 5, 6, 7, 8] [] true false S0 q)) := by
    intro S x1 y0 y1 hf
    delta mm_advance_L128
    refine pwS_i (by decide) hf ?_
    intro S16 hf
    refine pwS_i (by decide) hf ?_
    intro S17 hf
    exact pw_some hf
  have lab_104 : ∀ (S : md_S) (y0 : Int32), md_fr [4, 5, 6, 7, 8] [] true false S0 S → dc_pw (mm_advance_L104 S y0) (Sum.elim (fun (q : md_S × Int32) => md_fr [4, 5, 6, 7, 8] [] true false S0 q.1) (fun (q : md_S) => md_fr [4, 5, 6, 7, 8] [] true false S0 q)) := by
    intro S y0 hf
    delta mm_advance_L104
    refine pw_any ?_
    intro q18
    refine pw_if ?_ ?_
    · exact lab_128 S y0 1 (S.1 5) hf
    · exact lab_128 S y0 0 (S.1 5) hf
  have lab_103 : ∀ (S : md_S), md_fr [4, 5, 6, 7, 8] [] true false S0 S → dc_pw (mm_advance_L103 S) (Sum.elim (fun (q : md_S × Int32) => md_fr [4, 5, 6, 7, 8] [] true false S0 q.1) (fun (q : md_S) => md_fr [4, 5, 6, 7, 8] [] true false S0 q)) := by
    intro S  hf
    delta mm_advance_L103
    exact lab_104 S 0 hf
  have lab_99 : ∀ (S : md_S), md_fr [4, 5, 6, 7, 8] [] true false S0 S → dc_pw (mm_advance_L99 S) (Sum.elim (fun (q : md_S × Int32) => md_fr [4, 5, 6, 7, 8] [] true false S0 q.1) (fun (q : md_S) => md_fr [4, 5, 6, 7, 8] [] true false S0 q)) := by
    intro S  hf
    delta mm_advance_L99
    exact lab_104 S 1 hf
  have lab_69 : ∀ (S : md_S) (x1 : Int32), md_fr [4, 5, 6, 7, 8] [] true false S0 S → dc_pw (mm_advance_L69 S x1) (Sum.elim (fun (q : md_S × Int32) => md_fr [4, 5, 6, 7, 8] [] true false S0 q.1) (fun (q : md_S) => md_fr [4, 5, 6, 7, 8] [] true false S0 q)) := by
    intro S x1 hf
    delta mm_advance_L69
    refine pw_any ?_
    intro q19
    refine pw_if ?_ ?_
    · exact lab_103 S hf
    · refine pw_if ?_ ?_
      · refine pw_any ?_
        intro q20
        refine pw_if ?_ ?_
        · exact lab_99 S hf
        · exact lab_103 S hf
      · exact lab_99 S hf
  have body_2 : ∀ (S : md_S) (x1 : Int32), md_fr [4, 5, 6, 7, 8] [] true false S0 S → dc_pw (mm_advance_b2 S x1) (Sum.elim (fun (q : md_S × Int32) => md_fr [4, 5, 6, 7, 8] [] true false S0 q.1) (fun (q : md_S) => md_fr [4, 5, 6, 7, 8] [] true false S0 q)) := by
    intro S x1 hf
    delta mm_advance_b2
    refine pw_if ?_ ?_
    · refine pw_if ?_ ?_
      · refine pw_any ?_
        intro q21
        refine pw_if ?_ ?_
        · exact lab_69 S x1 hf
        · refine pw_any ?_
          intro q22
          refine pw_if ?_ ?_
          · exact lab_69 S x1 hf
          · refine pw_any ?_
            intro q23
            refine pw_if ?_ ?_
            · exact lab_69 S x1 hf
            · refine pw_any ?_
              intro q24
              refine pw_if ?_ ?_
              · exact lab_69 S x1 hf
              · exact pw_some hf
      · exact lab_69 S x1 hf
    · exact pw_some hf
  have lab_2 : ∀ (S : md_S) (x1 : Int32), md_fr [4, 5, 6, 7, 8] [] true false S0 S → dc_pw (mm_advance_L2 S x1) (fun q => md_fr [4, 5, 6, 7, 8] [] true false S0 q) := by
    intro S x1 hf
    delta mm_advance_L2
    refine pw_loop (fun (q : md_S × Int32) => md_fr [4, 5, 6, 7, 8] [] true false S0 q.1) (fun (q : md_S) => md_fr [4, 5, 6, 7, 8] [] true false S0 q) hf ?_ ?_
    · rintro ⟨S, x1⟩ hf
      exact body_2 S x1 hf
    · rintro Sz hf
      exact lab_145 Sz hf
  have hf : md_fr [4, 5, 6, 7, 8] [] true false S0 S0 := md_fr_rf
  delta mm_advance
  exact lab_2 S0 0 hf
theorem mm_meetsWord_fr (S0 : md_S) (p1 : Int64) : dc_pw (mm_meetsWord S0 p1) (fun q => md_fr [4, 5, 6, 7, 8] [] true false S0 q.1) := by
  have lab_15 : ∀ (S : md_S), md_fr [4, 5, 6, 7, 8] [] true false S0 S → dc_pw (mm_meetsWord_L15 S) (fun q => md_fr [4, 5, 6, 7, 8] [] true false S0 q.1) := by
    intro S  hf
    delta mm_meetsWord_L15
    exact pw_some hf
  have hf : md_fr [4, 5, 6, 7, 8] [] true false S0 S0 := md_fr_rf
  delta mm_meetsWord
  refine pw_if ?_ ?_
  · exact lab_15 S0 hf
  · refine pw_any ?_
    intro q1
    refine pw_if ?_ ?_
    · exact lab_15 S0 hf
    · refine pwS_callv (mm_advance_fr S0) (by decide) hf ?_
      intro q2 hf
      exact pw_some hf
theorem mm_meetsSign_fr (S0 : md_S) (p1 : Int32) : dc_pw (mm_meetsSign S0 p1) (fun q => md_fr [4, 5, 6, 7, 8] [] true false S0 q.1) := by
  have lab_15 : ∀ (S : md_S), md_fr [4, 5, 6, 7, 8] [] true false S0 S → dc_pw (mm_meetsSign_L15 S) (fun q => md_fr [4, 5, 6, 7, 8] [] true false S0 q.1) := by
    intro S  hf
    delta mm_meetsSign_L15
    exact pw_some hf
  have hf : md_fr [4, 5, 6, 7, 8] [] true false S0 S0 := md_fr_rf
  delta mm_meetsSign
  refine pw_if ?_ ?_
  · exact lab_15 S0 hf
  · refine pw_any ?_
    intro q1
    refine pw_if ?_ ?_
    · exact lab_15 S0 hf
    · refine pwS_callv (mm_advance_fr S0) (by decide) hf ?_
      intro q2 hf
      exact pw_some hf
theorem mm_list_fr (S0 : md_S) (p1 : Int32) : dc_pw (mm_list S0 p1) (fun q => md_fr [4, 5, 6, 7, 8, 10, 15, 18] [21, 22, 23] true false S0 q) := by
  have lab_136 : ∀ (S : md_S), md_fr [4, 5, 6, 7, 8, 10, 15, 18] [21, 22, 23] true false S0 S → dc_pw (mm_list_L136 S) (fun q => md_fr [4, 5, 6, 7, 8, 10, 15, 18] [21, 22, 23] true false S0 q) := by
    intro S  hf
    delta mm_list_L136
    exact pw_some hf
  have lab_57 : ∀ (S : md_S), md_fr [4, 5, 6, 7, 8, 10, 15, 18] [21, 22, 23] true false S0 S → dc_pw (mm_list_L57 S) (fun q => md_fr [4, 5, 6, 7, 8, 10, 15, 18] [21, 22, 23] true false S0 q) := by
    intro S  hf
    delta mm_list_L57
    exact pw_some hf
  have lab_50 : ∀ (S : md_S) (x1 : Int32), md_fr [4, 5, 6, 7, 8, 10, 15, 18] [21, 22, 23] true false S0 S → dc_pw (mm_list_L50 S x1) (Sum.elim (fun (q : md_S × Int32) => md_fr [4, 5, 6, 7, 8, 10, 15, 18] [21, 22, 23] true false S0 q.1) (Sum.elim (fun (q : md_S) => md_fr [4, 5, 6, 7, 8, 10, 15, 18] [21, 22, 23] true false S0 q) (fun (q : md_S) => md_fr [4, 5, 6, 7, 8, 10, 15, 18] [21, 22, 23] true false S0 q))) := by
    intro S x1 hf
    delta mm_list_L50
    refine pw_if ?_ ?_
    · exact pw_some hf
    · refine pw_any ?_
      intro j1
      refine pwS_a (by decide) hf ?_
      intro S2 hf
      refine pw_any ?_
      intro j3
      refine pwS_a (by decide) hf ?_
      intro S4 hf
      refine pw_any ?_
      intro j5
      refine pwS_a (by decide) hf ?_
      intro S6 hf
      refine pwS_i (by decide) hf ?_
      intro S7 hf
      refine pwS_i (by decide) hf ?_
      intro S8 hf
      refine pwS_callv (mm_advance_fr S8) (by decide) hf ?_
      intro q9 hf
      refine pwS_call (mm_meetsSign_fr q9 44) (by decide) hf ?_
      intro q10 hf
      exact pw_some hf
  have body_2 : ∀ (S : md_S) (x1 : Int32) (x2 : Int32), md_fr [4, 5, 6, 7, 8, 10, 15, 18] [21, 22, 23] true false S0 S → dc_pw (mm_list_b2 S x1 x2) (Sum.elim (fun (q : md_S × Int32) => md_fr [4, 5, 6, 7, 8, 10, 15, 18] [21, 22, 23] true false S0 q.1) (Sum.elim (fun (q : md_S) => md_fr [4, 5, 6, 7, 8, 10, 15, 18] [21, 22, 23] true false S0 q) (fun (q : md_S) => md_fr [4, 5, 6, 7, 8, 10, 15, 18] [21, 22, 23] true false S0 q))) := by
    intro S x1 x2 hf
    delta mm_list_b2
    refine pw_if ?_ ?_
    · exact pw_some hf
    · refine pw_if ?_ ?_
      · refine pw_any ?_
        intro q11
        refine pw_if ?_ ?_
        · refine pwS_callv (mm_fail_fr S 1 (S.1 8)) (by decide) hf ?_
          intro q12 hf
          exact lab_50 q12 x1 hf
        · refine pw_any ?_
          intro q13
          refine pw_if ?_ ?_
          · exact lab_50 S x1 hf
          · refine pwS_callv (mm_fail_fr S 3 (S.1 8)) (by decide) hf ?_
            intro q14 hf
            exact lab_50 q14 x1 hf
      · exact pw_some hf
  have lab_2 : ∀ (S : md_S) (x1 : Int32) (x2 : Int32), md_fr [4, 5, 6, 7, 8, 10, 15, 18] [21, 22, 23] true false S0 S → dc_pw (mm_list_L2 S x1 x2) (fun q => md_fr [4, 5, 6, 7, 8, 10, 15, 18] [21, 22, 23] true false S0 q) := by
    intro S x1 x2 hf
    delta mm_list_L2
    refine pw_loop (fun (q : md_S × Int32) => md_fr [4, 5, 6, 7, 8, 10, 15, 18] [21, 22, 23] true false S0 q.1) (Sum.elim (fun (q : md_S) => md_fr [4, 5, 6, 7, 8, 10, 15, 18] [21, 22, 23] true false S0 q) (fun (q : md_S) => md_fr [4, 5, 6, 7, 8, 10, 15, 18] [21, 22, 23] true false S0 q)) hf ?_ ?_
    · rintro ⟨S, x2⟩ hf
      exact body_2 S x1 x2 hf
    · rintro (Sz | Sz) hf
      · exact lab_57 Sz hf
      · exact lab_136 Sz hf
  have hf : md_fr [4, 5, 6, 7, 8, 10, 15, 18] [21, 22, 23] true false S0 S0 := md_fr_rf
  delta mm_list
  exact lab_2 S0 p1 1 hf
theorem mm_deeper_fr (S0 : md_S) : dc_pw (mm_deeper S0) (fun q => md_fr [10, 11] [] false false S0 q) := by
  have lab_18 : ∀ (S : md_S), md_fr [10, 11] [] false false S0 S → dc_pw (mm_deeper_L18 S) (fun q => md_fr [10, 11] [] false false S0 q) := by
    intro S  hf
    delta mm_deeper_L18
    refine pwS_i (by decide) hf ?_
    intro S1 hf
    exact pw_some hf
  have hf : md_fr [10, 11] [] false false S0 S0 := md_fr_rf
  delta mm_deeper
  refine pw_if ?_ ?_
  · refine pwS_callv (mm_fail_fr S0 5 (S0.1 8)) (by decide) hf ?_
    intro q2 hf
    exact lab_18 q2 hf
  · exact lab_18 S0 hf
theorem mm_named_fr (S0 : md_S) (p1 : Int32) : dc_pw (mm_named S0 p1) (fun q => md_fr [4, 5, 6, 7, 8, 10] [] true false S0 q.1) := by
  have lab_57 : ∀ (S : md_S) (x2 : Int32), md_fr [4, 5, 6, 7, 8, 10] [] true false S0 S → dc_pw (mm_named_L57 S x2) (fun q => md_fr [4, 5, 6, 7, 8, 10] [] true false S0 q.1) := by
    intro S x2 hf
    delta mm_named_L57
    refine pw_if ?_ ?_
    · exact pw_some hf
    · refine pwS_callv (mm_advance_fr S) (by decide) hf ?_
      intro q1 hf
      exact pw_some hf
  have lab_48 : ∀ (S : md_S) (x2 : Int32), md_fr [4, 5, 6, 7, 8, 10] [] true false S0 S → dc_pw (mm_named_L48 S x2) (fun q => md_fr [4, 5, 6, 7, 8, 10] [] true false S0 q.1) := by
    intro S x2 hf
    delta mm_named_L48
    refine pwS_callv (mm_fail_fr S 2 (S.1 8)) (by decide) hf ?_
    intro q2 hf
    exact lab_57 q2 x2 hf
  have lab_16 : ∀ (S : md_S) (x1 : Int32), md_fr [4, 5, 6, 7, 8, 10] [] true false S0 S → dc_pw (mm_named_L16 S x1) (fun q => md_fr [4, 5, 6, 7, 8, 10] [] true false S0 q.1) := by
    intro S x1 hf
    delta mm_named_L16
    refine pw_if ?_ ?_
    · exact pw_some hf
    · refine pw_any ?_
      intro q3
      refine pw_if ?_ ?_
      · exact lab_48 S q3 hf
      · refine pw_if ?_ ?_
        · exact lab_57 S q3 hf
        · refine pw_if ?_ ?_
          · exact lab_48 S q3 hf
          · exact lab_57 S q3 hf
  have hf : md_fr [4, 5, 6, 7, 8, 10] [] true false S0 S0 := md_fr_rf
  delta mm_named
  refine pw_any ?_
  intro q4
  refine pw_if ?_ ?_
  · refine pwS_callv (mm_fail_fr S0 1 (S0.1 8)) (by decide) hf ?_
    intro q5 hf
    exact lab_16 q5 p1 hf
  · exact lab_16 S0 p1 hf
theorem mm_piece_III_fr (S0 : md_S) (p1 : Int32) (p2 : Int32) (p3 : Int32) : dc_pw (mm_piece_III S0 p1 p2 p3) (fun q => md_fr [12, 28] [36, 37, 38] false false S0 q.1) := by
  have hf : md_fr [12, 28] [36, 37, 38] false false S0 S0 := md_fr_rf
  delta mm_piece_III
  refine pw_if ?_ ?_
  · refine pwS_i (by decide) hf ?_
    intro S1 hf
    exact pw_some hf
  · refine pw_any ?_
    intro j2
    refine pwS_a (by decide) hf ?_
    intro S3 hf
    refine pw_any ?_
    intro j4
    refine pwS_a (by decide) hf ?_
    intro S5 hf
    refine pw_any ?_
    intro j6
    refine pwS_a (by decide) hf ?_
    intro S7 hf
    refine pwS_i (by decide) hf ?_
    intro S8 hf
    exact pw_some hf
def mm_FR1 (T : mm_T1) : Prop := (∀ (S0 : md_S), dc_pw (T.1 S0) (fun q => md_fr [4, 5, 6, 7, 8, 10, 11, 12, 28] [36, 37, 38] true false S0 q.1)) ∧ (∀ (S0 : md_S), dc_pw (T.2.1 S0) (fun q => md_fr [4, 5, 6, 7, 8, 10, 11, 12, 28] [36, 37, 38] true false S0 q.1)) ∧ (∀ (S0 : md_S), dc_pw (T.2.2 S0) (fun q => md_fr [4, 5, 6, 7, 8, 10, 11, 12, 28] [36, 37, 38] true false S0 q.1))
theorem mm_asked_fr (T : mm_T1) (hT : mm_FR1 T) (S0 : md_S) : dc_pw (mm_asked T S0) (fun q => md_fr [4, 5, 6, 7, 8, 10, 11, 12, 28] [36, 37, 38] true false S0 q.1) := by
  have lab_29 : ∀ (S : md_S) (x1 : Int32), md_fr [4, 5, 6, 7, 8, 10, 11, 12, 28] [36, 37, 38] true false S0 S → dc_pw (mm_asked_L29 T S x1) (fun q => md_fr [4, 5, 6, 7, 8, 10, 11, 12, 28] [36, 37, 38] true false S0 q.1) := by
    intro S x1 hf
    delta mm_asked_L29
    exact pw_some hf
  have body_5 : ∀ (S : md_S) (x1 : Int32), md_fr [4, 5, 6, 7, 8, 10, 11, 12, 28] [36, 37, 38] true false S0 S → dc_pw (mm_asked_b5 T S x1) (Sum.elim (fun (q : md_S × Int32) => md_fr [4, 5, 6, 7, 8, 10, 11, 12, 28] [36, 37, 38] true false S0 q.1) (fun (q : md_S × Int32) => md_fr [4, 5, 6, 7, 8, 10, 11, 12, 28] [36, 37, 38] true false S0 q.1)) := by
    intro S x1 hf
    delta mm_asked_b5
    refine pwS_call (mm_meetsWord_fr S 28530) (by decide) hf ?_
    intro q1 hf
    refine pw_if ?_ ?_
    · exact pw_some hf
    · refine pwS_call (hT.2.1 q1.1) (by decide) hf ?_
      intro q2 hf
      refine pwS_call (mm_piece_III_fr q2.1 3 x1 q2.2) (by decide) hf ?_
      intro q3 hf
      exact pw_some hf
  have lab_5 : ∀ (S : md_S) (x1 : Int32), md_fr [4, 5, 6, 7, 8, 10, 11, 12, 28] [36, 37, 38] true false S0 S → dc_pw (mm_asked_L5 T S x1) (fun q => md_fr [4, 5, 6, 7, 8, 10, 11, 12, 28] [36, 37, 38] true false S0 q.1) := by
    intro S x1 hf
    delta mm_asked_L5
    refine pw_loop (fun (q : md_S × Int32) => md_fr [4, 5, 6, 7, 8, 10, 11, 12, 28] [36, 37, 38] true false S0 q.1) (fun (q : md_S × Int32) => md_fr [4, 5, 6, 7, 8, 10, 11, 12, 28] [36, 37, 38] true false S0 q.1) hf ?_ ?_
    · rintro ⟨S, x1⟩ hf
      exact body_5 S x1 hf
    · rintro ⟨Sz, z0⟩ hf
      exact lab_29 Sz z0 hf
  have hf : md_fr [4, 5, 6, 7, 8, 10, 11, 12, 28] [36, 37, 38] true false S0 S0 := md_fr_rf
  delta mm_asked
  refine pwS_call (hT.2.1 S0) (by decide) hf ?_
  intro q4 hf
  exact lab_5 q4.1 q4.2 hf
theorem mm_clause_fr (T : mm_T1) (hT : mm_FR1 T) (S0 : md_S) : dc_pw (mm_clause T S0) (fun q => md_fr [4, 5, 6, 7, 8, 10, 11, 12, 28] [36, 37, 38] true false S0 q.1) := by
  have lab_29 : ∀ (S : md_S) (x1 : Int32), md_fr [4, 5, 6, 7, 8, 10, 11, 12, 28] [36, 37, 38] true false S0 S → dc_pw (mm_clause_L29 T S x1) (fun q => md_fr [4, 5, 6, 7, 8, 10, 11, 12, 28] [36, 37, 38] true false S0 q.1) := by
    intro S x1 hf
    delta mm_clause_L29
    exact pw_some hf
  have body_5 : ∀ (S : md_S) (x1 : Int32), md_fr [4, 5, 6, 7, 8, 10, 11, 12, 28] [36, 37, 38] true false S0 S → dc_pw (mm_clause_b5 T S x1) (Sum.elim (fun (q : md_S × Int32) => md_fr [4, 5, 6, 7, 8, 10, 11, 12, 28] [36, 37, 38] true false S0 q.1) (fun (q : md_S × Int32) => md_fr [4, 5, 6, 7, 8, 10, 11, 12, 28] [36, 37, 38] true false S0 q.1)) := by
    intro S x1 hf
    delta mm_clause_b5
    refine pwS_call (mm_meetsWord_fr S 6385252) (by decide) hf ?_
    intro q1 hf
    refine pw_if ?_ ?_
    · exact pw_some hf
    · refine pwS_call (hT.2.2 q1.1) (by decide) hf ?_
      intro q2 hf
      refine pwS_call (mm_piece_III_fr q2.1 2 x1 q2.2) (by decide) hf ?_
      intro q3 hf
      exact pw_some hf
  have lab_5 : ∀ (S : md_S) (x1 : Int32), md_fr [4, 5, 6, 7, 8, 10, 11, 12, 28] [36, 37, 38] true false S0 S → dc_pw (mm_clause_L5 T S x1) (fun q => md_fr [4, 5, 6, 7, 8, 10, 11, 12, 28] [36, 37, 38] true false S0 q.1) := by
    intro S x1 hf
    delta mm_clause_L5
    refine pw_loop (fun (q : md_S × Int32) => md_fr [4, 5, 6, 7, 8, 10, 11, 12, 28] [36, 37, 38] true false S0 q.1) (fun (q : md_S × Int32) => md_fr [4, 5, 6, 7, 8, 10, 11, 12, 28] [36, 37, 38] true false S0 q.1) hf ?_ ?_
    · rintro ⟨S, x1⟩ hf
      exact body_5 S x1 hf
    · rintro ⟨Sz, z0⟩ hf
      exact lab_29 Sz z0 hf
  have hf : md_fr [4, 5, 6, 7, 8, 10, 11, 12, 28] [36, 37, 38] true false S0 S0 := md_fr_rf
  delta mm_clause
  refine pwS_call (hT.2.2 S0) (by decide) hf ?_
  intro q4 hf
  exact lab_5 q4.1 q4.2 hf
theorem mm_part_fr (T : mm_T1) (hT : mm_FR1 T) (S0 : md_S) : dc_pw (mm_part T S0) (fun q => md_fr [4, 5, 6, 7, 8, 10, 11, 12, 28] [36, 37, 38] true false S0 q.1) := by
  have lab_94 : ∀ (S : md_S) (x2 : Int32), md_fr [4, 5, 6, 7, 8, 10, 11, 12, 28] [36, 37, 38] true false S0 S → dc_pw (mm_part_L94 T S x2) (fun q => md_fr [4, 5, 6, 7, 8, 10, 11, 12, 28] [36, 37, 38] true false S0 q.1) := by
    intro S x2 hf
    delta mm_part_L94
    refine pwS_i (by decide) hf ?_
    intro S1 hf
    exact pw_some hf
  have lab_71 : ∀ (S : md_S) (x1 : Int32) (y0 : Int32), md_fr [4, 5, 6, 7, 8, 10, 11, 12, 28] [36, 37, 38] true false S0 S → dc_pw (mm_part_L71 T S x1 y0) (fun q => md_fr [4, 5, 6, 7, 8, 10, 11, 12, 28] [36, 37, 38] true false S0 q.1) := by
    intro S x1 y0 hf
    delta mm_part_L71
    refine pw_if ?_ ?_
    · refine pwS_call (mm_meetsSign_fr S 41) (by decide) hf ?_
      intro q2 hf
      refine pw_if ?_ ?_
      · refine pwS_callv (mm_fail_fr q2.1 1 (q2.1.1 8)) (by decide) hf ?_
        intro q3 hf
        exact lab_94 q3 y0 hf
      · exact lab_94 q2.1 y0 hf
    · exact lab_94 S y0 hf
  have lab_33 : ∀ (S : md_S) (x1 : Int32), md_fr [4, 5, 6, 7, 8, 10, 11, 12, 28] [36, 37, 38] true false S0 S → dc_pw (mm_part_L33 T S x1) (fun q => md_fr [4, 5, 6, 7, 8, 10, 11, 12, 28] [36, 37, 38] true false S0 q.1) := by
    intro S x1 hf
    delta mm_part_L33
    refine pwS_callv (mm_deeper_fr S) (by decide) hf ?_
    intro q4 hf
    refine pw_if ?_ ?_
    · exact pw_some hf
    · refine pwS_callv (mm_advance_fr q4) (by decide) hf ?_
      intro q5 hf
      refine pw_if ?_ ?_
      · refine pwS_call (hT.1 q5) (by decide) hf ?_
        intro q6 hf
        exact lab_71 q6.1 x1 q6.2 hf
      · refine pwS_call (hT.2.2 q5) (by decide) hf ?_
        intro q7 hf
        refine pwS_call (mm_piece_III_fr q7.1 1 q7.2 (-1)) (by decide) hf ?_
        intro q8 hf
        exact lab_71 q8.1 x1 q8.2 hf
  have hf : md_fr [4, 5, 6, 7, 8, 10, 11, 12, 28] [36, 37, 38] true false S0 S0 := md_fr_rf
  delta mm_part
  refine pw_any ?_
  intro q9
  refine pw_if ?_ ?_
  · refine pw_any ?_
    intro q10
    refine pw_if ?_ ?_
    · refine pwS_call (mm_named_fr S0 0) (by decide) hf ?_
      intro q11 hf
      refine pwS_call (mm_piece_III_fr q11.1 0 q11.2 (-1)) (by decide) hf ?_
      intro q12 hf
      exact pw_some hf
    · exact lab_33 S0 q9 hf
  · exact lab_33 S0 q9 hf
theorem mm_P1_fr : ∀ d : Nat, mm_FR1 (mm_P1 d)
  | 0 => ⟨fun _ => pw_none, fun _ => pw_none, fun _ => pw_none⟩
  | d + 1 => ⟨mm_asked_fr (mm_P1 d) (mm_P1_fr d), mm_clause_fr (mm_P1 d) (mm_P1_fr d), mm_part_fr (mm_P1 d) (mm_P1_fr d)⟩
theorem mm_asked_r_fr (S0 : md_S) : dc_pw (mm_asked_r S0) (fun q => md_fr [4, 5, 6, 7, 8, 10, 11, 12, 28] [36, 37, 38] true false S0 q.1) := (mm_P1_fr mm_d1).1 S0
theorem mm_clause_r_fr (S0 : md_S) : dc_pw (mm_clause_r S0) (fun q => md_fr [4, 5, 6, 7, 8, 10, 11, 12, 28] [36, 37, 38] true false S0 q.1) := (mm_P1_fr mm_d1).2.1 S0
theorem mm_part_r_fr (S0 : md_S) : dc_pw (mm_part_r S0) (fun q => md_fr [4, 5, 6, 7, 8, 10, 11, 12, 28] [36, 37, 38] true false S0 q.1) := (mm_P1_fr mm_d1).2.2 S0
theorem mm_mustWord_fr (S0 : md_S) (p1 : Int64) : dc_pw (mm_mustWord S0 p1) (fun q => md_fr [4, 5, 6, 7, 8, 10] [] true false S0 q) := by
  have lab_17 : ∀ (S : md_S), md_fr [4, 5, 6, 7, 8, 10] [] true false S0 S → dc_pw (mm_mustWord_L17 S) (fun q => md_fr [4, 5, 6, 7, 8, 10] [] true false S0 q) := by
    intro S  hf
    delta mm_mustWord_L17
    exact pw_some hf
  have hf : md_fr [4, 5, 6, 7, 8, 10] [] true false S0 S0 := md_fr_rf
  delta mm_mustWord
  refine pwS_call (mm_meetsWord_fr S0 p1) (by decide) hf ?_
  intro q1 hf
  refine pw_if ?_ ?_
  · refine pwS_callv (mm_fail_fr q1.1 1 (q1.1.1 8)) (by decide) hf ?_
    intro q2 hf
    exact lab_17 q2 hf
  · exact lab_17 q1.1 hf
theorem mm_node_IIIIII_fr (S0 : md_S) (p1 : Int32) (p2 : Int32) (p3 : Int32) (p4 : Int32) (p5 : Int32) (p6 : Int32) : dc_pw (mm_node_IIIIII S0 p1 p2 p3 p4 p5 p6) (fun q => md_fr [12, 27] [30, 31, 32, 33, 34, 35] false false S0 q.1) := by
  have hf : md_fr [12, 27] [30, 31, 32, 33, 34, 35] false false S0 S0 := md_fr_rf
  delta mm_node_IIIIII
  refine pw_if ?_ ?_
  · refine pwS_i (by decide) hf ?_
    intro S1 hf
    exact pw_some hf
  · refine pw_any ?_
    intro j2
    refine pwS_a (by decide) hf ?_
    intro S3 hf
    refine pw_any ?_
    intro j4
    refine pwS_a (by decide) hf ?_
    intro S5 hf
    refine pw_any ?_
    intro j6
    refine pwS_a (by decide) hf ?_
    intro S7 hf
    refine pw_any ?_
    intro j8
    refine pwS_a (by decide) hf ?_
    intro S9 hf
    refine pw_any ?_
    intro j10
    refine pwS_a (by decide) hf ?_
    intro S11 hf
    refine pw_any ?_
    intro j12
    refine pwS_a (by decide) hf ?_
    intro S13 hf
    refine pwS_i (by decide) hf ?_
    intro S14 hf
    exact pw_some hf
theorem mm_leaf_fr (S0 : md_S) (p1 : Int32) (p2 : Int32) (p3 : Int32) : dc_pw (mm_leaf S0 p1 p2 p3) (fun q => md_fr [12, 27] [30, 31, 32, 33, 34, 35] false false S0 q.1) := by
  have hf : md_fr [12, 27] [30, 31, 32, 33, 34, 35] false false S0 S0 := md_fr_rf
  delta mm_leaf
  refine pwS_call (mm_node_IIIIII_fr S0 p1 (-1) (-1) p2 p3 (-1)) (by decide) hf ?_
  intro q1 hf
  exact pw_some hf
theorem mm_halt_fr (S0 : md_S) (p1 : Int32) : dc_pw (mm_halt S0 p1) (fun q => md_fr [12, 27] [30, 31, 32, 33, 34, 35] false false S0 q.1) := by
  have hf : md_fr [12, 27] [30, 31, 32, 33, 34, 35] false false S0 S0 := md_fr_rf
  delta mm_halt
  refine pwS_call (mm_leaf_fr S0 1 (-1) p1) (by decide) hf ?_
  intro q1 hf
  refine pwS_call (mm_node_IIIIII_fr q1.1 6 q1.2 (-1) (-1) p1 (-1)) (by decide) hf ?_
  intro q2 hf
  exact pw_some hf
theorem mm_waiting_fr (S0 : md_S) (p1 : Int32) (p2 : Int32) (p3 : Int32) : dc_pw (mm_waiting S0 p1 p2 p3) (fun q => md_fr [12, 27] [30, 31, 32, 33, 34, 35] false false S0 q.1) := by
  have hf : md_fr [12, 27] [30, 31, 32, 33, 34, 35] false false S0 S0 := md_fr_rf
  delta mm_waiting
  refine pwS_call (mm_leaf_fr S0 1 (-1) p1) (by decide) hf ?_
  intro q1 hf
  refine pwS_call (mm_leaf_fr q1.1 9 p3 p1) (by decide) hf ?_
  intro q2 hf
  refine pwS_call (mm_leaf_fr q2.1 0 (-1) p1) (by decide) hf ?_
  intro q3 hf
  refine pwS_call (mm_node_IIIIII_fr q3.1 3 q2.2 q3.2 (-1) p1 p2) (by decide) hf ?_
  intro q4 hf
  refine pwS_call (mm_node_IIIIII_fr q4.1 5 q1.2 q4.2 (-1) p1 (-1)) (by decide) hf ?_
  intro q5 hf
  refine pwS_call (mm_node_IIIIII_fr q5.1 6 q5.2 (-1) (-1) p1 (-1)) (by decide) hf ?_
  intro q6 hf
  exact pw_some hf
theorem mm_aborted_fr (S0 : md_S) (p1 : Int32) (p2 : Int32) (p3 : Int32) (p4 : Int32) (p5 : Int32) : dc_pw (mm_aborted S0 p1 p2 p3 p4 p5) (fun q => md_fr [12, 20, 27, 29] [30, 31, 32, 33, 34, 35] false false S0 q.1) := by
  have lab_78 : ∀ (S : md_S) (x1 : Int32) (x3 : Int32) (x6 : Int32) (y0 : Int32), md_fr [12, 20, 27, 29] [30, 31, 32, 33, 34, 35] false false S0 S → dc_pw (mm_aborted_L78 S x1 x3 x6 y0) (fun q => md_fr [12, 20, 27, 29] [30, 31, 32, 33, 34, 35] false false S0 q.1) := by
    intro S x1 x3 x6 y0 hf
    delta mm_aborted_L78
    refine pwS_call (mm_leaf_fr S 9 x6 x1) (by decide) hf ?_
    intro q1 hf
    refine pwS_call (mm_node_IIIIII_fr q1.1 5 y0 q1.2 (-1) x1 (-1)) (by decide) hf ?_
    intro q2 hf
    refine pwS_call (mm_waiting_fr q2.1 x1 x3 x6) (by decide) hf ?_
    intro q3 hf
    refine pwS_call (mm_node_IIIIII_fr q3.1 7 q2.2 q3.2 (-1) x1 (-1)) (by decide) hf ?_
    intro q4 hf
    refine pwS_call (mm_node_IIIIII_fr q4.1 8 q4.2 (-1) x6 x1 (-1)) (by decide) hf ?_
    intro q5 hf
    exact pw_some hf
  have lab_49 : ∀ (S : md_S) (x1 : Int32) (x2 : Int32) (x3 : Int32) (x4 : Int32) (x6 : Int32) (y0 : Int32), md_fr [12, 20, 27, 29] [30, 31, 32, 33, 34, 35] false false S0 S → dc_pw (mm_aborted_L49 S x1 x2 x3 x4 x6 y0) (fun q => md_fr [12, 20, 27, 29] [30, 31, 32, 33, 34, 35] false false S0 q.1) := by
    intro S x1 x2 x3 x4 x6 y0 hf
    delta mm_aborted_L49
    refine pw_any ?_
    intro q6
    refine pw_any ?_
    intro q7
    refine pwS_i (by decide) hf ?_
    intro S8 hf
    refine pw_if ?_ ?_
    · refine pwS_call (mm_node_IIIIII_fr S8 4 x2 (-1) (-1) x1 x3) (by decide) hf ?_
      intro q9 hf
      exact lab_78 q9.1 x1 x3 x6 q9.2 hf
    · exact lab_78 S8 x1 x3 x6 x2 hf
  have hf : md_fr [12, 20, 27, 29] [30, 31, 32, 33, 34, 35] false false S0 S0 := md_fr_rf
  delta mm_aborted
  refine pwS_i (by decide) hf ?_
  intro S10 hf
  refine pw_let ?_
  intro v11
  refine pw_let ?_
  intro v12
  refine pw_if ?_ ?_
  · exact lab_49 S10 p1 p2 p3 p4 v11 v12 hf
  · exact lab_49 S10 p1 p2 p3 p4 v11 ((v12 &&& (-2)) ||| 4) hf
theorem mm_again_fr (S0 : md_S) (p1 : Int32) (p2 : Int32) (p3 : Int32) (p4 : Int32) : dc_pw (mm_again S0 p1 p2 p3 p4) (fun q => md_fr [12, 20, 27, 29] [30, 31, 32, 33, 34, 35] false false S0 q.1) := by
  have hf : md_fr [12, 20, 27, 29] [30, 31, 32, 33, 34, 35] false false S0 S0 := md_fr_rf
  delta mm_again
  refine pwS_call (mm_halt_fr S0 p1) (by decide) hf ?_
  intro q1 hf
  refine pwS_call (mm_node_IIIIII_fr q1.1 5 p2 q1.2 (-1) p1 (-1)) (by decide) hf ?_
  intro q2 hf
  refine pw_any ?_
  intro q3
  refine pwS_call (mm_aborted_fr q2.1 p1 q2.2 p3 0 q3) (by decide) hf ?_
  intro q4 hf
  refine pwS_call (mm_node_IIIIII_fr q4.1 6 q4.2 (-1) (-1) p1 (-1)) (by decide) hf ?_
  intro q5 hf
  exact pw_some hf
theorem mm_await_fr (S0 : md_S) (p1 : Int32) (p2 : Int32) : dc_pw (mm_await S0 p1 p2) (fun q => md_fr [12, 20, 27, 29] [30, 31, 32, 33, 34, 35] false false S0 q.1) := by
  have hf : md_fr [12, 20, 27, 29] [30, 31, 32, 33, 34, 35] false false S0 S0 := md_fr_rf
  delta mm_await
  refine pwS_i (by decide) hf ?_
  intro S1 hf
  refine pw_let ?_
  intro v2
  refine pwS_i (by decide) hf ?_
  intro S3 hf
  refine pwS_call (mm_waiting_fr S3 p1 p2 v2) (by decide) hf ?_
  intro q4 hf
  refine pwS_call (mm_node_IIIIII_fr q4.1 8 q4.2 (-1) v2 p1 (-1)) (by decide) hf ?_
  intro q5 hf
  exact pw_some hf
theorem mm_exit_fr (S0 : md_S) (p1 : Int32) : dc_pw (mm_exit S0 p1) (fun q => md_fr [4, 5, 6, 7, 8, 10, 12, 27, 29] [30, 31, 32, 33, 34, 35] true false S0 q.1) := by
  have lab_87 : ∀ (S : md_S) (x1 : Int32) (x2 : Int32), md_fr [4, 5, 6, 7, 8, 10, 12, 27, 29] [30, 31, 32, 33, 34, 35] true false S0 S → dc_pw (mm_exit_L87 S x1 x2) (fun q => md_fr [4, 5, 6, 7, 8, 10, 12, 27, 29] [30, 31, 32, 33, 34, 35] true false S0 q.1) := by
    intro S x1 x2 hf
    delta mm_exit_L87
    refine pw_if ?_ ?_
    · exact pw_some hf
    · refine pwS_callv (mm_advance_fr S) (by decide) hf ?_
      intro q1 hf
      refine pwS_i (by decide) hf ?_
      intro S2 hf
      refine pw_any ?_
      intro j3
      refine pwS_call (mm_leaf_fr S2 9 (S2.2.1 26 j3) x1) (by decide) hf ?_
      intro q4 hf
      exact pw_some hf
  have lab_74 : ∀ (S : md_S) (x1 : Int32) (x2 : Int32), md_fr [4, 5, 6, 7, 8, 10, 12, 27, 29] [30, 31, 32, 33, 34, 35] true false S0 S → dc_pw (mm_exit_L74 S x1 x2) (fun q => md_fr [4, 5, 6, 7, 8, 10, 12, 27, 29] [30, 31, 32, 33, 34, 35] true false S0 q.1) := by
    intro S x1 x2 hf
    delta mm_exit_L74
    refine pw_if ?_ ?_
    · refine pwS_callv (mm_fail_fr S 2 (S.1 8)) (by decide) hf ?_
      intro q5 hf
      exact lab_87 q5 x1 x2 hf
    · exact lab_87 S x1 x2 hf
  have lab_32 : ∀ (S : md_S) (x1 : Int32) (x2 : Int32), md_fr [4, 5, 6, 7, 8, 10, 12, 27, 29] [30, 31, 32, 33, 34, 35] true false S0 S → dc_pw (mm_exit_L32 S x1 x2) (fun q => md_fr [4, 5, 6, 7, 8, 10, 12, 27, 29] [30, 31, 32, 33, 34, 35] true false S0 q.1) := by
    intro S x1 x2 hf
    delta mm_exit_L32
    refine pw_any ?_
    rintro z0
    exact lab_74 S x1 z0 hf
  have lab_16 : ∀ (S : md_S) (x1 : Int32), md_fr [4, 5, 6, 7, 8, 10, 12, 27, 29] [30, 31, 32, 33, 34, 35] true false S0 S → dc_pw (mm_exit_L16 S x1) (fun q => md_fr [4, 5, 6, 7, 8, 10, 12, 27, 29] [30, 31, 32, 33, 34, 35] true false S0 q.1) := by
    intro S x1 hf
    delta mm_exit_L16
    refine pw_if ?_ ?_
    · exact pw_some hf
    · refine pw_let ?_
      intro v9
      exact lab_32 S x1 v9 hf
  have hf : md_fr [4, 5, 6, 7, 8, 10, 12, 27, 29] [30, 31, 32, 33, 34, 35] true false S0 S0 := md_fr_rf
  delta mm_exit
  refine pw_any ?_
  intro q10
  refine pw_if ?_ ?_
  · refine pwS_callv (mm_fail_fr S0 1 (S0.1 8)) (by decide) hf ?_
    intro q11 hf
    exact lab_16 q11 p1 hf
  · exact lab_16 S0 p1 hf
theorem mm_simple_JI_fr (S0 : md_S) (p1 : Int64) (p3 : Int32) : dc_pw (mm_simple_JI S0 p1 p3) (fun q => md_fr [4, 5, 6, 7, 8, 10, 11, 12, 20, 27, 28, 29] [30, 31, 32, 33, 34, 35, 36, 37, 38] true false S0 q.1) := by
  have lab_22 : ∀ (S : md_S) (x1 : Int64) (x3 : Int32) (y0 : Int32), md_fr [4, 5, 6, 7, 8, 10, 11, 12, 20, 27, 28, 29] [30, 31, 32, 33, 34, 35, 36, 37, 38] true false S0 S → dc_pw (mm_simple_JI_L22 S x1 x3 y0) (fun q => md_fr [4, 5, 6, 7, 8, 10, 11, 12, 20, 27, 28, 29] [30, 31, 32, 33, 34, 35, 36, 37, 38] true false S0 q.1) := by
    intro S x1 x3 y0 hf
    delta mm_simple_JI_L22
    refine pwS_i (by decide) hf ?_
    intro S1 hf
    refine pw_if ?_ ?_
    · refine pwS_call (mm_leaf_fr S1 0 (-1) x3) (by decide) hf ?_
      intro q2 hf
      exact pw_some hf
    · refine pw_if ?_ ?_
      · refine pwS_call (mm_leaf_fr S1 1 (-1) x3) (by decide) hf ?_
        intro q3 hf
        exact pw_some hf
      · refine pw_if ?_ ?_
        · refine pwS_call (mm_halt_fr S1 x3) (by decide) hf ?_
          intro q4 hf
          exact pw_some hf
        · refine pw_if ?_ ?_
          · refine pwS_call (mm_named_fr S1 1) (by decide) hf ?_
            intro q5 hf
            refine pwS_call (mm_leaf_fr q5.1 2 q5.2 x3) (by decide) hf ?_
            intro q6 hf
            exact pw_some hf
          · refine pw_if ?_ ?_
            · refine pwS_call (mm_exit_fr S1 x3) (by decide) hf ?_
              intro q7 hf
              exact pw_some hf
            · refine pw_if ?_ ?_
              · refine pwS_call (mm_named_fr S1 1) (by decide) hf ?_
                intro q8 hf
                refine pwS_call (mm_leaf_fr q8.1 2 q8.2 x3) (by decide) hf ?_
                intro q9 hf
                refine pwS_call (mm_leaf_fr q9.1 1 (-1) x3) (by decide) hf ?_
                intro q10 hf
                refine pwS_call (mm_node_IIIIII_fr q10.1 5 q9.2 q10.2 (-1) x3 (-1)) (by decide) hf ?_
                intro q11 hf
                refine pwS_call (mm_node_IIIIII_fr q11.1 6 q11.2 (-1) (-1) x3 (-1)) (by decide) hf ?_
                intro q12 hf
                exact pw_some hf
              · refine pwS_call (mm_asked_r_fr S1) (by decide) hf ?_
                intro q13 hf
                refine pwS_call (mm_await_fr q13.1 x3 q13.2) (by decide) hf ?_
                intro q14 hf
                exact pw_some hf
  have lab_17 : ∀ (S : md_S) (x1 : Int64) (x3 : Int32), md_fr [4, 5, 6, 7, 8, 10, 11, 12, 20, 27, 28, 29] [30, 31, 32, 33, 34, 35, 36, 37, 38] true false S0 S → dc_pw (mm_simple_JI_L17 S x1 x3) (fun q => md_fr [4, 5, 6, 7, 8, 10, 11, 12, 20, 27, 28, 29] [30, 31, 32, 33, 34, 35, 36, 37, 38] true false S0 q.1) := by
    intro S x1 x3 hf
    delta mm_simple_JI_L17
    exact lab_22 S x1 x3 1 hf
  have hf : md_fr [4, 5, 6, 7, 8, 10, 11, 12, 20, 27, 28, 29] [30, 31, 32, 33, 34, 35, 36, 37, 38] true false S0 S0 := md_fr_rf
  delta mm_simple_JI
  refine pw_if ?_ ?_
  · exact lab_17 S0 p1 p3 hf
  · refine pw_if ?_ ?_
    · exact lab_17 S0 p1 p3 hf
    · exact lab_22 S0 p1 p3 2 hf
def mm_FR2 (T : mm_T2) : Prop := (∀ (S0 : md_S), dc_pw (T.1 S0) (fun q => md_fr [4, 5, 6, 7, 8, 10, 11, 12, 13, 14, 15, 18, 19, 20, 27, 28, 29] [21, 22, 23, 24, 25, 26, 30, 31, 32, 33, 34, 35, 36, 37, 38] true false S0 q.1)) ∧ (∀ (S0 : md_S), dc_pw (T.2.1 S0) (fun q => md_fr [4, 5, 6, 7, 8, 10, 11, 12, 13, 14, 15, 18, 19, 20, 27, 28, 29] [21, 22, 23, 24, 25, 26, 30, 31, 32, 33, 34, 35, 36, 37, 38] true false S0 q.1)) ∧ (∀ (S0 : md_S), dc_pw (T.2.2.1 S0) (fun q => md_fr [4, 5, 6, 7, 8, 10, 11, 12, 13, 14, 15, 18, 19, 20, 27, 28, 29] [21, 22, 23, 24, 25, 26, 30, 31, 32, 33, 34, 35, 36, 37, 38] true false S0 q.1)) ∧ (∀ (S0 : md_S), dc_pw (T.2.2.2.1 S0) (fun q => md_fr [4, 5, 6, 7, 8, 10, 11, 12, 13, 14, 15, 18, 19, 20, 27, 28, 29] [21, 22, 23, 24, 25, 26, 30, 31, 32, 33, 34, 35, 36, 37, 38] true false S0 q.1)) ∧ (∀ (S0 : md_S) (p1 : Int32), dc_pw (T.2.2.2.2.1 S0 p1) (fun q => md_fr [4, 5, 6, 7, 8, 10, 11, 12, 13, 14, 15, 18, 19, 20, 27, 28, 29] [21, 22, 23, 24, 25, 26, 30, 31, 32, 33, 34, 35, 36, 37, 38] true false S0 q.1)) ∧ (∀ (S0 : md_S) (p1 : Int32), dc_pw (T.2.2.2.2.2.1 S0 p1) (fun q => md_fr [4, 5, 6, 7, 8, 10, 11, 12, 13, 14, 15, 18, 19, 20, 27, 28, 29] [21, 22, 23, 24, 25, 26, 30, 31, 32, 33, 34, 35, 36, 37, 38] true false S0 q.1)) ∧ (∀ (S0 : md_S) (p1 : Int32) (p2 : Int32), dc_pw (T.2.2.2.2.2.2.1 S0 p1 p2) (fun q => md_fr [4, 5, 6, 7, 8, 10, 11, 12, 13, 14, 15, 18, 19, 20, 27, 28, 29] [21, 22, 23, 24, 25, 26, 30, 31, 32, 33, 34, 35, 36, 37, 38] true false S0 q.1)) ∧ (∀ (S0 : md_S) (p1 : Int32), dc_pw (T.2.2.2.2.2.2.2.1 S0 p1) (fun q => md_fr [4, 5, 6, 7, 8, 10, 11, 12, 13, 14, 15, 18, 19, 20, 27, 28, 29] [21, 22, 23, 24, 25, 26, 30, 31, 32, 33, 34, 35, 36, 37, 38] true false S0 q.1)) ∧ (∀ (S0 : md_S) (p1 : Int32), dc_pw (T.2.2.2.2.2.2.2.2.1 S0 p1) (fun q => md_fr [4, 5, 6, 7, 8, 10, 11, 12, 13, 14, 15, 18, 19, 20, 27, 28, 29] [21, 22, 23, 24, 25, 26, 30, 31, 32, 33, 34, 35, 36, 37, 38] true false S0 q.1)) ∧ (∀ (S0 : md_S) (p1 : Int32) (p2 : Int32), dc_pw (T.2.2.2.2.2.2.2.2.2.1 S0 p1 p2) (fun q => md_fr [4, 5, 6, 7, 8, 10, 11, 12, 13, 14, 15, 18, 19, 20, 27, 28, 29] [21, 22, 23, 24, 25, 26, 30, 31, 32, 33, 34, 35, 36, 37, 38] true false S0 q.1)) ∧ (∀ (S0 : md_S) (p1 : Int32), dc_pw (T.2.2.2.2.2.2.2.2.2.2.1 S0 p1) (fun q => md_fr [4, 5, 6, 7, 8, 10, 11, 12, 13, 14, 15, 18, 19, 20, 27, 28, 29] [21, 22, 23, 24, 25, 26, 30, 31, 32, 33, 34, 35, 36, 37, 38] true false S0 q.1)) ∧ (∀ (S0 : md_S) (p1 : Int32), dc_pw (T.2.2.2.2.2.2.2.2.2.2.2 S0 p1) (fun q => md_fr [4, 5, 6, 7, 8, 10, 11, 12, 13, 14, 15, 18, 19, 20, 27, 28, 29] [21, 22, 23, 24, 25, 26, 30, 31, 32, 33, 34, 35, 36, 37, 38] true false S0 q.1))
theorem mm_body_fr (T : mm_T2) (hT : mm_FR2 T) (S0 : md_S) : dc_pw (mm_body T S0) (fun q => md_fr [4, 5, 6, 7, 8, 10, 11, 12, 13, 14, 15, 18, 19, 20, 27, 28, 29] [21, 22, 23, 24, 25, 26, 30, 31, 32, 33, 34, 35, 36, 37, 38] true false S0 q.1) := by
  have lab_54 : ∀ (S : md_S) (x1 : Int32) (x2 : Int32), md_fr [4, 5, 6, 7, 8, 10, 11, 12, 13, 14, 15, 18, 19, 20, 27, 28, 29] [21, 22, 23, 24, 25, 26, 30, 31, 32, 33, 34, 35, 36, 37, 38] true false S0 S → dc_pw (mm_body_L54 T S x1 x2) (fun q => md_fr [4, 5, 6, 7, 8, 10, 11, 12, 13, 14, 15, 18, 19, 20, 27, 28, 29] [21, 22, 23, 24, 25, 26, 30, 31, 32, 33, 34, 35, 36, 37, 38] true false S0 q.1) := by
    intro S x1 x2 hf
    delta mm_body_L54
    refine pwS_i (by decide) hf ?_
    intro S1 hf
    exact pw_some hf
  have body_10 : ∀ (S : md_S) (x1 : Int32) (x2 : Int32), md_fr [4, 5, 6, 7, 8, 10, 11, 12, 13, 14, 15, 18, 19, 20, 27, 28, 29] [21, 22, 23, 24, 25, 26, 30, 31, 32, 33, 34, 35, 36, 37, 38] true false S0 S → dc_pw (mm_body_b10 T S x1 x2) (Sum.elim (fun (q : md_S × Int32 × Int32) => md_fr [4, 5, 6, 7, 8, 10, 11, 12, 13, 14, 15, 18, 19, 20, 27, 28, 29] [21, 22, 23, 24, 25, 26, 30, 31, 32, 33, 34, 35, 36, 37, 38] true false S0 q.1) (fun (q : md_S × Int32 × Int32) => md_fr [4, 5, 6, 7, 8, 10, 11, 12, 13, 14, 15, 18, 19, 20, 27, 28, 29] [21, 22, 23, 24, 25, 26, 30, 31, 32, 33, 34, 35, 36, 37, 38] true false S0 q.1)) := by
    intro S x1 x2 hf
    delta mm_body_b10
    refine pwS_call (mm_meetsSign_fr S 256) (by decide) hf ?_
    intro q2 hf
    refine pw_if ?_ ?_
    · exact pw_some hf
    · refine pwS_call (hT.2.1 q2.1) (by decide) hf ?_
      intro q3 hf
      refine pw_any ?_
      intro q4
      refine pw_any ?_
      intro j5
      refine pwS_call (mm_node_IIIIII_fr q3.1 7 x1 q3.2 (-1) (q3.1.2.1 34 j5) (-1)) (by decide) hf ?_
      intro q6 hf
      exact pw_some hf
  have lab_10 : ∀ (S : md_S) (x1 : Int32) (x2 : Int32), md_fr [4, 5, 6, 7, 8, 10, 11, 12, 13, 14, 15, 18, 19, 20, 27, 28, 29] [21, 22, 23, 24, 25, 26, 30, 31, 32, 33, 34, 35, 36, 37, 38] true false S0 S → dc_pw (mm_body_L10 T S x1 x2) (fun q => md_fr [4, 5, 6, 7, 8, 10, 11, 12, 13, 14, 15, 18, 19, 20, 27, 28, 29] [21, 22, 23, 24, 25, 26, 30, 31, 32, 33, 34, 35, 36, 37, 38] true false S0 q.1) := by
    intro S x1 x2 hf
    delta mm_body_L10
    refine pw_loop (fun (q : md_S × Int32 × Int32) => md_fr [4, 5, 6, 7, 8, 10, 11, 12, 13, 14, 15, 18, 19, 20, 27, 28, 29] [21, 22, 23, 24, 25, 26, 30, 31, 32, 33, 34, 35, 36, 37, 38] true false S0 q.1) (fun (q : md_S × Int32 × Int32) => md_fr [4, 5, 6, 7, 8, 10, 11, 12, 13, 14, 15, 18, 19, 20, 27, 28, 29] [21, 22, 23, 24, 25, 26, 30, 31, 32, 33, 34, 35, 36, 37, 38] true false S0 q.1) hf ?_ ?_
    · rintro ⟨S, x1, x2⟩ hf
      exact body_10 S x1 x2 hf
    · rintro ⟨Sz, z0, z1⟩ hf
      exact lab_54 Sz z0 z1 hf
  have hf : md_fr [4, 5, 6, 7, 8, 10, 11, 12, 13, 14, 15, 18, 19, 20, 27, 28, 29] [21, 22, 23, 24, 25, 26, 30, 31, 32, 33, 34, 35, 36, 37, 38] true false S0 S0 := md_fr_rf
  delta mm_body
  refine pwS_call (hT.2.1 S0) (by decide) hf ?_
  intro q7 hf
  refine pw_let ?_
  intro v8
  exact lab_10 q7.1 q7.2 v8 hf
theorem mm_row_fr (T : mm_T2) (hT : mm_FR2 T) (S0 : md_S) : dc_pw (mm_row T S0) (fun q => md_fr [4, 5, 6, 7, 8, 10, 11, 12, 13, 14, 15, 18, 19, 20, 27, 28, 29] [21, 22, 23, 24, 25, 26, 30, 31, 32, 33, 34, 35, 36, 37, 38] true false S0 q.1) := by
  have lab_52 : ∀ (S : md_S) (x1 : Int32) (x2 : Int32), md_fr [4, 5, 6, 7, 8, 10, 11, 12, 13, 14, 15, 18, 19, 20, 27, 28, 29] [21, 22, 23, 24, 25, 26, 30, 31, 32, 33, 34, 35, 36, 37, 38] true false S0 S → dc_pw (mm_row_L52 T S x1 x2) (fun q => md_fr [4, 5, 6, 7, 8, 10, 11, 12, 13, 14, 15, 18, 19, 20, 27, 28, 29] [21, 22, 23, 24, 25, 26, 30, 31, 32, 33, 34, 35, 36, 37, 38] true false S0 q.1) := by
    intro S x1 x2 hf
    delta mm_row_L52
    refine pwS_i (by decide) hf ?_
    intro S1 hf
    exact pw_some hf
  have body_10 : ∀ (S : md_S) (x1 : Int32) (x2 : Int32), md_fr [4, 5, 6, 7, 8, 10, 11, 12, 13, 14, 15, 18, 19, 20, 27, 28, 29] [21, 22, 23, 24, 25, 26, 30, 31, 32, 33, 34, 35, 36, 37, 38] true false S0 S → dc_pw (mm_row_b10 T S x1 x2) (Sum.elim (fun (q : md_S × Int32 × Int32) => md_fr [4, 5, 6, 7, 8, 10, 11, 12, 13, 14, 15, 18, 19, 20, 27, 28, 29] [21, 22, 23, 24, 25, 26, 30, 31, 32, 33, 34, 35, 36, 37, 38] true false S0 q.1) (fun (q : md_S × Int32 × Int32) => md_fr [4, 5, 6, 7, 8, 10, 11, 12, 13, 14, 15, 18, 19, 20, 27, 28, 29] [21, 22, 23, 24, 25, 26, 30, 31, 32, 33, 34, 35, 36, 37, 38] true false S0 q.1)) := by
    intro S x1 x2 hf
    delta mm_row_b10
    refine pwS_call (mm_meetsSign_fr S 59) (by decide) hf ?_
    intro q2 hf
    refine pw_if ?_ ?_
    · exact pw_some hf
    · refine pwS_call (hT.2.2.1 q2.1) (by decide) hf ?_
      intro q3 hf
      refine pw_any ?_
      intro q4
      refine pw_any ?_
      intro j5
      refine pwS_call (mm_node_IIIIII_fr q3.1 5 x1 q3.2 (-1) (q3.1.2.1 34 j5) (-1)) (by decide) hf ?_
      intro q6 hf
      exact pw_some hf
  have lab_10 : ∀ (S : md_S) (x1 : Int32) (x2 : Int32), md_fr [4, 5, 6, 7, 8, 10, 11, 12, 13, 14, 15, 18, 19, 20, 27, 28, 29] [21, 22, 23, 24, 25, 26, 30, 31, 32, 33, 34, 35, 36, 37, 38] true false S0 S → dc_pw (mm_row_L10 T S x1 x2) (fun q => md_fr [4, 5, 6, 7, 8, 10, 11, 12, 13, 14, 15, 18, 19, 20, 27, 28, 29] [21, 22, 23, 24, 25, 26, 30, 31, 32, 33, 34, 35, 36, 37, 38] true false S0 q.1) := by
    intro S x1 x2 hf
    delta mm_row_L10
    refine pw_loop (fun (q : md_S × Int32 × Int32) => md_fr [4, 5, 6, 7, 8, 10, 11, 12, 13, 14, 15, 18, 19, 20, 27, 28, 29] [21, 22, 23, 24, 25, 26, 30, 31, 32, 33, 34, 35, 36, 37, 38] true false S0 q.1) (fun (q : md_S × Int32 × Int32) => md_fr [4, 5, 6, 7, 8, 10, 11, 12, 13, 14, 15, 18, 19, 20, 27, 28, 29] [21, 22, 23, 24, 25, 26, 30, 31, 32, 33, 34, 35, 36, 37, 38] true false S0 q.1) hf ?_ ?_
    · rintro ⟨S, x1, x2⟩ hf
      exact body_10 S x1 x2 hf
    · rintro ⟨Sz, z0, z1⟩ hf
      exact lab_52 Sz z0 z1 hf
  have hf : md_fr [4, 5, 6, 7, 8, 10, 11, 12, 13, 14, 15, 18, 19, 20, 27, 28, 29] [21, 22, 23, 24, 25, 26, 30, 31, 32, 33, 34, 35, 36, 37, 38] true false S0 S0 := md_fr_rf
  delta mm_row
  refine pwS_call (hT.2.2.1 S0) (by decide) hf ?_
  intro q7 hf
  refine pw_let ?_
  intro v8
  exact lab_10 q7.1 q7.2 v8 hf
theorem mm_statement_fr (T : mm_T2) (hT : mm_FR2 T) (S0 : md_S) : dc_pw (mm_statement T S0) (fun q => md_fr [4, 5, 6, 7, 8, 10, 11, 12, 13, 14, 15, 18, 19, 20, 27, 28, 29] [21, 22, 23, 24, 25, 26, 30, 31, 32, 33, 34, 35, 36, 37, 38] true false S0 q.1) := by
  have lab_236 : ∀ (S : md_S) (y0 : Int32), md_fr [4, 5, 6, 7, 8, 10, 11, 12, 13, 14, 15, 18, 19, 20, 27, 28, 29] [21, 22, 23, 24, 25, 26, 30, 31, 32, 33, 34, 35, 36, 37, 38] true false S0 S → dc_pw (mm_statement_L236 T S y0) (fun q => md_fr [4, 5, 6, 7, 8, 10, 11, 12, 13, 14, 15, 18, 19, 20, 27, 28, 29] [21, 22, 23, 24, 25, 26, 30, 31, 32, 33, 34, 35, 36, 37, 38] true false S0 q.1) := by
    intro S y0 hf
    delta mm_statement_L236
    refine pwS_i (by decide) hf ?_
    intro S1 hf
    exact pw_some hf
  have lab_68 : ∀ (S : md_S) (x1 : Int32) (x2 : Int64) (x4 : Int32), md_fr [4, 5, 6, 7, 8, 10, 11, 12, 13, 14, 15, 18, 19, 20, 27, 28, 29] [21, 22, 23, 24, 25, 26, 30, 31, 32, 33, 34, 35, 36, 37, 38] true false S0 S → dc_pw (mm_statement_L68 T S x1 x2 x4) (fun q => md_fr [4, 5, 6, 7, 8, 10, 11, 12, 13, 14, 15, 18, 19, 20, 27, 28, 29] [21, 22, 23, 24, 25, 26, 30, 31, 32, 33, 34, 35, 36, 37, 38] true false S0 q.1) := by
    intro S x1 x2 x4 hf
    delta mm_statement_L68
    refine pw_if ?_ ?_
    · exact pw_some hf
    · refine pw_let ?_
      intro v2
      refine pwS_callv (mm_advance_fr S) (by decide) hf ?_
      intro q3 hf
      refine pw_if ?_ ?_
      · refine pw_if ?_ ?_
        · refine pwS_call (hT.2.2.2.2.1 q3 x1) (by decide) hf ?_
          intro q4 hf
          exact lab_236 q4.1 q4.2 hf
        · refine pw_if ?_ ?_
          · refine pwS_call (hT.2.2.2.2.2.1 q3 x1) (by decide) hf ?_
            intro q5 hf
            exact lab_236 q5.1 q5.2 hf
          · refine pw_if ?_ ?_
            · refine pwS_call (hT.2.2.2.2.2.2.1 q3 x1 v2) (by decide) hf ?_
              intro q6 hf
              exact lab_236 q6.1 q6.2 hf
            · refine pw_if ?_ ?_
              · refine pwS_call (hT.2.2.2.2.2.2.2.1 q3 x1) (by decide) hf ?_
                intro q7 hf
                exact lab_236 q7.1 q7.2 hf
              · refine pw_if ?_ ?_
                · refine pwS_call (hT.2.2.2.2.2.2.2.2.1 q3 x1) (by decide) hf ?_
                  intro q8 hf
                  exact lab_236 q8.1 q8.2 hf
                · refine pw_if ?_ ?_
                  · refine pwS_call (hT.2.2.2.2.2.2.2.2.2.1 q3 x1 0) (by decide) hf ?_
                    intro q9 hf
                    exact lab_236 q9.1 q9.2 hf
                  · refine pw_if ?_ ?_
                    · refine pwS_call (hT.2.2.2.2.2.2.2.2.2.2.1 q3 x1) (by decide) hf ?_
                      intro q10 hf
                      exact lab_236 q10.1 q10.2 hf
                    · refine pw_if ?_ ?_
                      · refine pwS_call (hT.2.2.2.2.2.2.2.2.2.2.2 q3 x1) (by decide) hf ?_
                        intro q11 hf
                        exact lab_236 q11.1 q11.2 hf
                      · refine pwS_call (mm_simple_JI_fr q3 x2 x1) (by decide) hf ?_
                        intro q12 hf
                        exact lab_236 q12.1 q12.2 hf
      · refine pwS_call (hT.2.2.2.1 q3) (by decide) hf ?_
        intro q13 hf
        exact lab_236 q13.1 q13.2 hf
  have lab_57 : ∀ (S : md_S) (x1 : Int32) (x2 : Int64) (x4 : Int32), md_fr [4, 5, 6, 7, 8, 10, 11, 12, 13, 14, 15, 18, 19, 20, 27, 28, 29] [21, 22, 23, 24, 25, 26, 30, 31, 32, 33, 34, 35, 36, 37, 38] true false S0 S → dc_pw (mm_statement_L57 T S x1 x2 x4) (fun q => md_fr [4, 5, 6, 7, 8, 10, 11, 12, 13, 14, 15, 18, 19, 20, 27, 28, 29] [21, 22, 23, 24, 25, 26, 30, 31, 32, 33, 34, 35, 36, 37, 38] true false S0 q.1) := by
    intro S x1 x2 x4 hf
    delta mm_statement_L57
    refine pw_if ?_ ?_
    · refine pwS_callv (mm_deeper_fr S) (by decide) hf ?_
      intro q14 hf
      exact lab_68 q14 x1 x2 x4 hf
    · exact lab_68 S x1 x2 x4 hf
  have lab_51 : ∀ (S : md_S) (x1 : Int32) (x2 : Int64) (x4 : Int32), md_fr [4, 5, 6, 7, 8, 10, 11, 12, 13, 14, 15, 18, 19, 20, 27, 28, 29] [21, 22, 23, 24, 25, 26, 30, 31, 32, 33, 34, 35, 36, 37, 38] true false S0 S → dc_pw (mm_statement_L51 T S x1 x2 x4) (fun q => md_fr [4, 5, 6, 7, 8, 10, 11, 12, 13, 14, 15, 18, 19, 20, 27, 28, 29] [21, 22, 23, 24, 25, 26, 30, 31, 32, 33, 34, 35, 36, 37, 38] true false S0 q.1) := by
    intro S x1 x2 x4 hf
    delta mm_statement_L51
    refine pwS_callv (mm_fail_fr S 1 x1) (by decide) hf ?_
    intro q15 hf
    exact lab_57 q15 x1 x2 x4 hf
  have lab_23 : ∀ (S : md_S) (x1 : Int32) (y0 : Int64), md_fr [4, 5, 6, 7, 8, 10, 11, 12, 13, 14, 15, 18, 19, 20, 27, 28, 29] [21, 22, 23, 24, 25, 26, 30, 31, 32, 33, 34, 35, 36, 37, 38] true false S0 S → dc_pw (mm_statement_L23 T S x1 y0) (fun q => md_fr [4, 5, 6, 7, 8, 10, 11, 12, 13, 14, 15, 18, 19, 20, 27, 28, 29] [21, 22, 23, 24, 25, 26, 30, 31, 32, 33, 34, 35, 36, 37, 38] true false S0 q.1) := by
    intro S x1 y0 hf
    delta mm_statement_L23
    refine pw_any ?_
    intro q16
    refine pw_if ?_ ?_
    · refine pw_any ?_
      intro q17
      refine pw_if ?_ ?_
      · exact lab_51 S x1 y0 q16 hf
      · refine pw_any ?_
        intro q18
        refine pw_if ?_ ?_
        · exact lab_51 S x1 y0 q16 hf
        · exact lab_57 S x1 y0 q16 hf
    · exact lab_57 S x1 y0 q16 hf
  have hf : md_fr [4, 5, 6, 7, 8, 10, 11, 12, 13, 14, 15, 18, 19, 20, 27, 28, 29] [21, 22, 23, 24, 25, 26, 30, 31, 32, 33, 34, 35, 36, 37, 38] true false S0 S0 := md_fr_rf
  delta mm_statement
  refine pw_let ?_
  intro v19
  refine pw_if ?_ ?_
  · exact lab_23 S0 v19 S0.2.2.1 hf
  · exact lab_23 S0 v19 (-1) hf
theorem mm_closed_fr (T : mm_T2) (hT : mm_FR2 T) (S0 : md_S) : dc_pw (mm_closed T S0) (fun q => md_fr [4, 5, 6, 7, 8, 10, 11, 12, 13, 14, 15, 18, 19, 20, 27, 28, 29] [21, 22, 23, 24, 25, 26, 30, 31, 32, 33, 34, 35, 36, 37, 38] true false S0 q.1) := by
  have lab_23 : ∀ (S : md_S) (x1 : Int32), md_fr [4, 5, 6, 7, 8, 10, 11, 12, 13, 14, 15, 18, 19, 20, 27, 28, 29] [21, 22, 23, 24, 25, 26, 30, 31, 32, 33, 34, 35, 36, 37, 38] true false S0 S → dc_pw (mm_closed_L23 T S x1) (fun q => md_fr [4, 5, 6, 7, 8, 10, 11, 12, 13, 14, 15, 18, 19, 20, 27, 28, 29] [21, 22, 23, 24, 25, 26, 30, 31, 32, 33, 34, 35, 36, 37, 38] true false S0 q.1) := by
    intro S x1 hf
    delta mm_closed_L23
    exact pw_some hf
  have hf : md_fr [4, 5, 6, 7, 8, 10, 11, 12, 13, 14, 15, 18, 19, 20, 27, 28, 29] [21, 22, 23, 24, 25, 26, 30, 31, 32, 33, 34, 35, 36, 37, 38] true false S0 S0 := md_fr_rf
  delta mm_closed
  refine pwS_call (hT.1 S0) (by decide) hf ?_
  intro q1 hf
  refine pwS_call (mm_meetsSign_fr q1.1 41) (by decide) hf ?_
  intro q2 hf
  refine pw_if ?_ ?_
  · refine pwS_callv (mm_fail_fr q2.1 1 (q2.1.1 8)) (by decide) hf ?_
    intro q3 hf
    exact lab_23 q3 q1.2 hf
  · exact lab_23 q2.1 q1.2 hf
theorem mm_present_I_fr (T : mm_T2) (hT : mm_FR2 T) (S0 : md_S) (p1 : Int32) : dc_pw (mm_present_I T S0 p1) (fun q => md_fr [4, 5, 6, 7, 8, 10, 11, 12, 13, 14, 15, 18, 19, 20, 27, 28, 29] [21, 22, 23, 24, 25, 26, 30, 31, 32, 33, 34, 35, 36, 37, 38] true false S0 q.1) := by
  have lab_157 : ∀ (S : md_S) (x1 : Int32) (x2 : Int32) (x3 : Int32) (y0 : Int32), md_fr [4, 5, 6, 7, 8, 10, 11, 12, 13, 14, 15, 18, 19, 20, 27, 28, 29] [21, 22, 23, 24, 25, 26, 30, 31, 32, 33, 34, 35, 36, 37, 38] true false S0 S → dc_pw (mm_present_I_L157 T S x1 x2 x3 y0) (fun q => md_fr [4, 5, 6, 7, 8, 10, 11, 12, 13, 14, 15, 18, 19, 20, 27, 28, 29] [21, 22, 23, 24, 25, 26, 30, 31, 32, 33, 34, 35, 36, 37, 38] true false S0 q.1) := by
    intro S x1 x2 x3 y0 hf
    delta mm_present_I_L157
    refine pwS_call (mm_node_IIIIII_fr S 3 x3 y0 (-1) x1 x2) (by decide) hf ?_
    intro q1 hf
    exact pw_some hf
  have lab_138 : ∀ (S : md_S) (x1 : Int32) (x2 : Int32) (x4 : Int32) (y0 : Int32), md_fr [4, 5, 6, 7, 8, 10, 11, 12, 13, 14, 15, 18, 19, 20, 27, 28, 29] [21, 22, 23, 24, 25, 26, 30, 31, 32, 33, 34, 35, 36, 37, 38] true false S0 S → dc_pw (mm_present_I_L138 T S x1 x2 x4 y0) (fun q => md_fr [4, 5, 6, 7, 8, 10, 11, 12, 13, 14, 15, 18, 19, 20, 27, 28, 29] [21, 22, 23, 24, 25, 26, 30, 31, 32, 33, 34, 35, 36, 37, 38] true false S0 q.1) := by
    intro S x1 x2 x4 y0 hf
    delta mm_present_I_L138
    refine pw_if ?_ ?_
    · refine pwS_call (mm_leaf_fr S 0 (-1) x1) (by decide) hf ?_
      intro q2 hf
      exact lab_157 q2.1 x1 x2 y0 q2.2 hf
    · exact lab_157 S x1 x2 y0 x4 hf
  have lab_109 : ∀ (S : md_S) (x1 : Int32) (x2 : Int32) (x3 : Int32) (x4 : Int32) (x5 : Int32), md_fr [4, 5, 6, 7, 8, 10, 11, 12, 13, 14, 15, 18, 19, 20, 27, 28, 29] [21, 22, 23, 24, 25, 26, 30, 31, 32, 33, 34, 35, 36, 37, 38] true false S0 S → dc_pw (mm_present_I_L109 T S x1 x2 x3 x4 x5) (fun q => md_fr [4, 5, 6, 7, 8, 10, 11, 12, 13, 14, 15, 18, 19, 20, 27, 28, 29] [21, 22, 23, 24, 25, 26, 30, 31, 32, 33, 34, 35, 36, 37, 38] true false S0 q.1) := by
    intro S x1 x2 x3 x4 x5 hf
    delta mm_present_I_L109
    refine pwS_callv (mm_mustWord_fr S 6647396) (by decide) hf ?_
    intro q3 hf
    refine pwS_i (by decide) hf ?_
    intro S4 hf
    refine pw_if ?_ ?_
    · refine pwS_call (mm_leaf_fr S4 0 (-1) x1) (by decide) hf ?_
      intro q5 hf
      exact lab_138 q5.1 x1 x2 x4 q5.2 hf
    · exact lab_138 S4 x1 x2 x4 x3 hf
  have lab_75 : ∀ (S : md_S) (x1 : Int32) (x2 : Int32) (x3 : Int32) (x4 : Int32) (x5 : Int32), md_fr [4, 5, 6, 7, 8, 10, 11, 12, 13, 14, 15, 18, 19, 20, 27, 28, 29] [21, 22, 23, 24, 25, 26, 30, 31, 32, 33, 34, 35, 36, 37, 38] true false S0 S → dc_pw (mm_present_I_L75 T S x1 x2 x3 x4 x5) (fun q => md_fr [4, 5, 6, 7, 8, 10, 11, 12, 13, 14, 15, 18, 19, 20, 27, 28, 29] [21, 22, 23, 24, 25, 26, 30, 31, 32, 33, 34, 35, 36, 37, 38] true false S0 q.1) := by
    intro S x1 x2 x3 x4 x5 hf
    delta mm_present_I_L75
    refine pwS_call (mm_meetsWord_fr S 1701606245) (by decide) hf ?_
    intro q6 hf
    refine pw_if ?_ ?_
    · refine pw_let ?_
      intro v7
      exact lab_109 q6.1 x1 x2 x3 x4 v7 hf
    · refine pwS_call (hT.1 q6.1) (by decide) hf ?_
      intro q8 hf
      refine pw_let ?_
      intro v9
      exact lab_109 q8.1 x1 x2 x3 q8.2 v9 hf
  have lab_34 : ∀ (S : md_S) (x1 : Int32) (x2 : Int32), md_fr [4, 5, 6, 7, 8, 10, 11, 12, 13, 14, 15, 18, 19, 20, 27, 28, 29] [21, 22, 23, 24, 25, 26, 30, 31, 32, 33, 34, 35, 36, 37, 38] true false S0 S → dc_pw (mm_present_I_L34 T S x1 x2) (fun q => md_fr [4, 5, 6, 7, 8, 10, 11, 12, 13, 14, 15, 18, 19, 20, 27, 28, 29] [21, 22, 23, 24, 25, 26, 30, 31, 32, 33, 34, 35, 36, 37, 38] true false S0 q.1) := by
    intro S x1 x2 hf
    delta mm_present_I_L34
    refine pwS_call (mm_meetsWord_fr S 1952998766) (by decide) hf ?_
    intro q10 hf
    refine pw_if ?_ ?_
    · refine pw_let ?_
      intro v11
      exact lab_75 q10.1 x1 x2 (-1) (-1) v11 hf
    · refine pwS_call (hT.1 q10.1) (by decide) hf ?_
      intro q12 hf
      refine pw_let ?_
      intro v13
      exact lab_75 q12.1 x1 x2 q12.2 (-1) v13 hf
  have hf : md_fr [4, 5, 6, 7, 8, 10, 11, 12, 13, 14, 15, 18, 19, 20, 27, 28, 29] [21, 22, 23, 24, 25, 26, 30, 31, 32, 33, 34, 35, 36, 37, 38] true false S0 S0 := md_fr_rf
  delta mm_present_I
  refine pwS_call (mm_asked_r_fr S0) (by decide) hf ?_
  intro q14 hf
  refine pw_any ?_
  intro q15
  refine pw_if ?_ ?_
  · refine pw_any ?_
    intro q16
    refine pw_if ?_ ?_
    · refine pwS_callv (mm_fail_fr q14.1 1 (q14.1.1 8)) (by decide) hf ?_
      intro q17 hf
      exact lab_34 q17 p1 q14.2 hf
    · exact lab_34 q14.1 p1 q14.2 hf
  · exact lab_34 q14.1 p1 q14.2 hf
theorem mm_suspend_fr (T : mm_T2) (hT : mm_FR2 T) (S0 : md_S) (p1 : Int32) : dc_pw (mm_suspend T S0 p1) (fun q => md_fr [4, 5, 6, 7, 8, 10, 11, 12, 13, 14, 15, 18, 19, 20, 27, 28, 29] [21, 22, 23, 24, 25, 26, 30, 31, 32, 33, 34, 35, 36, 37, 38] true false S0 q.1) := by
  have lab_32 : ∀ (S : md_S) (x1 : Int32) (x2 : Int32) (x3 : Int32) (y0 : Int32), md_fr [4, 5, 6, 7, 8, 10, 11, 12, 13, 14, 15, 18, 19, 20, 27, 28, 29] [21, 22, 23, 24, 25, 26, 30, 31, 32, 33, 34, 35, 36, 37, 38] true false S0 S → dc_pw (mm_suspend_L32 T S x1 x2 x3 y0) (fun q => md_fr [4, 5, 6, 7, 8, 10, 11, 12, 13, 14, 15, 18, 19, 20, 27, 28, 29] [21, 22, 23, 24, 25, 26, 30, 31, 32, 33, 34, 35, 36, 37, 38] true false S0 q.1) := by
    intro S x1 x2 x3 y0 hf
    delta mm_suspend_L32
    refine pwS_callv (mm_mustWord_fr S 6647396) (by decide) hf ?_
    intro q1 hf
    refine pwS_i (by decide) hf ?_
    intro S2 hf
    refine pwS_call (mm_node_IIIIII_fr S2 4 x2 (-1) (-1) x1 y0) (by decide) hf ?_
    intro q3 hf
    exact pw_some hf
  have hf : md_fr [4, 5, 6, 7, 8, 10, 11, 12, 13, 14, 15, 18, 19, 20, 27, 28, 29] [21, 22, 23, 24, 25, 26, 30, 31, 32, 33, 34, 35, 36, 37, 38] true false S0 S0 := md_fr_rf
  delta mm_suspend
  refine pwS_call (hT.1 S0) (by decide) hf ?_
  intro q4 hf
  refine pw_let ?_
  intro v5
  refine pwS_callv (mm_mustWord_fr q4.1 2003330414) (by decide) hf ?_
  intro q6 hf
  refine pw_if ?_ ?_
  · exact lab_32 q6 p1 q4.2 v5 0 hf
  · refine pwS_call (mm_asked_r_fr q6) (by decide) hf ?_
    intro q7 hf
    exact lab_32 q7.1 p1 q4.2 v5 q7.2 hf
theorem mm_loop_fr (T : mm_T2) (hT : mm_FR2 T) (S0 : md_S) (p1 : Int32) (p2 : Int32) : dc_pw (mm_loop T S0 p1 p2) (fun q => md_fr [4, 5, 6, 7, 8, 10, 11, 12, 13, 14, 15, 18, 19, 20, 27, 28, 29] [21, 22, 23, 24, 25, 26, 30, 31, 32, 33, 34, 35, 36, 37, 38] true false S0 q.1) := by
  have lab_90 : ∀ (S : md_S) (x1 : Int32) (x3 : Int32) (x4 : Int32) (y0 : Int32), md_fr [4, 5, 6, 7, 8, 10, 11, 12, 13, 14, 15, 18, 19, 20, 27, 28, 29] [21, 22, 23, 24, 25, 26, 30, 31, 32, 33, 34, 35, 36, 37, 38] true false S0 S → dc_pw (mm_loop_L90 T S x1 x3 x4 y0) (fun q => md_fr [4, 5, 6, 7, 8, 10, 11, 12, 13, 14, 15, 18, 19, 20, 27, 28, 29] [21, 22, 23, 24, 25, 26, 30, 31, 32, 33, 34, 35, 36, 37, 38] true false S0 q.1) := by
    intro S x1 x3 x4 y0 hf
    delta mm_loop_L90
    refine pwS_callv (mm_mustWord_fr S 6647396) (by decide) hf ?_
    intro q1 hf
    refine pwS_call (mm_again_fr q1 x1 x3 y0 x4) (by decide) hf ?_
    intro q2 hf
    exact pw_some hf
  have lab_56 : ∀ (S : md_S) (x1 : Int32) (x3 : Int32), md_fr [4, 5, 6, 7, 8, 10, 11, 12, 13, 14, 15, 18, 19, 20, 27, 28, 29] [21, 22, 23, 24, 25, 26, 30, 31, 32, 33, 34, 35, 36, 37, 38] true false S0 S → dc_pw (mm_loop_L56 T S x1 x3) (fun q => md_fr [4, 5, 6, 7, 8, 10, 11, 12, 13, 14, 15, 18, 19, 20, 27, 28, 29] [21, 22, 23, 24, 25, 26, 30, 31, 32, 33, 34, 35, 36, 37, 38] true false S0 q.1) := by
    intro S x1 x3 hf
    delta mm_loop_L56
    refine pwS_call (mm_node_IIIIII_fr S 6 x3 (-1) (-1) x1 (-1)) (by decide) hf ?_
    intro q3 hf
    exact pw_some hf
  have hf : md_fr [4, 5, 6, 7, 8, 10, 11, 12, 13, 14, 15, 18, 19, 20, 27, 28, 29] [21, 22, 23, 24, 25, 26, 30, 31, 32, 33, 34, 35, 36, 37, 38] true false S0 S0 := md_fr_rf
  delta mm_loop
  refine pwS_call (hT.1 S0) (by decide) hf ?_
  intro q4 hf
  refine pw_let ?_
  intro v5
  refine pw_if ?_ ?_
  · exact pw_some hf
  · refine pwS_call (mm_meetsWord_fr q4.1 6647396) (by decide) hf ?_
    intro q6 hf
    refine pw_if ?_ ?_
    · refine pwS_callv (mm_mustWord_fr q6.1 1700881256) (by decide) hf ?_
      intro q7 hf
      refine pw_if ?_ ?_
      · exact lab_90 q7 p1 q4.2 v5 0 hf
      · refine pwS_call (mm_asked_r_fr q7) (by decide) hf ?_
        intro q8 hf
        exact lab_90 q8.1 p1 q4.2 v5 q8.2 hf
    · refine pw_if ?_ ?_
      · refine pw_if ?_ ?_
        · refine pwS_i (by decide) hf ?_
          intro S9 hf
          refine pwS_i (by decide) hf ?_
          intro S10 hf
          exact lab_56 S10 p1 q4.2 hf
        · exact lab_56 q6.1 p1 q4.2 hf
      · exact lab_56 q6.1 p1 q4.2 hf
theorem mm_trap_fr (T : mm_T2) (hT : mm_FR2 T) (S0 : md_S) (p1 : Int32) : dc_pw (mm_trap T S0 p1) (fun q => md_fr [4, 5, 6, 7, 8, 10, 11, 12, 13, 14, 15, 18, 19, 20, 27, 28, 29] [21, 22, 23, 24, 25, 26, 30, 31, 32, 33, 34, 35, 36, 37, 38] true false S0 q.1) := by
  have lab_117 : ∀ (S : md_S) (x1 : Int32) (x2 : Int32) (y0 : Int32), md_fr [4, 5, 6, 7, 8, 10, 11, 12, 13, 14, 15, 18, 19, 20, 27, 28, 29] [21, 22, 23, 24, 25, 26, 30, 31, 32, 33, 34, 35, 36, 37, 38] true false S0 S → dc_pw (mm_trap_L117 T S x1 x2 y0) (fun q => md_fr [4, 5, 6, 7, 8, 10, 11, 12, 13, 14, 15, 18, 19, 20, 27, 28, 29] [21, 22, 23, 24, 25, 26, 30, 31, 32, 33, 34, 35, 36, 37, 38] true false S0 q.1) := by
    intro S x1 x2 y0 hf
    delta mm_trap_L117
    refine pwS_callv (mm_mustWord_fr S 6647396) (by decide) hf ?_
    intro q1 hf
    refine pwS_i (by decide) hf ?_
    intro S2 hf
    refine pw_any ?_
    intro q3
    refine pwS_i (by decide) hf ?_
    intro S4 hf
    refine pwS_call (mm_node_IIIIII_fr S4 8 y0 (-1) x2 x1 (-1)) (by decide) hf ?_
    intro q5 hf
    exact pw_some hf
  have lab_16 : ∀ (S : md_S) (x1 : Int32), md_fr [4, 5, 6, 7, 8, 10, 11, 12, 13, 14, 15, 18, 19, 20, 27, 28, 29] [21, 22, 23, 24, 25, 26, 30, 31, 32, 33, 34, 35, 36, 37, 38] true false S0 S → dc_pw (mm_trap_L16 T S x1) (fun q => md_fr [4, 5, 6, 7, 8, 10, 11, 12, 13, 14, 15, 18, 19, 20, 27, 28, 29] [21, 22, 23, 24, 25, 26, 30, 31, 32, 33, 34, 35, 36, 37, 38] true false S0 q.1) := by
    intro S x1 hf
    delta mm_trap_L16
    refine pw_if ?_ ?_
    · exact pw_some hf
    · refine pwS_i (by decide) hf ?_
      intro S6 hf
      refine pw_let ?_
      intro v7
      refine pw_any ?_
      intro j8
      refine pwS_a (by decide) hf ?_
      intro S9 hf
      refine pw_any ?_
      intro j10
      refine pwS_a (by decide) hf ?_
      intro S11 hf
      refine pw_any ?_
      intro j12
      refine pwS_a (by decide) hf ?_
      intro S13 hf
      refine pwS_i (by decide) hf ?_
      intro S14 hf
      refine pwS_callv (mm_advance_fr S14) (by decide) hf ?_
      intro q15 hf
      refine pwS_callv (mm_mustWord_fr q15 26990) (by decide) hf ?_
      intro q16 hf
      refine pw_if ?_ ?_
      · exact lab_117 q16 x1 v7 0 hf
      · refine pwS_call (hT.1 q16) (by decide) hf ?_
        intro q17 hf
        exact lab_117 q17.1 x1 v7 q17.2 hf
  have hf : md_fr [4, 5, 6, 7, 8, 10, 11, 12, 13, 14, 15, 18, 19, 20, 27, 28, 29] [21, 22, 23, 24, 25, 26, 30, 31, 32, 33, 34, 35, 36, 37, 38] true false S0 S0 := md_fr_rf
  delta mm_trap
  refine pw_any ?_
  intro q18
  refine pw_if ?_ ?_
  · refine pwS_callv (mm_fail_fr S0 1 (S0.1 8)) (by decide) hf ?_
    intro q19 hf
    exact lab_16 q19 p1 hf
  · exact lab_16 S0 p1 hf
theorem mm_locals_fr (T : mm_T2) (hT : mm_FR2 T) (S0 : md_S) (p1 : Int32) : dc_pw (mm_locals T S0 p1) (fun q => md_fr [4, 5, 6, 7, 8, 10, 11, 12, 13, 14, 15, 18, 19, 20, 27, 28, 29] [21, 22, 23, 24, 25, 26, 30, 31, 32, 33, 34, 35, 36, 37, 38] true false S0 q.1) := by
  have lab_97 : ∀ (S : md_S) (x5 : Int32), md_fr [4, 5, 6, 7, 8, 10, 11, 12, 13, 14, 15, 18, 19, 20, 27, 28, 29] [21, 22, 23, 24, 25, 26, 30, 31, 32, 33, 34, 35, 36, 37, 38] true false S0 S → dc_pw (mm_locals_L97 T S x5) (fun q => md_fr [4, 5, 6, 7, 8, 10, 11, 12, 13, 14, 15, 18, 19, 20, 27, 28, 29] [21, 22, 23, 24, 25, 26, 30, 31, 32, 33, 34, 35, 36, 37, 38] true false S0 q.1) := by
    intro S x5 hf
    delta mm_locals_L97
    exact pw_some hf
  have body_63 : ∀ (S : md_S) (x1 : Int32) (x3 : Int32) (x5 : Int32) (x6 : Int32), md_fr [4, 5, 6, 7, 8, 10, 11, 12, 13, 14, 15, 18, 19, 20, 27, 28, 29] [21, 22, 23, 24, 25, 26, 30, 31, 32, 33, 34, 35, 36, 37, 38] true false S0 S → dc_pw (mm_locals_b63 T S x1 x3 x5 x6) (Sum.elim (fun (q : md_S × Int32 × Int32) => md_fr [4, 5, 6, 7, 8, 10, 11, 12, 13, 14, 15, 18, 19, 20, 27, 28, 29] [21, 22, 23, 24, 25, 26, 30, 31, 32, 33, 34, 35, 36, 37, 38] true false S0 q.1) (fun (q : md_S × Int32) => md_fr [4, 5, 6, 7, 8, 10, 11, 12, 13, 14, 15, 18, 19, 20, 27, 28, 29] [21, 22, 23, 24, 25, 26, 30, 31, 32, 33, 34, 35, 36, 37, 38] true false S0 q.1)) := by
    intro S x1 x3 x5 x6 hf
    delta mm_locals_b63
    refine pw_if ?_ ?_
    · exact pw_some hf
    · refine pw_if ?_ ?_
      · refine pwS_call (mm_node_IIIIII_fr S 10 x5 (-1) x6 x1 (-1)) (by decide) hf ?_
        intro q1 hf
        exact pw_some hf
      · exact pw_some hf
  have lab_63 : ∀ (S : md_S) (x1 : Int32) (x3 : Int32) (x5 : Int32) (x6 : Int32), md_fr [4, 5, 6, 7, 8, 10, 11, 12, 13, 14, 15, 18, 19, 20, 27, 28, 29] [21, 22, 23, 24, 25, 26, 30, 31, 32, 33, 34, 35, 36, 37, 38] true false S0 S → dc_pw (mm_locals_L63 T S x1 x3 x5 x6) (fun q => md_fr [4, 5, 6, 7, 8, 10, 11, 12, 13, 14, 15, 18, 19, 20, 27, 28, 29] [21, 22, 23, 24, 25, 26, 30, 31, 32, 33, 34, 35, 36, 37, 38] true false S0 q.1) := by
    intro S x1 x3 x5 x6 hf
    delta mm_locals_L63
    refine pw_loop (fun (q : md_S × Int32 × Int32) => md_fr [4, 5, 6, 7, 8, 10, 11, 12, 13, 14, 15, 18, 19, 20, 27, 28, 29] [21, 22, 23, 24, 25, 26, 30, 31, 32, 33, 34, 35, 36, 37, 38] true false S0 q.1) (fun (q : md_S × Int32) => md_fr [4, 5, 6, 7, 8, 10, 11, 12, 13, 14, 15, 18, 19, 20, 27, 28, 29] [21, 22, 23, 24, 25, 26, 30, 31, 32, 33, 34, 35, 36, 37, 38] true false S0 q.1) hf ?_ ?_
    · rintro ⟨S, x5, x6⟩ hf
      exact body_63 S x1 x3 x5 x6 hf
    · rintro ⟨Sz, z0⟩ hf
      exact lab_97 Sz z0 hf
  have lab_43 : ∀ (S : md_S) (x1 : Int32) (x2 : Int32) (x3 : Int32) (x4 : Int32) (y0 : Int32), md_fr [4, 5, 6, 7, 8, 10, 11, 12, 13, 14, 15, 18, 19, 20, 27, 28, 29] [21, 22, 23, 24, 25, 26, 30, 31, 32, 33, 34, 35, 36, 37, 38] true false S0 S → dc_pw (mm_locals_L43 T S x1 x2 x3 x4 y0) (fun q => md_fr [4, 5, 6, 7, 8, 10, 11, 12, 13, 14, 15, 18, 19, 20, 27, 28, 29] [21, 22, 23, 24, 25, 26, 30, 31, 32, 33, 34, 35, 36, 37, 38] true false S0 q.1) := by
    intro S x1 x2 x3 x4 y0 hf
    delta mm_locals_L43
    refine pwS_callv (mm_mustWord_fr S 6647396) (by decide) hf ?_
    intro q2 hf
    refine pwS_i (by decide) hf ?_
    intro S3 hf
    refine pw_let ?_
    intro v4
    exact lab_63 S3 x1 x3 y0 v4 hf
  have hf : md_fr [4, 5, 6, 7, 8, 10, 11, 12, 13, 14, 15, 18, 19, 20, 27, 28, 29] [21, 22, 23, 24, 25, 26, 30, 31, 32, 33, 34, 35, 36, 37, 38] true false S0 S0 := md_fr_rf
  delta mm_locals
  refine pw_let ?_
  intro v5
  refine pw_let ?_
  intro v6
  refine pwS_callv (mm_list_fr S0 v5) (by decide) hf ?_
  intro q7 hf
  refine pwS_callv (mm_mustWord_fr q7 26990) (by decide) hf ?_
  intro q8 hf
  refine pw_let ?_
  intro v9
  refine pw_if ?_ ?_
  · exact lab_43 q8 p1 v5 v6 v9 0 hf
  · refine pwS_call (hT.1 q8) (by decide) hf ?_
    intro q10 hf
    exact lab_43 q10.1 p1 v5 v6 v9 q10.2 hf
theorem mm_abort_fr (T : mm_T2) (hT : mm_FR2 T) (S0 : md_S) (p1 : Int32) (p2 : Int32) : dc_pw (mm_abort T S0 p1 p2) (fun q => md_fr [4, 5, 6, 7, 8, 10, 11, 12, 13, 14, 15, 18, 19, 20, 27, 28, 29] [21, 22, 23, 24, 25, 26, 30, 31, 32, 33, 34, 35, 36, 37, 38] true false S0 q.1) := by
  have lab_33 : ∀ (S : md_S) (x1 : Int32) (x2 : Int32) (x3 : Int32) (x4 : Int32) (y0 : Int32), md_fr [4, 5, 6, 7, 8, 10, 11, 12, 13, 14, 15, 18, 19, 20, 27, 28, 29] [21, 22, 23, 24, 25, 26, 30, 31, 32, 33, 34, 35, 36, 37, 38] true false S0 S → dc_pw (mm_abort_L33 T S x1 x2 x3 x4 y0) (fun q => md_fr [4, 5, 6, 7, 8, 10, 11, 12, 13, 14, 15, 18, 19, 20, 27, 28, 29] [21, 22, 23, 24, 25, 26, 30, 31, 32, 33, 34, 35, 36, 37, 38] true false S0 q.1) := by
    intro S x1 x2 x3 x4 y0 hf
    delta mm_abort_L33
    refine pwS_callv (mm_mustWord_fr S 6647396) (by decide) hf ?_
    intro q1 hf
    refine pwS_call (mm_aborted_fr q1 x1 x3 y0 x2 x4) (by decide) hf ?_
    intro q2 hf
    exact pw_some hf
  have hf : md_fr [4, 5, 6, 7, 8, 10, 11, 12, 13, 14, 15, 18, 19, 20, 27, 28, 29] [21, 22, 23, 24, 25, 26, 30, 31, 32, 33, 34, 35, 36, 37, 38] true false S0 S0 := md_fr_rf
  delta mm_abort
  refine pwS_call (hT.1 S0) (by decide) hf ?_
  intro q3 hf
  refine pw_let ?_
  intro v4
  refine pwS_callv (mm_mustWord_fr q3.1 2003330414) (by decide) hf ?_
  intro q5 hf
  refine pw_if ?_ ?_
  · exact lab_33 q5 p1 p2 q3.2 v4 0 hf
  · refine pwS_call (mm_asked_r_fr q5) (by decide) hf ?_
    intro q6 hf
    exact lab_33 q6.1 p1 p2 q3.2 v4 q6.2 hf
theorem mm_weak_fr (T : mm_T2) (hT : mm_FR2 T) (S0 : md_S) (p1 : Int32) : dc_pw (mm_weak T S0 p1) (fun q => md_fr [4, 5, 6, 7, 8, 10, 11, 12, 13, 14, 15, 18, 19, 20, 27, 28, 29] [21, 22, 23, 24, 25, 26, 30, 31, 32, 33, 34, 35, 36, 37, 38] true false S0 q.1) := by
  have lab_24 : ∀ (S : md_S) (y0 : Int32), md_fr [4, 5, 6, 7, 8, 10, 11, 12, 13, 14, 15, 18, 19, 20, 27, 28, 29] [21, 22, 23, 24, 25, 26, 30, 31, 32, 33, 34, 35, 36, 37, 38] true false S0 S → dc_pw (mm_weak_L24 T S y0) (fun q => md_fr [4, 5, 6, 7, 8, 10, 11, 12, 13, 14, 15, 18, 19, 20, 27, 28, 29] [21, 22, 23, 24, 25, 26, 30, 31, 32, 33, 34, 35, 36, 37, 38] true false S0 q.1) := by
    intro S y0 hf
    delta mm_weak_L24
    exact pw_some hf
  have hf : md_fr [4, 5, 6, 7, 8, 10, 11, 12, 13, 14, 15, 18, 19, 20, 27, 28, 29] [21, 22, 23, 24, 25, 26, 30, 31, 32, 33, 34, 35, 36, 37, 38] true false S0 S0 := md_fr_rf
  delta mm_weak
  refine pwS_callv (mm_mustWord_fr S0 418263298676) (by decide) hf ?_
  intro q1 hf
  refine pw_if ?_ ?_
  · exact lab_24 q1 0 hf
  · refine pwS_call (hT.2.2.2.2.2.2.2.2.2.1 q1 p1 1) (by decide) hf ?_
    intro q2 hf
    exact lab_24 q2.1 q2.2 hf
theorem mm_every_fr (T : mm_T2) (hT : mm_FR2 T) (S0 : md_S) (p1 : Int32) : dc_pw (mm_every T S0 p1) (fun q => md_fr [4, 5, 6, 7, 8, 10, 11, 12, 13, 14, 15, 18, 19, 20, 27, 28, 29] [21, 22, 23, 24, 25, 26, 30, 31, 32, 33, 34, 35, 36, 37, 38] true false S0 q.1) := by
  have lab_27 : ∀ (S : md_S) (x1 : Int32) (x2 : Int32) (y0 : Int32), md_fr [4, 5, 6, 7, 8, 10, 11, 12, 13, 14, 15, 18, 19, 20, 27, 28, 29] [21, 22, 23, 24, 25, 26, 30, 31, 32, 33, 34, 35, 36, 37, 38] true false S0 S → dc_pw (mm_every_L27 T S x1 x2 y0) (fun q => md_fr [4, 5, 6, 7, 8, 10, 11, 12, 13, 14, 15, 18, 19, 20, 27, 28, 29] [21, 22, 23, 24, 25, 26, 30, 31, 32, 33, 34, 35, 36, 37, 38] true false S0 q.1) := by
    intro S x1 x2 y0 hf
    delta mm_every_L27
    refine pw_let ?_
    intro v1
    refine pwS_callv (mm_mustWord_fr S 6647396) (by decide) hf ?_
    intro q2 hf
    refine pwS_call (mm_await_fr q2 x1 x2) (by decide) hf ?_
    intro q3 hf
    refine pwS_call (mm_again_fr q3.1 x1 y0 x2 v1) (by decide) hf ?_
    intro q4 hf
    refine pw_any ?_
    intro q5
    refine pwS_i (by decide) hf ?_
    intro S6 hf
    refine pwS_call (mm_node_IIIIII_fr S6 5 q3.2 q4.2 (-1) x1 (-1)) (by decide) hf ?_
    intro q7 hf
    exact pw_some hf
  have hf : md_fr [4, 5, 6, 7, 8, 10, 11, 12, 13, 14, 15, 18, 19, 20, 27, 28, 29] [21, 22, 23, 24, 25, 26, 30, 31, 32, 33, 34, 35, 36, 37, 38] true false S0 S0 := md_fr_rf
  delta mm_every
  refine pwS_call (mm_asked_r_fr S0) (by decide) hf ?_
  intro q8 hf
  refine pwS_callv (mm_mustWord_fr q8.1 25711) (by decide) hf ?_
  intro q9 hf
  refine pw_if ?_ ?_
  · exact lab_27 q9 p1 q8.2 0 hf
  · refine pwS_call (hT.1 q9) (by decide) hf ?_
    intro q10 hf
    exact lab_27 q10.1 p1 q8.2 q10.2 hf
theorem mm_P2_fr : ∀ d : Nat, mm_FR2 (mm_P2 d)
  | 0 => ⟨fun _ => pw_none, fun _ => pw_none, fun _ => pw_none, fun _ => pw_none, fun _ _ => pw_none, fun _ _ => pw_none, fun _ _ _ => pw_none, fun _ _ => pw_none, fun _ _ => pw_none, fun _ _ _ => pw_none, fun _ _ => pw_none, fun _ _ => pw_none⟩
  | d + 1 => ⟨mm_body_fr (mm_P2 d) (mm_P2_fr d), mm_row_fr (mm_P2 d) (mm_P2_fr d), mm_statement_fr (mm_P2 d) (mm_P2_fr d), mm_closed_fr (mm_P2 d) (mm_P2_fr d), mm_present_I_fr (mm_P2 d) (mm_P2_fr d), mm_suspend_fr (mm_P2 d) (mm_P2_fr d), mm_loop_fr (mm_P2 d) (mm_P2_fr d), mm_trap_fr (mm_P2 d) (mm_P2_fr d), mm_locals_fr (mm_P2 d) (mm_P2_fr d), mm_abort_fr (mm_P2 d) (mm_P2_fr d), mm_weak_fr (mm_P2 d) (mm_P2_fr d), mm_every_fr (mm_P2 d) (mm_P2_fr d)⟩
theorem mm_body_r_fr (S0 : md_S) : dc_pw (mm_body_r S0) (fun q => md_fr [4, 5, 6, 7, 8, 10, 11, 12, 13, 14, 15, 18, 19, 20, 27, 28, 29] [21, 22, 23, 24, 25, 26, 30, 31, 32, 33, 34, 35, 36, 37, 38] true false S0 q.1) := (mm_P2_fr mm_d2).1 S0
theorem mm_row_r_fr (S0 : md_S) : dc_pw (mm_row_r S0) (fun q => md_fr [4, 5, 6, 7, 8, 10, 11, 12, 13, 14, 15, 18, 19, 20, 27, 28, 29] [21, 22, 23, 24, 25, 26, 30, 31, 32, 33, 34, 35, 36, 37, 38] true false S0 q.1) := (mm_P2_fr mm_d2).2.1 S0
theorem mm_statement_r_fr (S0 : md_S) : dc_pw (mm_statement_r S0) (fun q => md_fr [4, 5, 6, 7, 8, 10, 11, 12, 13, 14, 15, 18, 19, 20, 27, 28, 29] [21, 22, 23, 24, 25, 26, 30, 31, 32, 33, 34, 35, 36, 37, 38] true false S0 q.1) := (mm_P2_fr mm_d2).2.2.1 S0
theorem mm_closed_r_fr (S0 : md_S) : dc_pw (mm_closed_r S0) (fun q => md_fr [4, 5, 6, 7, 8, 10, 11, 12, 13, 14, 15, 18, 19, 20, 27, 28, 29] [21, 22, 23, 24, 25, 26, 30, 31, 32, 33, 34, 35, 36, 37, 38] true false S0 q.1) := (mm_P2_fr mm_d2).2.2.2.1 S0
theorem mm_present_I_r_fr (S0 : md_S) (p1 : Int32) : dc_pw (mm_present_I_r S0 p1) (fun q => md_fr [4, 5, 6, 7, 8, 10, 11, 12, 13, 14, 15, 18, 19, 20, 27, 28, 29] [21, 22, 23, 24, 25, 26, 30, 31, 32, 33, 34, 35, 36, 37, 38] true false S0 q.1) := (mm_P2_fr mm_d2).2.2.2.2.1 S0 p1
theorem mm_suspend_r_fr (S0 : md_S) (p1 : Int32) : dc_pw (mm_suspend_r S0 p1) (fun q => md_fr [4, 5, 6, 7, 8, 10, 11, 12, 13, 14, 15, 18, 19, 20, 27, 28, 29] [21, 22, 23, 24, 25, 26, 30, 31, 32, 33, 34, 35, 36, 37, 38] true false S0 q.1) := (mm_P2_fr mm_d2).2.2.2.2.2.1 S0 p1
theorem mm_loop_r_fr (S0 : md_S) (p1 : Int32) (p2 : Int32) : dc_pw (mm_loop_r S0 p1 p2) (fun q => md_fr [4, 5, 6, 7, 8, 10, 11, 12, 13, 14, 15, 18, 19, 20, 27, 28, 29] [21, 22, 23, 24, 25, 26, 30, 31, 32, 33, 34, 35, 36, 37, 38] true false S0 q.1) := (mm_P2_fr mm_d2).2.2.2.2.2.2.1 S0 p1 p2
theorem mm_trap_r_fr (S0 : md_S) (p1 : Int32) : dc_pw (mm_trap_r S0 p1) (fun q => md_fr [4, 5, 6, 7, 8, 10, 11, 12, 13, 14, 15, 18, 19, 20, 27, 28, 29] [21, 22, 23, 24, 25, 26, 30, 31, 32, 33, 34, 35, 36, 37, 38] true false S0 q.1) := (mm_P2_fr mm_d2).2.2.2.2.2.2.2.1 S0 p1
theorem mm_locals_r_fr (S0 : md_S) (p1 : Int32) : dc_pw (mm_locals_r S0 p1) (fun q => md_fr [4, 5, 6, 7, 8, 10, 11, 12, 13, 14, 15, 18, 19, 20, 27, 28, 29] [21, 22, 23, 24, 25, 26, 30, 31, 32, 33, 34, 35, 36, 37, 38] true false S0 q.1) := (mm_P2_fr mm_d2).2.2.2.2.2.2.2.2.1 S0 p1
theorem mm_abort_r_fr (S0 : md_S) (p1 : Int32) (p2 : Int32) : dc_pw (mm_abort_r S0 p1 p2) (fun q => md_fr [4, 5, 6, 7, 8, 10, 11, 12, 13, 14, 15, 18, 19, 20, 27, 28, 29] [21, 22, 23, 24, 25, 26, 30, 31, 32, 33, 34, 35, 36, 37, 38] true false S0 q.1) := (mm_P2_fr mm_d2).2.2.2.2.2.2.2.2.2.1 S0 p1 p2
theorem mm_weak_r_fr (S0 : md_S) (p1 : Int32) : dc_pw (mm_weak_r S0 p1) (fun q => md_fr [4, 5, 6, 7, 8, 10, 11, 12, 13, 14, 15, 18, 19, 20, 27, 28, 29] [21, 22, 23, 24, 25, 26, 30, 31, 32, 33, 34, 35, 36, 37, 38] true false S0 q.1) := (mm_P2_fr mm_d2).2.2.2.2.2.2.2.2.2.2.1 S0 p1
theorem mm_every_r_fr (S0 : md_S) (p1 : Int32) : dc_pw (mm_every_r S0 p1) (fun q => md_fr [4, 5, 6, 7, 8, 10, 11, 12, 13, 14, 15, 18, 19, 20, 27, 28, 29] [21, 22, 23, 24, 25, 26, 30, 31, 32, 33, 34, 35, 36, 37, 38] true false S0 q.1) := (mm_P2_fr mm_d2).2.2.2.2.2.2.2.2.2.2.2 S0 p1
theorem mm_program_fr (S0 : md_S) : dc_pw (mm_program S0) (fun q => md_fr [4, 5, 6, 7, 8, 10, 11, 12, 13, 14, 15, 16, 17, 18, 19, 20, 27, 28, 29] [21, 22, 23, 24, 25, 26, 30, 31, 32, 33, 34, 35, 36, 37, 38] true false S0 q.1) := by
  have lab_241 : ∀ (S : md_S) (x1 : Int32), md_fr [4, 5, 6, 7, 8, 10, 11, 12, 13, 14, 15, 16, 17, 18, 19, 20, 27, 28, 29] [21, 22, 23, 24, 25, 26, 30, 31, 32, 33, 34, 35, 36, 37, 38] true false S0 S → dc_pw (mm_program_L241 S x1) (fun q => md_fr [4, 5, 6, 7, 8, 10, 11, 12, 13, 14, 15, 16, 17, 18, 19, 20, 27, 28, 29] [21, 22, 23, 24, 25, 26, 30, 31, 32, 33, 34, 35, 36, 37, 38] true false S0 q.1) := by
    intro S x1 hf
    delta mm_program_L241
    exact pw_some hf
  have lab_224 : ∀ (S : md_S) (y0 : Int32), md_fr [4, 5, 6, 7, 8, 10, 11, 12, 13, 14, 15, 16, 17, 18, 19, 20, 27, 28, 29] [21, 22, 23, 24, 25, 26, 30, 31, 32, 33, 34, 35, 36, 37, 38] true false S0 S → dc_pw (mm_program_L224 S y0) (fun q => md_fr [4, 5, 6, 7, 8, 10, 11, 12, 13, 14, 15, 16, 17, 18, 19, 20, 27, 28, 29] [21, 22, 23, 24, 25, 26, 30, 31, 32, 33, 34, 35, 36, 37, 38] true false S0 q.1) := by
    intro S y0 hf
    delta mm_program_L224
    refine pw_if ?_ ?_
    · exact lab_241 S y0 hf
    · refine pwS_callv (mm_fail_fr S 1 (S.1 8)) (by decide) hf ?_
      intro q1 hf
      exact lab_241 q1 y0 hf
  have lab_196 : ∀ (S : md_S), md_fr [4, 5, 6, 7, 8, 10, 11, 12, 13, 14, 15, 16, 17, 18, 19, 20, 27, 28, 29] [21, 22, 23, 24, 25, 26, 30, 31, 32, 33, 34, 35, 36, 37, 38] true false S0 S → dc_pw (mm_program_L196 S) (fun q => md_fr [4, 5, 6, 7, 8, 10, 11, 12, 13, 14, 15, 16, 17, 18, 19, 20, 27, 28, 29] [21, 22, 23, 24, 25, 26, 30, 31, 32, 33, 34, 35, 36, 37, 38] true false S0 q.1) := by
    intro S  hf
    delta mm_program_L196
    refine pwS_i (by decide) hf ?_
    intro S2 hf
    refine pw_if ?_ ?_
    · exact lab_224 S2 0 hf
    · refine pwS_call (mm_body_r_fr S2) (by decide) hf ?_
      intro q3 hf
      exact lab_224 q3.1 q3.2 hf
  have lab_155 : ∀ (S : md_S), md_fr [4, 5, 6, 7, 8, 10, 11, 12, 13, 14, 15, 16, 17, 18, 19, 20, 27, 28, 29] [21, 22, 23, 24, 25, 26, 30, 31, 32, 33, 34, 35, 36, 37, 38] true false S0 S → dc_pw (mm_program_L155 S) (fun q => md_fr [4, 5, 6, 7, 8, 10, 11, 12, 13, 14, 15, 16, 17, 18, 19, 20, 27, 28, 29] [21, 22, 23, 24, 25, 26, 30, 31, 32, 33, 34, 35, 36, 37, 38] true false S0 q.1) := by
    intro S  hf
    delta mm_program_L155
    refine pwS_i (by decide) hf ?_
    intro S4 hf
    refine pwS_call (mm_meetsWord_fr S4 7304564) (by decide) hf ?_
    intro q5 hf
    refine pw_if ?_ ?_
    · exact lab_196 q5.1 hf
    · refine pwS_callv (mm_list_fr q5.1 0) (by decide) hf ?_
      intro q6 hf
      refine pwS_call (mm_meetsSign_fr q6 59) (by decide) hf ?_
      intro q7 hf
      refine pw_if ?_ ?_
      · refine pwS_callv (mm_fail_fr q7.1 1 (q7.1.1 8)) (by decide) hf ?_
        intro q8 hf
        exact lab_196 q8 hf
      · exact lab_196 q7.1 hf
  have lab_104 : ∀ (S : md_S), md_fr [4, 5, 6, 7, 8, 10, 11, 12, 13, 14, 15, 16, 17, 18, 19, 20, 27, 28, 29] [21, 22, 23, 24, 25, 26, 30, 31, 32, 33, 34, 35, 36, 37, 38] true false S0 S → dc_pw (mm_program_L104 S) (fun q => md_fr [4, 5, 6, 7, 8, 10, 11, 12, 13, 14, 15, 16, 17, 18, 19, 20, 27, 28, 29] [21, 22, 23, 24, 25, 26, 30, 31, 32, 33, 34, 35, 36, 37, 38] true false S0 q.1) := by
    intro S  hf
    delta mm_program_L104
    refine pw_if ?_ ?_
    · exact pw_some hf
    · refine pwS_i (by decide) hf ?_
      intro S9 hf
      refine pwS_callv (mm_advance_fr S9) (by decide) hf ?_
      intro q10 hf
      refine pwS_call (mm_meetsWord_fr q10 26990) (by decide) hf ?_
      intro q11 hf
      refine pw_if ?_ ?_
      · exact lab_155 q11.1 hf
      · refine pwS_callv (mm_list_fr q11.1 0) (by decide) hf ?_
        intro q12 hf
        refine pwS_call (mm_meetsSign_fr q12 59) (by decide) hf ?_
        intro q13 hf
        refine pw_if ?_ ?_
        · refine pwS_callv (mm_fail_fr q13.1 1 (q13.1.1 8)) (by decide) hf ?_
          intro q14 hf
          exact lab_155 q14 hf
        · exact lab_155 q13.1 hf
  have lab_94 : ∀ (S : md_S) (x1 : Int32) (y0 : Int32) (y1 : Int32), md_fr [4, 5, 6, 7, 8, 10, 11, 12, 13, 14, 15, 16, 17, 18, 19, 20, 27, 28, 29] [21, 22, 23, 24, 25, 26, 30, 31, 32, 33, 34, 35, 36, 37, 38] true false S0 S → dc_pw (mm_program_L94 S x1 y0 y1) (Sum.elim (fun (q : md_S × Int32) => md_fr [4, 5, 6, 7, 8, 10, 11, 12, 13, 14, 15, 16, 17, 18, 19, 20, 27, 28, 29] [21, 22, 23, 24, 25, 26, 30, 31, 32, 33, 34, 35, 36, 37, 38] true false S0 q.1) (fun (q : md_S) => md_fr [4, 5, 6, 7, 8, 10, 11, 12, 13, 14, 15, 16, 17, 18, 19, 20, 27, 28, 29] [21, 22, 23, 24, 25, 26, 30, 31, 32, 33, 34, 35, 36, 37, 38] true false S0 q)) := by
    intro S x1 y0 y1 hf
    delta mm_program_L94
    refine pwS_i (by decide) hf ?_
    intro S15 hf
    exact pw_some hf
  have lab_73 : ∀ (S : md_S) (x1 : Int32), md_fr [4, 5, 6, 7, 8, 10, 11, 12, 13, 14, 15, 16, 17, 18, 19, 20, 27, 28, 29] [21, 22, 23, 24, 25, 26, 30, 31, 32, 33, 34, 35, 36, 37, 38] true false S0 S → dc_pw (mm_program_L73 S x1) (Sum.elim (fun (q : md_S × Int32) => md_fr [4, 5, 6, 7, 8, 10, 11, 12, 13, 14, 15, 16, 17, 18, 19, 20, 27, 28, 29] [21, 22, 23, 24, 25, 26, 30, 31, 32, 33, 34, 35, 36, 37, 38] true false S0 q.1) (fun (q : md_S) => md_fr [4, 5, 6, 7, 8, 10, 11, 12, 13, 14, 15, 16, 17, 18, 19, 20, 27, 28, 29] [21, 22, 23, 24, 25, 26, 30, 31, 32, 33, 34, 35, 36, 37, 38] true false S0 q)) := by
    intro S x1 hf
    delta mm_program_L73
    refine pw_any ?_
    intro j16
    refine pw_if ?_ ?_
    · exact lab_94 S x1 1 (S.1 5) hf
    · exact lab_94 S x1 0 (S.1 5) hf
  have lab_59 : ∀ (S : md_S) (x1 : Int32) (y0 : Int32), md_fr [4, 5, 6, 7, 8, 10, 11, 12, 13, 14, 15, 16, 17, 18, 19, 20, 27, 28, 29] [21, 22, 23, 24, 25, 26, 30, 31, 32, 33, 34, 35, 36, 37, 38] true false S0 S → dc_pw (mm_program_L59 S x1 y0) (Sum.elim (fun (q : md_S × Int32) => md_fr [4, 5, 6, 7, 8, 10, 11, 12, 13, 14, 15, 16, 17, 18, 19, 20, 27, 28, 29] [21, 22, 23, 24, 25, 26, 30, 31, 32, 33, 34, 35, 36, 37, 38] true false S0 q.1) (fun (q : md_S) => md_fr [4, 5, 6, 7, 8, 10, 11, 12, 13, 14, 15, 16, 17, 18, 19, 20, 27, 28, 29] [21, 22, 23, 24, 25, 26, 30, 31, 32, 33, 34, 35, 36, 37, 38] true false S0 q)) := by
    intro S x1 y0 hf
    delta mm_program_L59
    refine pw_if ?_ ?_
    · refine pwS_callv (mm_fail_fr S 1 (S.1 5)) (by decide) hf ?_
      intro q17 hf
      exact lab_73 q17 x1 hf
    · exact lab_73 S x1 hf
  have lab_54 : ∀ (S : md_S) (x1 : Int32), md_fr [4, 5, 6, 7, 8, 10, 11, 12, 13, 14, 15, 16, 17, 18, 19, 20, 27, 28, 29] [21, 22, 23, 24, 25, 26, 30, 31, 32, 33, 34, 35, 36, 37, 38] true false S0 S → dc_pw (mm_program_L54 S x1) (Sum.elim (fun (q : md_S × Int32) => md_fr [4, 5, 6, 7, 8, 10, 11, 12, 13, 14, 15, 16, 17, 18, 19, 20, 27, 28, 29] [21, 22, 23, 24, 25, 26, 30, 31, 32, 33, 34, 35, 36, 37, 38] true false S0 q.1) (fun (q : md_S) => md_fr [4, 5, 6, 7, 8, 10, 11, 12, 13, 14, 15, 16, 17, 18, 19, 20, 27, 28, 29] [21, 22, 23, 24, 25, 26, 30, 31, 32, 33, 34, 35, 36, 37, 38] true false S0 q)) := by
    intro S x1 hf
    delta mm_program_L54
    exact lab_59 S x1 1 hf
  have lab_32 : ∀ (S : md_S) (x1 : Int32), md_fr [4, 5, 6, 7, 8, 10, 11, 12, 13, 14, 15, 16, 17, 18, 19, 20, 27, 28, 29] [21, 22, 23, 24, 25, 26, 30, 31, 32, 33, 34, 35, 36, 37, 38] true false S0 S → dc_pw (mm_program_L32 S x1) (Sum.elim (fun (q : md_S × Int32) => md_fr [4, 5, 6, 7, 8, 10, 11, 12, 13, 14, 15, 16, 17, 18, 19, 20, 27, 28, 29] [21, 22, 23, 24, 25, 26, 30, 31, 32, 33, 34, 35, 36, 37, 38] true false S0 q.1) (fun (q : md_S) => md_fr [4, 5, 6, 7, 8, 10, 11, 12, 13, 14, 15, 16, 17, 18, 19, 20, 27, 28, 29] [21, 22, 23, 24, 25, 26, 30, 31, 32, 33, 34, 35, 36, 37, 38] true false S0 q)) := by
    intro S x1 hf
    delta mm_program_L32
    refine pw_any ?_
    intro j18
    refine pw_if ?_ ?_
    · exact lab_54 S x1 hf
    · refine pw_any ?_
      intro j19
      refine pw_if ?_ ?_
      · exact lab_54 S x1 hf
      · exact lab_59 S x1 0 hf
  have body_2 : ∀ (S : md_S) (x1 : Int32), md_fr [4, 5, 6, 7, 8, 10, 11, 12, 13, 14, 15, 16, 17, 18, 19, 20, 27, 28, 29] [21, 22, 23, 24, 25, 26, 30, 31, 32, 33, 34, 35, 36, 37, 38] true false S0 S → dc_pw (mm_program_b2 S x1) (Sum.elim (fun (q : md_S × Int32) => md_fr [4, 5, 6, 7, 8, 10, 11, 12, 13, 14, 15, 16, 17, 18, 19, 20, 27, 28, 29] [21, 22, 23, 24, 25, 26, 30, 31, 32, 33, 34, 35, 36, 37, 38] true false S0 q.1) (fun (q : md_S) => md_fr [4, 5, 6, 7, 8, 10, 11, 12, 13, 14, 15, 16, 17, 18, 19, 20, 27, 28, 29] [21, 22, 23, 24, 25, 26, 30, 31, 32, 33, 34, 35, 36, 37, 38] true false S0 q)) := by
    intro S x1 hf
    delta mm_program_b2
    refine pw_if ?_ ?_
    · refine pw_any ?_
      intro j20
      refine pw_if ?_ ?_
      · refine pw_any ?_
        intro j21
        refine pw_if ?_ ?_
        · exact lab_54 S x1 hf
        · exact lab_32 S x1 hf
      · exact lab_32 S x1 hf
    · exact pw_some hf
  have lab_2 : ∀ (S : md_S) (x1 : Int32), md_fr [4, 5, 6, 7, 8, 10, 11, 12, 13, 14, 15, 16, 17, 18, 19, 20, 27, 28, 29] [21, 22, 23, 24, 25, 26, 30, 31, 32, 33, 34, 35, 36, 37, 38] true false S0 S → dc_pw (mm_program_L2 S x1) (fun q => md_fr [4, 5, 6, 7, 8, 10, 11, 12, 13, 14, 15, 16, 17, 18, 19, 20, 27, 28, 29] [21, 22, 23, 24, 25, 26, 30, 31, 32, 33, 34, 35, 36, 37, 38] true false S0 q.1) := by
    intro S x1 hf
    delta mm_program_L2
    refine pw_loop (fun (q : md_S × Int32) => md_fr [4, 5, 6, 7, 8, 10, 11, 12, 13, 14, 15, 16, 17, 18, 19, 20, 27, 28, 29] [21, 22, 23, 24, 25, 26, 30, 31, 32, 33, 34, 35, 36, 37, 38] true false S0 q.1) (fun (q : md_S) => md_fr [4, 5, 6, 7, 8, 10, 11, 12, 13, 14, 15, 16, 17, 18, 19, 20, 27, 28, 29] [21, 22, 23, 24, 25, 26, 30, 31, 32, 33, 34, 35, 36, 37, 38] true false S0 q) hf ?_ ?_
    · rintro ⟨S, x1⟩ hf
      exact body_2 S x1 hf
    · rintro Sz hf
      exact lab_104 Sz hf
  have hf : md_fr [4, 5, 6, 7, 8, 10, 11, 12, 13, 14, 15, 16, 17, 18, 19, 20, 27, 28, 29] [21, 22, 23, 24, 25, 26, 30, 31, 32, 33, 34, 35, 36, 37, 38] true false S0 S0 := md_fr_rf
  delta mm_program
  exact lab_2 S0 0 hf
theorem mm_ask_fr (S0 : md_S) (p1 : Int32) : dc_pw (mm_ask S0 p1) (fun q => md_fr [43] [63, 64, 65, 66, 99] false false S0 q.1) := by
  have lab_279 : ∀ (S : md_S) (x2 : Int32), md_fr [43] [63, 64, 65, 66, 99] false false S0 S → dc_pw (mm_ask_L279 S x2) (fun q => md_fr [43] [63, 64, 65, 66, 99] false false S0 q.1) := by
    intro S x2 hf
    delta mm_ask_L279
    exact pw_some hf
  have lab_262 : ∀ (S : md_S) (x2 : Int32), md_fr [43] [63, 64, 65, 66, 99] false false S0 S → dc_pw (mm_ask_L262 S x2) (fun q => md_fr [43] [63, 64, 65, 66, 99] false false S0 q.1) := by
    intro S x2 hf
    delta mm_ask_L262
    refine pw_if ?_ ?_
    · refine pw_any ?_
      intro j1
      refine pwS_a (by decide) hf ?_
      intro S2 hf
      exact lab_279 S2 x2 hf
    · exact lab_279 S x2 hf
  have lab_259 : ∀ (S : md_S) (x2 : Int32) (x3 : Int32), md_fr [43] [63, 64, 65, 66, 99] false false S0 S → dc_pw (mm_ask_L259 S x2 x3) (Sum.elim (fun (q : md_S × Int32) => md_fr [43] [63, 64, 65, 66, 99] false false S0 q.1) (fun (q : md_S) => md_fr [43] [63, 64, 65, 66, 99] false false S0 q)) := by
    intro S x2 x3 hf
    delta mm_ask_L259
    exact pw_some hf
  have lab_221 : ∀ (S : md_S) (x2 : Int32) (x3 : Int32) (x5 : Int32) (x7 : Int32), md_fr [43] [63, 64, 65, 66, 99] false false S0 S → dc_pw (mm_ask_L221 S x2 x3 x5 x7) (Sum.elim (fun (q : md_S × Int32) => md_fr [43] [63, 64, 65, 66, 99] false false S0 q.1) (fun (q : md_S) => md_fr [43] [63, 64, 65, 66, 99] false false S0 q)) := by
    intro S x2 x3 x5 x7 hf
    delta mm_ask_L221
    refine pw_any ?_
    intro j3
    refine pw_if ?_ ?_
    · refine pw_any ?_
      intro j4
      refine pw_any ?_
      intro j5
      refine pwS_a (by decide) hf ?_
      intro S6 hf
      refine pw_any ?_
      intro j7
      refine pwS_a (by decide) hf ?_
      intro S8 hf
      exact lab_259 S8 x2 (x3 + 1) hf
    · exact lab_259 S x2 x3 hf
  have lab_117 : ∀ (S : md_S) (x2 : Int32) (x3 : Int32) (x5 : Int32), md_fr [43] [63, 64, 65, 66, 99] false false S0 S → dc_pw (mm_ask_L117 S x2 x3 x5) (Sum.elim (fun (q : md_S × Int32) => md_fr [43] [63, 64, 65, 66, 99] false false S0 q.1) (fun (q : md_S) => md_fr [43] [63, 64, 65, 66, 99] false false S0 q)) := by
    intro S x2 x3 x5 hf
    delta mm_ask_L117
    refine pw_let ?_
    intro v9
    refine pwS_i (by decide) hf ?_
    intro S10 hf
    refine pw_if ?_ ?_
    · refine pw_any ?_
      intro j11
      refine pw_any ?_
      intro j12
      refine pwS_a (by decide) hf ?_
      intro S13 hf
      refine pw_any ?_
      intro j14
      refine pw_any ?_
      intro j15
      refine pwS_a (by decide) hf ?_
      intro S16 hf
      refine pw_any ?_
      intro j17
      refine pwS_a (by decide) hf ?_
      intro S18 hf
      refine pw_any ?_
      intro j19
      refine pw_if ?_ ?_
      · exact lab_221 S18 x2 x3 x5 v9 hf
      · refine pw_any ?_
        intro j20
        refine pw_any ?_
        intro j21
        refine pwS_a (by decide) hf ?_
        intro S22 hf
        refine pw_any ?_
        intro j23
        refine pwS_a (by decide) hf ?_
        intro S24 hf
        exact lab_221 S24 x2 (x3 + 1) x5 v9 hf
    · exact pw_some hf
  have lab_88 : ∀ (S : md_S) (x2 : Int32) (x3 : Int32) (x5 : Int32) (x6 : Int32), md_fr [43] [63, 64, 65, 66, 99] false false S0 S → dc_pw (mm_ask_L88 S x2 x3 x5 x6) (Sum.elim (fun (q : md_S × Int32) => md_fr [43] [63, 64, 65, 66, 99] false false S0 q.1) (fun (q : md_S) => md_fr [43] [63, 64, 65, 66, 99] false false S0 q)) := by
    intro S x2 x3 x5 x6 hf
    delta mm_ask_L88
    refine pw_if ?_ ?_
    · exact lab_117 S x2 x3 x5 hf
    · refine pw_if ?_ ?_
      · refine pw_any ?_
        intro j25
        refine pwS_a (by decide) hf ?_
        intro S26 hf
        exact lab_117 S26 x2 x3 x5 hf
      · exact lab_117 S x2 x3 x5 hf
  have body_23 : ∀ (S : md_S) (x2 : Int32) (x3 : Int32), md_fr [43] [63, 64, 65, 66, 99] false false S0 S → dc_pw (mm_ask_b23 S x2 x3) (Sum.elim (fun (q : md_S × Int32) => md_fr [43] [63, 64, 65, 66, 99] false false S0 q.1) (fun (q : md_S) => md_fr [43] [63, 64, 65, 66, 99] false false S0 q)) := by
    intro S x2 x3 hf
    delta mm_ask_b23
    refine pw_if ?_ ?_
    · refine pw_any ?_
      intro j27
      refine pw_let ?_
      intro v28
      refine pw_any ?_
      intro j29
      refine pw_let ?_
      intro v30
      refine pw_if ?_ ?_
      · exact lab_88 S x2 (x3 + (-1)) v28 v30 hf
      · refine pw_if ?_ ?_
        · refine pw_if ?_ ?_
          · refine pw_any ?_
            intro j31
            refine pwS_a (by decide) hf ?_
            intro S32 hf
            exact lab_117 S32 x2 (x3 + (-1)) v28 hf
          · exact lab_88 S x2 (x3 + (-1)) v28 v30 hf
        · exact lab_88 S x2 (x3 + (-1)) v28 v30 hf
    · exact pw_some hf
  have lab_23 : ∀ (S : md_S) (x2 : Int32) (x3 : Int32), md_fr [43] [63, 64, 65, 66, 99] false false S0 S → dc_pw (mm_ask_L23 S x2 x3) (fun q => md_fr [43] [63, 64, 65, 66, 99] false false S0 q.1) := by
    intro S x2 x3 hf
    delta mm_ask_L23
    refine pw_loop (fun (q : md_S × Int32) => md_fr [43] [63, 64, 65, 66, 99] false false S0 q.1) (fun (q : md_S) => md_fr [43] [63, 64, 65, 66, 99] false false S0 q) hf ?_ ?_
    · rintro ⟨S, x3⟩ hf
      exact body_23 S x2 x3 hf
    · rintro Sz hf
      exact lab_262 Sz x2 hf
  have hf : md_fr [43] [63, 64, 65, 66, 99] false false S0 S0 := md_fr_rf
  delta mm_ask
  refine pw_let ?_
  intro v33
  refine pw_any ?_
  intro j34
  refine pwS_a (by decide) hf ?_
  intro S35 hf
  refine pw_any ?_
  intro j36
  refine pwS_a (by decide) hf ?_
  intro S37 hf
  exact lab_23 S37 v33 1 hf
theorem mm_code_fr (S0 : md_S) (p1 : Int32) : dc_pw (mm_code S0 p1) (fun q => md_fr [] [54, 55, 59] false false S0 q) := by
  have lab_322 : ∀ (S : md_S), md_fr [] [54, 55, 59] false false S0 S → dc_pw (mm_code_L322 S) (fun q => md_fr [] [54, 55, 59] false false S0 q) := by
    intro S  hf
    delta mm_code_L322
    exact pw_some hf
  have lab_245 : ∀ (S : md_S) (x1 : Int32), md_fr [] [54, 55, 59] false false S0 S → dc_pw (mm_code_L245 S x1) (fun q => md_fr [] [54, 55, 59] false false S0 q) := by
    intro S x1 hf
    delta mm_code_L245
    refine pw_any ?_
    intro j1
    refine pw_any ?_
    intro j2
    refine pwS_a (by decide) hf ?_
    intro S3 hf
    exact lab_322 S3 hf
  have body_211 : ∀ (S : md_S) (x1 : Int32) (x4 : Int32) (x5 : Int32), md_fr [] [54, 55, 59] false false S0 S → dc_pw (mm_code_b211 S x1 x4 x5) (Sum.elim (fun (q : md_S × Int32) => md_fr [] [54, 55, 59] false false S0 q.1) (fun (q : md_S) => md_fr [] [54, 55, 59] false false S0 q)) := by
    intro S x1 x4 x5 hf
    delta mm_code_b211
    refine pw_any ?_
    intro j4
    refine pw_if ?_ ?_
    · exact pw_some hf
    · refine pw_any ?_
      intro j5
      refine pw_any ?_
      intro j6
      refine pwS_a (by decide) hf ?_
      intro S7 hf
      refine pw_any ?_
      intro j8
      refine pw_let ?_
      intro v9
      exact pw_some hf
  have lab_211 : ∀ (S : md_S) (x1 : Int32) (x4 : Int32) (x5 : Int32), md_fr [] [54, 55, 59] false false S0 S → dc_pw (mm_code_L211 S x1 x4 x5) (fun q => md_fr [] [54, 55, 59] false false S0 q) := by
    intro S x1 x4 x5 hf
    delta mm_code_L211
    refine pw_loop (fun (q : md_S × Int32) => md_fr [] [54, 55, 59] false false S0 q.1) (fun (q : md_S) => md_fr [] [54, 55, 59] false false S0 q) hf ?_ ?_
    · rintro ⟨S, x5⟩ hf
      exact body_211 S x1 x4 x5 hf
    · rintro Sz hf
      exact lab_245 Sz x1 hf
  have lab_108 : ∀ (S : md_S) (x1 : Int32) (x2 : Int32) (x3 : Int32) (y0 : Int32) (y1 : Int32), md_fr [] [54, 55, 59] false false S0 S → dc_pw (mm_code_L108 S x1 x2 x3 y0 y1) (fun q => md_fr [] [54, 55, 59] false false S0 q) := by
    intro S x1 x2 x3 y0 y1 hf
    delta mm_code_L108
    refine pw_any ?_
    intro j10
    refine pwS_a (by decide) hf ?_
    intro S11 hf
    refine pw_any ?_
    intro j12
    refine pw_let ?_
    intro v13
    refine pw_if ?_ ?_
    · refine pw_any ?_
      intro j14
      refine pwS_a (by decide) hf ?_
      intro S15 hf
      exact lab_322 S15 hf
    · refine pw_if ?_ ?_
      · refine pw_any ?_
        intro j17
        refine pwS_a (by decide) hf ?_
        intro S18 hf
        exact lab_322 S18 hf
      · refine pw_if ?_ ?_
        · refine pw_any ?_
          intro j20
          refine pwS_a (by decide) hf ?_
          intro S21 hf
          exact lab_322 S21 hf
        · refine pw_if ?_ ?_
          · refine pw_any ?_
            intro j23
            refine pwS_a (by decide) hf ?_
            intro S24 hf
            exact lab_322 S24 hf
          · refine pw_if ?_ ?_
            · refine pw_any ?_
              intro j26
              refine pwS_a (by decide) hf ?_
              intro S27 hf
              exact lab_322 S27 hf
            · refine pw_if ?_ ?_
              · refine pw_any ?_
                intro q29
                refine pw_any ?_
                intro j30
                refine pwS_a (by decide) hf ?_
                intro S31 hf
                exact lab_322 S31 hf
              · refine pw_if ?_ ?_
                · refine pw_any ?_
                  intro j33
                  refine pwS_a (by decide) hf ?_
                  intro S34 hf
                  exact lab_322 S34 hf
                · refine pw_if ?_ ?_
                  · refine pw_any ?_
                    intro q36
                    refine pw_any ?_
                    intro j37
                    refine pwS_a (by decide) hf ?_
                    intro S38 hf
                    exact lab_322 S38 hf
                  · refine pw_if ?_ ?_
                    · refine pw_any ?_
                      intro q40
                      refine pw_any ?_
                      intro j41
                      refine pwS_a (by decide) hf ?_
                      intro S42 hf
                      exact lab_322 S42 hf
                    · refine pw_if ?_ ?_
                      · refine pw_any ?_
                        intro j44
                        refine pw_let ?_
                        intro v45
                        refine pw_any ?_
                        intro j46
                        refine pwS_a (by decide) hf ?_
                        intro S47 hf
                        refine pw_any ?_
                        intro j48
                        refine pw_let ?_
                        intro v49
                        exact lab_211 S47 x1 v45 v49 hf
                      · refine pw_any ?_
                        intro j51
                        refine pwS_a (by decide) hf ?_
                        intro S52 hf
                        exact lab_322 S52 hf
  have lab_51 : ∀ (S : md_S) (x1 : Int32) (x2 : Int32) (y0 : Int32), md_fr [] [54, 55, 59] false false S0 S → dc_pw (mm_code_L51 S x1 x2 y0) (fun q => md_fr [] [54, 55, 59] false false S0 q) := by
    intro S x1 x2 y0 hf
    delta mm_code_L51
    refine pw_any ?_
    intro j53
    refine pw_if ?_ ?_
    · refine pw_any ?_
      intro j54
      refine pw_if ?_ ?_
      · exact lab_108 S x1 x2 y0 (x1 + 1) x1 hf
      · refine pw_any ?_
        intro j55
        refine pw_any ?_
        intro j56
        exact lab_108 S x1 x2 y0 (S.2.1 59 j56) x1 hf
    · refine pw_any ?_
      intro j57
      refine pw_any ?_
      intro j58
      exact lab_108 S x1 x2 y0 (S.2.1 59 j58) x1 hf
  have lab_25 : ∀ (S : md_S) (x1 : Int32) (y0 : Int32), md_fr [] [54, 55, 59] false false S0 S → dc_pw (mm_code_L25 S x1 y0) (fun q => md_fr [] [54, 55, 59] false false S0 q) := by
    intro S x1 y0 hf
    delta mm_code_L25
    refine pw_any ?_
    intro j59
    refine pw_if ?_ ?_
    · exact lab_51 S x1 y0 0 hf
    · refine pw_any ?_
      intro j60
      refine pw_any ?_
      intro j61
      exact lab_51 S x1 y0 (S.2.1 55 j61) hf
  have hf : md_fr [] [54, 55, 59] false false S0 S0 := md_fr_rf
  delta mm_code
  refine pw_any ?_
  intro j62
  refine pw_if ?_ ?_
  · exact lab_25 S0 p1 0 hf
  · refine pw_any ?_
    intro j63
    refine pw_any ?_
    intro j64
    exact lab_25 S0 p1 (S0.2.1 55 j64) hf
theorem mm_lay_I_fr (S0 : md_S) (p1 : Int32) : dc_pw (mm_lay_I S0 p1) (fun q => md_fr [42, 43, 47, 48, 49] [39, 40, 51, 52, 53, 54, 55, 56, 57, 58, 59, 60, 62, 63, 64, 65, 66, 99] false false S0 q) := by
  have lab_495 : ∀ (S : md_S), md_fr [42, 43, 47, 48, 49] [39, 40, 51, 52, 53, 54, 55, 56, 57, 58, 59, 60, 62, 63, 64, 65, 66, 99] false false S0 S → dc_pw (mm_lay_I_L495 S) (fun q => md_fr [42, 43, 47, 48, 49] [39, 40, 51, 52, 53, 54, 55, 56, 57, 58, 59, 60, 62, 63, 64, 65, 66, 99] false false S0 q) := by
    intro S  hf
    delta mm_lay_I_L495
    exact pw_some hf
  have body_480 : ∀ (S : md_S) (x3 : Int32), md_fr [42, 43, 47, 48, 49] [39, 40, 51, 52, 53, 54, 55, 56, 57, 58, 59, 60, 62, 63, 64, 65, 66, 99] false false S0 S → dc_pw (mm_lay_I_b480 S x3) (Sum.elim (fun (q : md_S × Int32) => md_fr [42, 43, 47, 48, 49] [39, 40, 51, 52, 53, 54, 55, 56, 57, 58, 59, 60, 62, 63, 64, 65, 66, 99] false false S0 q.1) (fun (q : md_S) => md_fr [42, 43, 47, 48, 49] [39, 40, 51, 52, 53, 54, 55, 56, 57, 58, 59, 60, 62, 63, 64, 65, 66, 99] false false S0 q)) := by
    intro S x3 hf
    delta mm_lay_I_b480
    refine pw_if ?_ ?_
    · exact pw_some hf
    · refine pwS_callv (mm_code_fr S x3) (by decide) hf ?_
      intro q1 hf
      exact pw_some hf
  have lab_480 : ∀ (S : md_S) (x3 : Int32), md_fr [42, 43, 47, 48, 49] [39, 40, 51, 52, 53, 54, 55, 56, 57, 58, 59, 60, 62, 63, 64, 65, 66, 99] false false S0 S → dc_pw (mm_lay_I_L480 S x3) (fun q => md_fr [42, 43, 47, 48, 49] [39, 40, 51, 52, 53, 54, 55, 56, 57, 58, 59, 60, 62, 63, 64, 65, 66, 99] false false S0 q) := by
    intro S x3 hf
    delta mm_lay_I_L480
    refine pw_loop (fun (q : md_S × Int32) => md_fr [42, 43, 47, 48, 49] [39, 40, 51, 52, 53, 54, 55, 56, 57, 58, 59, 60, 62, 63, 64, 65, 66, 99] false false S0 q.1) (fun (q : md_S) => md_fr [42, 43, 47, 48, 49] [39, 40, 51, 52, 53, 54, 55, 56, 57, 58, 59, 60, 62, 63, 64, 65, 66, 99] false false S0 q) hf ?_ ?_
    · rintro ⟨S, x3⟩ hf
      exact body_480 S x3 hf
    · rintro Sz hf
      exact lab_495 Sz hf
  have lab_460 : ∀ (S : md_S), md_fr [42, 43, 47, 48, 49] [39, 40, 51, 52, 53, 54, 55, 56, 57, 58, 59, 60, 62, 63, 64, 65, 66, 99] false false S0 S → dc_pw (mm_lay_I_L460 S) (fun q => md_fr [42, 43, 47, 48, 49] [39, 40, 51, 52, 53, 54, 55, 56, 57, 58, 59, 60, 62, 63, 64, 65, 66, 99] false false S0 q) := by
    intro S  hf
    delta mm_lay_I_L460
    refine pw_any ?_
    intro j2
    refine pwS_a (by decide) hf ?_
    intro S3 hf
    refine pw_let ?_
    intro v4
    exact lab_480 S3 v4 hf
  have lab_457 : ∀ (S : md_S) (x2 : Int32), md_fr [42, 43, 47, 48, 49] [39, 40, 51, 52, 53, 54, 55, 56, 57, 58, 59, 60, 62, 63, 64, 65, 66, 99] false false S0 S → dc_pw (mm_lay_I_L457 S x2) (Sum.elim (fun (q : md_S × Int32) => md_fr [42, 43, 47, 48, 49] [39, 40, 51, 52, 53, 54, 55, 56, 57, 58, 59, 60, 62, 63, 64, 65, 66, 99] false false S0 q.1) (fun (q : md_S) => md_fr [42, 43, 47, 48, 49] [39, 40, 51, 52, 53, 54, 55, 56, 57, 58, 59, 60, 62, 63, 64, 65, 66, 99] false false S0 q)) := by
    intro S x2 hf
    delta mm_lay_I_L457
    exact pw_some hf
  have lab_422 : ∀ (S : md_S) (x2 : Int32) (x3 : Int32) (x4 : Int32), md_fr [42, 43, 47, 48, 49] [39, 40, 51, 52, 53, 54, 55, 56, 57, 58, 59, 60, 62, 63, 64, 65, 66, 99] false false S0 S → dc_pw (mm_lay_I_L422 S x2 x3 x4) (Sum.elim (fun (q : md_S × Int32) => md_fr [42, 43, 47, 48, 49] [39, 40, 51, 52, 53, 54, 55, 56, 57, 58, 59, 60, 62, 63, 64, 65, 66, 99] false false S0 q.1) (fun (q : md_S) => md_fr [42, 43, 47, 48, 49] [39, 40, 51, 52, 53, 54, 55, 56, 57, 58, 59, 60, 62, 63, 64, 65, 66, 99] false false S0 q)) := by
    intro S x2 x3 x4 hf
    delta mm_lay_I_L422
    refine pw_any ?_
    intro j5
    refine pw_if ?_ ?_
    · exact lab_457 S x2 hf
    · refine pw_any ?_
      intro j6
      refine pw_any ?_
      intro j7
      refine pwS_a (by decide) hf ?_
      intro S8 hf
      refine pw_any ?_
      intro j9
      refine pwS_a (by decide) hf ?_
      intro S10 hf
      exact lab_457 S10 (x2 + 1) hf
  have lab_368 : ∀ (S : md_S) (x2 : Int32) (x3 : Int32) (x4 : Int32), md_fr [42, 43, 47, 48, 49] [39, 40, 51, 52, 53, 54, 55, 56, 57, 58, 59, 60, 62, 63, 64, 65, 66, 99] false false S0 S → dc_pw (mm_lay_I_L368 S x2 x3 x4) (Sum.elim (fun (q : md_S × Int32) => md_fr [42, 43, 47, 48, 49] [39, 40, 51, 52, 53, 54, 55, 56, 57, 58, 59, 60, 62, 63, 64, 65, 66, 99] false false S0 q.1) (fun (q : md_S) => md_fr [42, 43, 47, 48, 49] [39, 40, 51, 52, 53, 54, 55, 56, 57, 58, 59, 60, 62, 63, 64, 65, 66, 99] false false S0 q)) := by
    intro S x2 x3 x4 hf
    delta mm_lay_I_L368
    refine pw_any ?_
    intro q11
    refine pwS_i (by decide) hf ?_
    intro S12 hf
    refine pw_any ?_
    intro j13
    refine pw_if ?_ ?_
    · exact lab_422 S12 x2 x3 x4 hf
    · refine pw_any ?_
      intro j14
      refine pw_any ?_
      intro j15
      refine pwS_a (by decide) hf ?_
      intro S16 hf
      refine pw_any ?_
      intro j17
      refine pwS_a (by decide) hf ?_
      intro S18 hf
      exact lab_422 S18 (x2 + 1) x3 x4 hf
  have lab_341 : ∀ (S : md_S) (x2 : Int32) (x3 : Int32) (x4 : Int32), md_fr [42, 43, 47, 48, 49] [39, 40, 51, 52, 53, 54, 55, 56, 57, 58, 59, 60, 62, 63, 64, 65, 66, 99] false false S0 S → dc_pw (mm_lay_I_L341 S x2 x3 x4) (Sum.elim (fun (q : md_S × Int32) => md_fr [42, 43, 47, 48, 49] [39, 40, 51, 52, 53, 54, 55, 56, 57, 58, 59, 60, 62, 63, 64, 65, 66, 99] false false S0 q.1) (fun (q : md_S) => md_fr [42, 43, 47, 48, 49] [39, 40, 51, 52, 53, 54, 55, 56, 57, 58, 59, 60, 62, 63, 64, 65, 66, 99] false false S0 q)) := by
    intro S x2 x3 x4 hf
    delta mm_lay_I_L341
    refine pw_any ?_
    intro j19
    refine pw_if ?_ ?_
    · exact lab_368 S x2 x3 x4 hf
    · refine pw_any ?_
      intro j20
      refine pwS_call (mm_ask_fr S (S.2.1 35 j20)) (by decide) hf ?_
      intro q21 hf
      refine pw_any ?_
      intro j22
      refine pwS_a (by decide) hf ?_
      intro S23 hf
      exact lab_368 S23 x2 x3 x4 hf
  have lab_298 : ∀ (S : md_S) (x2 : Int32) (x3 : Int32) (x4 : Int32), md_fr [42, 43, 47, 48, 49] [39, 40, 51, 52, 53, 54, 55, 56, 57, 58, 59, 60, 62, 63, 64, 65, 66, 99] false false S0 S → dc_pw (mm_lay_I_L298 S x2 x3 x4) (Sum.elim (fun (q : md_S × Int32) => md_fr [42, 43, 47, 48, 49] [39, 40, 51, 52, 53, 54, 55, 56, 57, 58, 59, 60, 62, 63, 64, 65, 66, 99] false false S0 q.1) (fun (q : md_S) => md_fr [42, 43, 47, 48, 49] [39, 40, 51, 52, 53, 54, 55, 56, 57, 58, 59, 60, 62, 63, 64, 65, 66, 99] false false S0 q)) := by
    intro S x2 x3 x4 hf
    delta mm_lay_I_L298
    refine pw_any ?_
    intro j24
    refine pwS_a (by decide) hf ?_
    intro S25 hf
    refine pw_any ?_
    intro j26
    refine pw_if ?_ ?_
    · refine pw_any ?_
      intro j27
      refine pwS_a (by decide) hf ?_
      intro S28 hf
      refine pwS_i (by decide) hf ?_
      intro S29 hf
      exact lab_341 S29 x2 x3 x4 hf
    · exact lab_341 S25 x2 x3 x4 hf
  have lab_283 : ∀ (S : md_S) (x2 : Int32) (x3 : Int32) (x4 : Int32) (x5 : Int32), md_fr [42, 43, 47, 48, 49] [39, 40, 51, 52, 53, 54, 55, 56, 57, 58, 59, 60, 62, 63, 64, 65, 66, 99] false false S0 S → dc_pw (mm_lay_I_L283 S x2 x3 x4 x5) (Sum.elim (fun (q : md_S × Int32) => md_fr [42, 43, 47, 48, 49] [39, 40, 51, 52, 53, 54, 55, 56, 57, 58, 59, 60, 62, 63, 64, 65, 66, 99] false false S0 q.1) (fun (q : md_S) => md_fr [42, 43, 47, 48, 49] [39, 40, 51, 52, 53, 54, 55, 56, 57, 58, 59, 60, 62, 63, 64, 65, 66, 99] false false S0 q)) := by
    intro S x2 x3 x4 x5 hf
    delta mm_lay_I_L283
    refine pw_if ?_ ?_
    · exact lab_298 S x2 x3 x4 hf
    · refine pw_any ?_
      intro j30
      refine pwS_a (by decide) hf ?_
      intro S31 hf
      exact lab_298 S31 x2 x3 x4 hf
  have lab_243 : ∀ (S : md_S) (x2 : Int32) (x3 : Int32) (x4 : Int32) (x5 : Int32) (x6 : Int32) (y0 : Int32) (y1 : Int32), md_fr [42, 43, 47, 48, 49] [39, 40, 51, 52, 53, 54, 55, 56, 57, 58, 59, 60, 62, 63, 64, 65, 66, 99] false false S0 S → dc_pw (mm_lay_I_L243 S x2 x3 x4 x5 x6 y0 y1) (Sum.elim (fun (q : md_S × Int32) => md_fr [42, 43, 47, 48, 49] [39, 40, 51, 52, 53, 54, 55, 56, 57, 58, 59, 60, 62, 63, 64, 65, 66, 99] false false S0 q.1) (fun (q : md_S) => md_fr [42, 43, 47, 48, 49] [39, 40, 51, 52, 53, 54, 55, 56, 57, 58, 59, 60, 62, 63, 64, 65, 66, 99] false false S0 q)) := by
    intro S x2 x3 x4 x5 x6 y0 y1 hf
    delta mm_lay_I_L243
    refine pw_any ?_
    intro j32
    refine pwS_a (by decide) hf ?_
    intro S33 hf
    refine pw_any ?_
    intro j34
    refine pwS_i (by decide) hf ?_
    intro S35 hf
    refine pw_if ?_ ?_
    · exact lab_283 S35 x2 x3 x4 x5 hf
    · refine pw_if ?_ ?_
      · exact lab_283 S35 x2 x3 x4 x5 hf
      · refine pw_any ?_
        intro j36
        refine pwS_a (by decide) hf ?_
        intro S37 hf
        exact lab_298 S37 x2 x3 x4 hf
  have lab_202 : ∀ (S : md_S) (x2 : Int32) (x3 : Int32) (x4 : Int32) (x5 : Int32) (x6 : Int32) (y0 : Int32) (y1 : Int32), md_fr [42, 43, 47, 48, 49] [39, 40, 51, 52, 53, 54, 55, 56, 57, 58, 59, 60, 62, 63, 64, 65, 66, 99] false false S0 S → dc_pw (mm_lay_I_L202 S x2 x3 x4 x5 x6 y0 y1) (Sum.elim (fun (q : md_S × Int32) => md_fr [42, 43, 47, 48, 49] [39, 40, 51, 52, 53, 54, 55, 56, 57, 58, 59, 60, 62, 63, 64, 65, 66, 99] false false S0 q.1) (fun (q : md_S) => md_fr [42, 43, 47, 48, 49] [39, 40, 51, 52, 53, 54, 55, 56, 57, 58, 59, 60, 62, 63, 64, 65, 66, 99] false false S0 q)) := by
    intro S x2 x3 x4 x5 x6 y0 y1 hf
    delta mm_lay_I_L202
    refine pw_any ?_
    intro j38
    refine pwS_a (by decide) hf ?_
    intro S39 hf
    refine pw_if ?_ ?_
    · exact lab_243 S39 x2 x3 x4 x5 x6 (-1) x4 hf
    · refine pw_any ?_
      intro j40
      refine pw_if ?_ ?_
      · exact lab_243 S39 x2 x3 x4 x5 x6 x5 x4 hf
      · refine pw_any ?_
        intro j41
        exact lab_243 S39 x2 x3 x4 x5 x6 (S39.2.1 60 j41) x4 hf
  have lab_201 : ∀ (S : md_S) (x2 : Int32) (x3 : Int32) (x4 : Int32) (x5 : Int32) (x6 : Int32) (y0 : Int32) (y1 : Int32) (y2 : Int32), md_fr [42, 43, 47, 48, 49] [39, 40, 51, 52, 53, 54, 55, 56, 57, 58, 59, 60, 62, 63, 64, 65, 66, 99] false false S0 S → dc_pw (mm_lay_I_L201 S x2 x3 x4 x5 x6 y0 y1 y2) (Sum.elim (fun (q : md_S × Int32) => md_fr [42, 43, 47, 48, 49] [39, 40, 51, 52, 53, 54, 55, 56, 57, 58, 59, 60, 62, 63, 64, 65, 66, 99] false false S0 q.1) (fun (q : md_S) => md_fr [42, 43, 47, 48, 49] [39, 40, 51, 52, 53, 54, 55, 56, 57, 58, 59, 60, 62, 63, 64, 65, 66, 99] false false S0 q)) := by
    intro S x2 x3 x4 x5 x6 y0 y1 y2 hf
    delta mm_lay_I_L201
    exact lab_202 S x2 x3 x4 x5 x6 (y1 + y0) y2 hf
  have lab_200 : ∀ (S : md_S) (x2 : Int32) (x3 : Int32) (x4 : Int32) (x5 : Int32) (x6 : Int32) (y0 : Int32) (y1 : Int32), md_fr [42, 43, 47, 48, 49] [39, 40, 51, 52, 53, 54, 55, 56, 57, 58, 59, 60, 62, 63, 64, 65, 66, 99] false false S0 S → dc_pw (mm_lay_I_L200 S x2 x3 x4 x5 x6 y0 y1) (Sum.elim (fun (q : md_S × Int32) => md_fr [42, 43, 47, 48, 49] [39, 40, 51, 52, 53, 54, 55, 56, 57, 58, 59, 60, 62, 63, 64, 65, 66, 99] false false S0 q.1) (fun (q : md_S) => md_fr [42, 43, 47, 48, 49] [39, 40, 51, 52, 53, 54, 55, 56, 57, 58, 59, 60, 62, 63, 64, 65, 66, 99] false false S0 q)) := by
    intro S x2 x3 x4 x5 x6 y0 y1 hf
    delta mm_lay_I_L200
    exact lab_201 S x2 x3 x4 x5 x6 0 y0 y1 hf
  have lab_196 : ∀ (S : md_S) (x2 : Int32) (x3 : Int32) (x4 : Int32) (x5 : Int32) (x6 : Int32) (y0 : Int32) (y1 : Int32), md_fr [42, 43, 47, 48, 49] [39, 40, 51, 52, 53, 54, 55, 56, 57, 58, 59, 60, 62, 63, 64, 65, 66, 99] false false S0 S → dc_pw (mm_lay_I_L196 S x2 x3 x4 x5 x6 y0 y1) (Sum.elim (fun (q : md_S × Int32) => md_fr [42, 43, 47, 48, 49] [39, 40, 51, 52, 53, 54, 55, 56, 57, 58, 59, 60, 62, 63, 64, 65, 66, 99] false false S0 q.1) (fun (q : md_S) => md_fr [42, 43, 47, 48, 49] [39, 40, 51, 52, 53, 54, 55, 56, 57, 58, 59, 60, 62, 63, 64, 65, 66, 99] false false S0 q)) := by
    intro S x2 x3 x4 x5 x6 y0 y1 hf
    delta mm_lay_I_L196
    exact lab_201 S x2 x3 x4 x5 x6 1 y0 y1 hf
  have lab_69 : ∀ (S : md_S) (x2 : Int32) (x3 : Int32) (x4 : Int32) (x5 : Int32) (y0 : Int32), md_fr [42, 43, 47, 48, 49] [39, 40, 51, 52, 53, 54, 55, 56, 57, 58, 59, 60, 62, 63, 64, 65, 66, 99] false false S0 S → dc_pw (mm_lay_I_L69 S x2 x3 x4 x5 y0) (Sum.elim (fun (q : md_S × Int32) => md_fr [42, 43, 47, 48, 49] [39, 40, 51, 52, 53, 54, 55, 56, 57, 58, 59, 60, 62, 63, 64, 65, 66, 99] false false S0 q.1) (fun (q : md_S) => md_fr [42, 43, 47, 48, 49] [39, 40, 51, 52, 53, 54, 55, 56, 57, 58, 59, 60, 62, 63, 64, 65, 66, 99] false false S0 q)) := by
    intro S x2 x3 x4 x5 y0 hf
    delta mm_lay_I_L69
    refine pwS_i (by decide) hf ?_
    intro S42 hf
    refine pw_any ?_
    intro j43
    refine pw_any ?_
    intro j44
    refine pwS_a (by decide) hf ?_
    intro S45 hf
    refine pw_any ?_
    intro j46
    refine pw_any ?_
    intro j47
    refine pwS_a (by decide) hf ?_
    intro S48 hf
    refine pw_any ?_
    intro j49
    refine pw_any ?_
    intro j50
    refine pwS_a (by decide) hf ?_
    intro S51 hf
    refine pw_any ?_
    intro j52
    refine pwS_a (by decide) hf ?_
    intro S53 hf
    refine pw_any ?_
    intro j54
    refine pwS_a (by decide) hf ?_
    intro S55 hf
    refine pw_any ?_
    intro j56
    refine pwS_a (by decide) hf ?_
    intro S57 hf
    refine pw_if ?_ ?_
    · exact lab_202 S57 x2 x3 x4 x5 y0 1 x4 hf
    · refine pw_any ?_
      intro j58
      refine pw_any ?_
      intro j59
      refine pw_if ?_ ?_
      · exact lab_196 S57 x2 x3 x4 x5 y0 (S57.2.1 57 j58) x4 hf
      · refine pw_any ?_
        intro j60
        refine pw_if ?_ ?_
        · refine pw_if ?_ ?_
          · exact lab_200 S57 x2 x3 x4 x5 y0 (S57.2.1 57 j58) x4 hf
          · exact lab_196 S57 x2 x3 x4 x5 y0 (S57.2.1 57 j58) x4 hf
        · exact lab_200 S57 x2 x3 x4 x5 y0 (S57.2.1 57 j58) x4 hf
  have lab_68 : ∀ (S : md_S) (x2 : Int32) (x3 : Int32) (x4 : Int32) (x5 : Int32), md_fr [42, 43, 47, 48, 49] [39, 40, 51, 52, 53, 54, 55, 56, 57, 58, 59, 60, 62, 63, 64, 65, 66, 99] false false S0 S → dc_pw (mm_lay_I_L68 S x2 x3 x4 x5) (Sum.elim (fun (q : md_S × Int32) => md_fr [42, 43, 47, 48, 49] [39, 40, 51, 52, 53, 54, 55, 56, 57, 58, 59, 60, 62, 63, 64, 65, 66, 99] false false S0 q.1) (fun (q : md_S) => md_fr [42, 43, 47, 48, 49] [39, 40, 51, 52, 53, 54, 55, 56, 57, 58, 59, 60, 62, 63, 64, 65, 66, 99] false false S0 q)) := by
    intro S x2 x3 x4 x5 hf
    delta mm_lay_I_L68
    exact lab_69 S x2 x3 x4 x5 0 hf
  have body_16 : ∀ (S : md_S) (x2 : Int32), md_fr [42, 43, 47, 48, 49] [39, 40, 51, 52, 53, 54, 55, 56, 57, 58, 59, 60, 62, 63, 64, 65, 66, 99] false false S0 S → dc_pw (mm_lay_I_b16 S x2) (Sum.elim (fun (q : md_S × Int32) => md_fr [42, 43, 47, 48, 49] [39, 40, 51, 52, 53, 54, 55, 56, 57, 58, 59, 60, 62, 63, 64, 65, 66, 99] false false S0 q.1) (fun (q : md_S) => md_fr [42, 43, 47, 48, 49] [39, 40, 51, 52, 53, 54, 55, 56, 57, 58, 59, 60, 62, 63, 64, 65, 66, 99] false false S0 q)) := by
    intro S x2 hf
    delta mm_lay_I_b16
    refine pw_if ?_ ?_
    · refine pw_any ?_
      intro j61
      refine pw_let ?_
      intro v62
      refine pw_let ?_
      intro v63
      refine pw_any ?_
      intro j64
      refine pw_let ?_
      intro v65
      refine pw_any ?_
      intro j66
      refine pw_if ?_ ?_
      · refine pw_if ?_ ?_
        · exact lab_68 S (x2 + (-1)) v62 v63 v65 hf
        · exact lab_69 S (x2 + (-1)) v62 v63 v65 1 hf
      · exact lab_68 S (x2 + (-1)) v62 v63 v65 hf
    · exact pw_some hf
  have lab_16 : ∀ (S : md_S) (x2 : Int32), md_fr [42, 43, 47, 48, 49] [39, 40, 51, 52, 53, 54, 55, 56, 57, 58, 59, 60, 62, 63, 64, 65, 66, 99] false false S0 S → dc_pw (mm_lay_I_L16 S x2) (fun q => md_fr [42, 43, 47, 48, 49] [39, 40, 51, 52, 53, 54, 55, 56, 57, 58, 59, 60, 62, 63, 64, 65, 66, 99] false false S0 q) := by
    intro S x2 hf
    delta mm_lay_I_L16
    refine pw_loop (fun (q : md_S × Int32) => md_fr [42, 43, 47, 48, 49] [39, 40, 51, 52, 53, 54, 55, 56, 57, 58, 59, 60, 62, 63, 64, 65, 66, 99] false false S0 q.1) (fun (q : md_S) => md_fr [42, 43, 47, 48, 49] [39, 40, 51, 52, 53, 54, 55, 56, 57, 58, 59, 60, 62, 63, 64, 65, 66, 99] false false S0 q) hf ?_ ?_
    · rintro ⟨S, x2⟩ hf
      exact body_16 S x2 hf
    · rintro Sz hf
      exact lab_460 Sz hf
  have hf : md_fr [42, 43, 47, 48, 49] [39, 40, 51, 52, 53, 54, 55, 56, 57, 58, 59, 60, 62, 63, 64, 65, 66, 99] false false S0 S0 := md_fr_rf
  delta mm_lay_I
  refine pw_any ?_
  intro j67
  refine pwS_a (by decide) hf ?_
  intro S68 hf
  refine pw_any ?_
  intro j69
  refine pwS_a (by decide) hf ?_
  intro S70 hf
  exact lab_16 S70 1 hf
theorem mm_settle_fr (S0 : md_S) : dc_pw (mm_settle S0) (fun q => md_fr [41, 44, 45, 46, 50, 77, 82] [54, 61, 68, 69] false false S0 q) := by
  have lab_190 : ∀ (S : md_S), md_fr [41, 44, 45, 46, 50, 77, 82] [54, 61, 68, 69] false false S0 S → dc_pw (mm_settle_L190 S) (fun q => md_fr [41, 44, 45, 46, 50, 77, 82] [54, 61, 68, 69] false false S0 q) := by
    intro S  hf
    delta mm_settle_L190
    exact pw_some hf
  have lab_184 : ∀ (S : md_S) (x1 : Int32), md_fr [41, 44, 45, 46, 50, 77, 82] [54, 61, 68, 69] false false S0 S → dc_pw (mm_settle_L184 S x1) (Sum.elim (fun (q : md_S × Int32) => md_fr [41, 44, 45, 46, 50, 77, 82] [54, 61, 68, 69] false false S0 q.1) (fun (q : md_S) => md_fr [41, 44, 45, 46, 50, 77, 82] [54, 61, 68, 69] false false S0 q)) := by
    intro S x1 hf
    delta mm_settle_L184
    exact pw_some hf
  have lab_143 : ∀ (S : md_S) (x1 : Int32), md_fr [41, 44, 45, 46, 50, 77, 82] [54, 61, 68, 69] false false S0 S → dc_pw (mm_settle_L143 S x1) (Sum.elim (fun (q : md_S × Int32) => md_fr [41, 44, 45, 46, 50, 77, 82] [54, 61, 68, 69] false false S0 q.1) (fun (q : md_S) => md_fr [41, 44, 45, 46, 50, 77, 82] [54, 61, 68, 69] false false S0 q)) := by
    intro S x1 hf
    delta mm_settle_L143
    refine pw_any ?_
    intro j1
    refine pw_if ?_ ?_
    · refine pw_any ?_
      intro j2
      refine pwS_a (by decide) hf ?_
      intro S3 hf
      refine pw_any ?_
      intro j4
      refine pwS_i (by decide) hf ?_
      intro S5 hf
      exact lab_184 S5 x1 hf
    · exact lab_184 S x1 hf
  have body_117 : ∀ (S : md_S) (x1 : Int32), md_fr [41, 44, 45, 46, 50, 77, 82] [54, 61, 68, 69] false false S0 S → dc_pw (mm_settle_b117 S x1) (Sum.elim (fun (q : md_S × Int32) => md_fr [41, 44, 45, 46, 50, 77, 82] [54, 61, 68, 69] false false S0 q.1) (fun (q : md_S) => md_fr [41, 44, 45, 46, 50, 77, 82] [54, 61, 68, 69] false false S0 q)) := by
    intro S x1 hf
    delta mm_settle_b117
    refine pw_if ?_ ?_
    · refine pw_any ?_
      intro j6
      refine pw_if ?_ ?_
      · refine pw_any ?_
        intro j7
        refine pwS_a (by decide) hf ?_
        intro S8 hf
        exact lab_143 S8 x1 hf
      · exact lab_143 S x1 hf
    · exact pw_some hf
  have lab_117 : ∀ (S : md_S) (x1 : Int32), md_fr [41, 44, 45, 46, 50, 77, 82] [54, 61, 68, 69] false false S0 S → dc_pw (mm_settle_L117 S x1) (fun q => md_fr [41, 44, 45, 46, 50, 77, 82] [54, 61, 68, 69] false false S0 q) := by
    intro S x1 hf
    delta mm_settle_L117
    refine pw_loop (fun (q : md_S × Int32) => md_fr [41, 44, 45, 46, 50, 77, 82] [54, 61, 68, 69] false false S0 q.1) (fun (q : md_S) => md_fr [41, 44, 45, 46, 50, 77, 82] [54, 61, 68, 69] false false S0 q) hf ?_ ?_
    · rintro ⟨S, x1⟩ hf
      exact body_117 S x1 hf
    · rintro Sz hf
      exact lab_190 Sz hf
  have lab_115 : ∀ (S : md_S), md_fr [41, 44, 45, 46, 50, 77, 82] [54, 61, 68, 69] false false S0 S → dc_pw (mm_settle_L115 S) (fun q => md_fr [41, 44, 45, 46, 50, 77, 82] [54, 61, 68, 69] false false S0 q) := by
    intro S  hf
    delta mm_settle_L115
    exact lab_117 S 0 hf
  have lab_109 : ∀ (S : md_S) (x1 : Int32), md_fr [41, 44, 45, 46, 50, 77, 82] [54, 61, 68, 69] false false S0 S → dc_pw (mm_settle_L109 S x1) (Sum.elim (fun (q : md_S × Int32) => md_fr [41, 44, 45, 46, 50, 77, 82] [54, 61, 68, 69] false false S0 q.1) (fun (q : md_S) => md_fr [41, 44, 45, 46, 50, 77, 82] [54, 61, 68, 69] false false S0 q)) := by
    intro S x1 hf
    delta mm_settle_L109
    exact pw_some hf
  have body_69 : ∀ (S : md_S) (x1 : Int32) (x2 : Int32), md_fr [41, 44, 45, 46, 50, 77, 82] [54, 61, 68, 69] false false S0 S → dc_pw (mm_settle_b69 S x1 x2) (Sum.elim (fun (q : md_S × Int32) => md_fr [41, 44, 45, 46, 50, 77, 82] [54, 61, 68, 69] false false S0 q.1) (fun (q : md_S) => md_fr [41, 44, 45, 46, 50, 77, 82] [54, 61, 68, 69] false false S0 q)) := by
    intro S x1 x2 hf
    delta mm_settle_b69
    refine pw_any ?_
    intro j9
    refine pw_if ?_ ?_
    · refine pw_any ?_
      intro j10
      refine pw_any ?_
      intro j11
      refine pw_any ?_
      intro j12
      refine pwS_a (by decide) hf ?_
      intro S13 hf
      exact pw_some hf
    · exact pw_some hf
  have lab_69 : ∀ (S : md_S) (x1 : Int32) (x2 : Int32), md_fr [41, 44, 45, 46, 50, 77, 82] [54, 61, 68, 69] false false S0 S → dc_pw (mm_settle_L69 S x1 x2) (Sum.elim (fun (q : md_S × Int32) => md_fr [41, 44, 45, 46, 50, 77, 82] [54, 61, 68, 69] false false S0 q.1) (fun (q : md_S) => md_fr [41, 44, 45, 46, 50, 77, 82] [54, 61, 68, 69] false false S0 q)) := by
    intro S x1 x2 hf
    delta mm_settle_L69
    refine pw_loop (fun (q : md_S × Int32) => md_fr [41, 44, 45, 46, 50, 77, 82] [54, 61, 68, 69] false false S0 q.1) (fun (q : md_S) => md_fr [41, 44, 45, 46, 50, 77, 82] [54, 61, 68, 69] false false S0 q) hf ?_ ?_
    · rintro ⟨S, x2⟩ hf
      exact body_69 S x1 x2 hf
    · rintro Sz hf
      exact lab_109 Sz x1 hf
  have body_47 : ∀ (S : md_S) (x1 : Int32), md_fr [41, 44, 45, 46, 50, 77, 82] [54, 61, 68, 69] false false S0 S → dc_pw (mm_settle_b47 S x1) (Sum.elim (fun (q : md_S × Int32) => md_fr [41, 44, 45, 46, 50, 77, 82] [54, 61, 68, 69] false false S0 q.1) (fun (q : md_S) => md_fr [41, 44, 45, 46, 50, 77, 82] [54, 61, 68, 69] false false S0 q)) := by
    intro S x1 hf
    delta mm_settle_b47
    refine pw_if ?_ ?_
    · refine pw_any ?_
      intro j14
      refine pw_any ?_
      intro j15
      refine pwS_a (by decide) hf ?_
      intro S16 hf
      exact lab_69 S16 x1 0 hf
    · exact pw_some hf
  have lab_47 : ∀ (S : md_S) (x1 : Int32), md_fr [41, 44, 45, 46, 50, 77, 82] [54, 61, 68, 69] false false S0 S → dc_pw (mm_settle_L47 S x1) (fun q => md_fr [41, 44, 45, 46, 50, 77, 82] [54, 61, 68, 69] false false S0 q) := by
    intro S x1 hf
    delta mm_settle_L47
    refine pw_loop (fun (q : md_S × Int32) => md_fr [41, 44, 45, 46, 50, 77, 82] [54, 61, 68, 69] false false S0 q.1) (fun (q : md_S) => md_fr [41, 44, 45, 46, 50, 77, 82] [54, 61, 68, 69] false false S0 q) hf ?_ ?_
    · rintro ⟨S, x1⟩ hf
      exact body_47 S x1 hf
    · rintro Sz hf
      exact lab_115 Sz hf
  have hf : md_fr [41, 44, 45, 46, 50, 77, 82] [54, 61, 68, 69] false false S0 S0 := md_fr_rf
  delta mm_settle
  refine pwS_i (by decide) hf ?_
  intro S17 hf
  refine pwS_i (by decide) hf ?_
  intro S18 hf
  refine pwS_i (by decide) hf ?_
  intro S19 hf
  refine pwS_i (by decide) hf ?_
  intro S20 hf
  refine pwS_i (by decide) hf ?_
  intro S21 hf
  refine pwS_i (by decide) hf ?_
  intro S22 hf
  refine pwS_i (by decide) hf ?_
  intro S23 hf
  exact lab_47 S23 0 hf
theorem mm_read_fr (S0 : md_S) : dc_pw (mm_read S0) (fun q => md_fr [0, 2, 3, 4, 5, 6, 7, 8, 10, 11, 12, 13, 14, 15, 16, 17, 18, 19, 20, 27, 28, 29, 41, 42, 43, 44, 45, 46, 47, 48, 49, 50, 77, 82, 83, 85, 86, 87, 106] [21, 22, 23, 24, 25, 26, 30, 31, 32, 33, 34, 35, 36, 37, 38, 39, 40, 51, 52, 53, 54, 55, 56, 57, 58, 59, 60, 61, 62, 63, 64, 65, 66, 68, 69, 74, 84, 99] true false S0 q.1) := by
  have lab_263 : ∀ (S : md_S), md_fr [0, 2, 3, 4, 5, 6, 7, 8, 10, 11, 12, 13, 14, 15, 16, 17, 18, 19, 20, 27, 28, 29, 41, 42, 43, 44, 45, 46, 47, 48, 49, 50, 77, 82, 83, 85, 86, 87, 106] [21, 22, 23, 24, 25, 26, 30, 31, 32, 33, 34, 35, 36, 37, 38, 39, 40, 51, 52, 53, 54, 55, 56, 57, 58, 59, 60, 61, 62, 63, 64, 65, 66, 68, 69, 74, 84, 99] true false S0 S → dc_pw (mm_read_L263 S) (fun q => md_fr [0, 2, 3, 4, 5, 6, 7, 8, 10, 11, 12, 13, 14, 15, 16, 17, 18, 19, 20, 27, 28, 29, 41, 42, 43, 44, 45, 46, 47, 48, 49, 50, 77, 82, 83, 85, 86, 87, 106] [21, 22, 23, 24, 25, 26, 30, 31, 32, 33, 34, 35, 36, 37, 38, 39, 40, 51, 52, 53, 54, 55, 56, 57, 58, 59, 60, 61, 62, 63, 64, 65, 66, 68, 69, 74, 84, 99] true false S0 q.1) := by
    intro S  hf
    delta mm_read_L263
    exact pw_some hf
  have lab_235 : ∀ (S : md_S), md_fr [0, 2, 3, 4, 5, 6, 7, 8, 10, 11, 12, 13, 14, 15, 16, 17, 18, 19, 20, 27, 28, 29, 41, 42, 43, 44, 45, 46, 47, 48, 49, 50, 77, 82, 83, 85, 86, 87, 106] [21, 22, 23, 24, 25, 26, 30, 31, 32, 33, 34, 35, 36, 37, 38, 39, 40, 51, 52, 53, 54, 55, 56, 57, 58, 59, 60, 61, 62, 63, 64, 65, 66, 68, 69, 74, 84, 99] true false S0 S → dc_pw (mm_read_L235 S) (fun q => md_fr [0, 2, 3, 4, 5, 6, 7, 8, 10, 11, 12, 13, 14, 15, 16, 17, 18, 19, 20, 27, 28, 29, 41, 42, 43, 44, 45, 46, 47, 48, 49, 50, 77, 82, 83, 85, 86, 87, 106] [21, 22, 23, 24, 25, 26, 30, 31, 32, 33, 34, 35, 36, 37, 38, 39, 40, 51, 52, 53, 54, 55, 56, 57, 58, 59, 60, 61, 62, 63, 64, 65, 66, 68, 69, 74, 84, 99] true false S0 q.1) := by
    intro S  hf
    delta mm_read_L235
    refine pwS_i (by decide) hf ?_
    intro S1 hf
    refine pwS_i (by decide) hf ?_
    intro S2 hf
    refine pw_if ?_ ?_
    · refine pwS_callv (mm_forget_fr S2) (by decide) hf ?_
      intro q3 hf
      exact lab_263 q3 hf
    · refine pwS_callv (mm_settle_fr S2) (by decide) hf ?_
      intro q4 hf
      exact lab_263 q4 hf
  have lab_219 : ∀ (S : md_S) (y0 : Int32), md_fr [0, 2, 3, 4, 5, 6, 7, 8, 10, 11, 12, 13, 14, 15, 16, 17, 18, 19, 20, 27, 28, 29, 41, 42, 43, 44, 45, 46, 47, 48, 49, 50, 77, 82, 83, 85, 86, 87, 106] [21, 22, 23, 24, 25, 26, 30, 31, 32, 33, 34, 35, 36, 37, 38, 39, 40, 51, 52, 53, 54, 55, 56, 57, 58, 59, 60, 61, 62, 63, 64, 65, 66, 68, 69, 74, 84, 99] true false S0 S → dc_pw (mm_read_L219 S y0) (fun q => md_fr [0, 2, 3, 4, 5, 6, 7, 8, 10, 11, 12, 13, 14, 15, 16, 17, 18, 19, 20, 27, 28, 29, 41, 42, 43, 44, 45, 46, 47, 48, 49, 50, 77, 82, 83, 85, 86, 87, 106] [21, 22, 23, 24, 25, 26, 30, 31, 32, 33, 34, 35, 36, 37, 38, 39, 40, 51, 52, 53, 54, 55, 56, 57, 58, 59, 60, 61, 62, 63, 64, 65, 66, 68, 69, 74, 84, 99] true false S0 q.1) := by
    intro S y0 hf
    delta mm_read_L219
    refine pw_any ?_
    intro _
    refine pwS_i (by decide) hf ?_
    intro S6 hf
    refine pw_if ?_ ?_
    · exact lab_235 S6 hf
    · refine pwS_i (by decide) hf ?_
      intro S7 hf
      exact lab_235 S7 hf
  have lab_214 : ∀ (S : md_S), md_fr [0, 2, 3, 4, 5, 6, 7, 8, 10, 11, 12, 13, 14, 15, 16, 17, 18, 19, 20, 27, 28, 29, 41, 42, 43, 44, 45, 46, 47, 48, 49, 50, 77, 82, 83, 85, 86, 87, 106] [21, 22, 23, 24, 25, 26, 30, 31, 32, 33, 34, 35, 36, 37, 38, 39, 40, 51, 52, 53, 54, 55, 56, 57, 58, 59, 60, 61, 62, 63, 64, 65, 66, 68, 69, 74, 84, 99] true false S0 S → dc_pw (mm_read_L214 S) (fun q => md_fr [0, 2, 3, 4, 5, 6, 7, 8, 10, 11, 12, 13, 14, 15, 16, 17, 18, 19, 20, 27, 28, 29, 41, 42, 43, 44, 45, 46, 47, 48, 49, 50, 77, 82, 83, 85, 86, 87, 106] [21, 22, 23, 24, 25, 26, 30, 31, 32, 33, 34, 35, 36, 37, 38, 39, 40, 51, 52, 53, 54, 55, 56, 57, 58, 59, 60, 61, 62, 63, 64, 65, 66, 68, 69, 74, 84, 99] true false S0 q.1) := by
    intro S  hf
    delta mm_read_L214
    exact lab_219 S 1 hf
  have lab_167 : ∀ (S : md_S), md_fr [0, 2, 3, 4, 5, 6, 7, 8, 10, 11, 12, 13, 14, 15, 16, 17, 18, 19, 20, 27, 28, 29, 41, 42, 43, 44, 45, 46, 47, 48, 49, 50, 77, 82, 83, 85, 86, 87, 106] [21, 22, 23, 24, 25, 26, 30, 31, 32, 33, 34, 35, 36, 37, 38, 39, 40, 51, 52, 53, 54, 55, 56, 57, 58, 59, 60, 61, 62, 63, 64, 65, 66, 68, 69, 74, 84, 99] true false S0 S → dc_pw (mm_read_L167 S) (fun q => md_fr [0, 2, 3, 4, 5, 6, 7, 8, 10, 11, 12, 13, 14, 15, 16, 17, 18, 19, 20, 27, 28, 29, 41, 42, 43, 44, 45, 46, 47, 48, 49, 50, 77, 82, 83, 85, 86, 87, 106] [21, 22, 23, 24, 25, 26, 30, 31, 32, 33, 34, 35, 36, 37, 38, 39, 40, 51, 52, 53, 54, 55, 56, 57, 58, 59, 60, 61, 62, 63, 64, 65, 66, 68, 69, 74, 84, 99] true false S0 q.1) := by
    intro S  hf
    delta mm_read_L167
    refine pw_if ?_ ?_
    · refine pw_if ?_ ?_
      · exact lab_214 S hf
      · refine pw_if ?_ ?_
        · exact lab_214 S hf
        · refine pw_if ?_ ?_
          · exact lab_214 S hf
          · refine pw_if ?_ ?_
            · exact lab_214 S hf
            · exact lab_219 S 0 hf
    · exact lab_214 S hf
  have lab_152 : ∀ (S : md_S) (x1 : Int32) (y0 : Int32), md_fr [0, 2, 3, 4, 5, 6, 7, 8, 10, 11, 12, 13, 14, 15, 16, 17, 18, 19, 20, 27, 28, 29, 41, 42, 43, 44, 45, 46, 47, 48, 49, 50, 77, 82, 83, 85, 86, 87, 106] [21, 22, 23, 24, 25, 26, 30, 31, 32, 33, 34, 35, 36, 37, 38, 39, 40, 51, 52, 53, 54, 55, 56, 57, 58, 59, 60, 61, 62, 63, 64, 65, 66, 68, 69, 74, 84, 99] true false S0 S → dc_pw (mm_read_L152 S x1 y0) (fun q => md_fr [0, 2, 3, 4, 5, 6, 7, 8, 10, 11, 12, 13, 14, 15, 16, 17, 18, 19, 20, 27, 28, 29, 41, 42, 43, 44, 45, 46, 47, 48, 49, 50, 77, 82, 83, 85, 86, 87, 106] [21, 22, 23, 24, 25, 26, 30, 31, 32, 33, 34, 35, 36, 37, 38, 39, 40, 51, 52, 53, 54, 55, 56, 57, 58, 59, 60, 61, 62, 63, 64, 65, 66, 68, 69, 74, 84, 99] true false S0 q.1) := by
    intro S x1 y0 hf
    delta mm_read_L152
    refine pw_any ?_
    intro _
    refine pwS_i (by decide) hf ?_
    intro S9 hf
    refine pw_if ?_ ?_
    · refine pwS_callv (mm_lay_I_fr S9 x1) (by decide) hf ?_
      intro q10 hf
      exact lab_167 q10 hf
    · exact lab_167 S9 hf
  have lab_147 : ∀ (S : md_S) (x1 : Int32), md_fr [0, 2, 3, 4, 5, 6, 7, 8, 10, 11, 12, 13, 14, 15, 16, 17, 18, 19, 20, 27, 28, 29, 41, 42, 43, 44, 45, 46, 47, 48, 49, 50, 77, 82, 83, 85, 86, 87, 106] [21, 22, 23, 24, 25, 26, 30, 31, 32, 33, 34, 35, 36, 37, 38, 39, 40, 51, 52, 53, 54, 55, 56, 57, 58, 59, 60, 61, 62, 63, 64, 65, 66, 68, 69, 74, 84, 99] true false S0 S → dc_pw (mm_read_L147 S x1) (fun q => md_fr [0, 2, 3, 4, 5, 6, 7, 8, 10, 11, 12, 13, 14, 15, 16, 17, 18, 19, 20, 27, 28, 29, 41, 42, 43, 44, 45, 46, 47, 48, 49, 50, 77, 82, 83, 85, 86, 87, 106] [21, 22, 23, 24, 25, 26, 30, 31, 32, 33, 34, 35, 36, 37, 38, 39, 40, 51, 52, 53, 54, 55, 56, 57, 58, 59, 60, 61, 62, 63, 64, 65, 66, 68, 69, 74, 84, 99] true false S0 q.1) := by
    intro S x1 hf
    delta mm_read_L147
    exact lab_152 S x1 1 hf
  have lab_104 : ∀ (S : md_S) (x1 : Int32), md_fr [0, 2, 3, 4, 5, 6, 7, 8, 10, 11, 12, 13, 14, 15, 16, 17, 18, 19, 20, 27, 28, 29, 41, 42, 43, 44, 45, 46, 47, 48, 49, 50, 77, 82, 83, 85, 86, 87, 106] [21, 22, 23, 24, 25, 26, 30, 31, 32, 33, 34, 35, 36, 37, 38, 39, 40, 51, 52, 53, 54, 55, 56, 57, 58, 59, 60, 61, 62, 63, 64, 65, 66, 68, 69, 74, 84, 99] true false S0 S → dc_pw (mm_read_L104 S x1) (fun q => md_fr [0, 2, 3, 4, 5, 6, 7, 8, 10, 11, 12, 13, 14, 15, 16, 17, 18, 19, 20, 27, 28, 29, 41, 42, 43, 44, 45, 46, 47, 48, 49, 50, 77, 82, 83, 85, 86, 87, 106] [21, 22, 23, 24, 25, 26, 30, 31, 32, 33, 34, 35, 36, 37, 38, 39, 40, 51, 52, 53, 54, 55, 56, 57, 58, 59, 60, 61, 62, 63, 64, 65, 66, 68, 69, 74, 84, 99] true false S0 q.1) := by
    intro S x1 hf
    delta mm_read_L104
    refine pw_if ?_ ?_
    · refine pw_if ?_ ?_
      · refine pw_if ?_ ?_
        · exact lab_147 S x1 hf
        · refine pw_if ?_ ?_
          · exact lab_147 S x1 hf
          · refine pw_if ?_ ?_
            · exact lab_147 S x1 hf
            · exact lab_152 S x1 0 hf
      · exact lab_147 S x1 hf
    · exact lab_235 S hf
  have hf : md_fr [0, 2, 3, 4, 5, 6, 7, 8, 10, 11, 12, 13, 14, 15, 16, 17, 18, 19, 20, 27, 28, 29, 41, 42, 43, 44, 45, 46, 47, 48, 49, 50, 77, 82, 83, 85, 86, 87, 106] [21, 22, 23, 24, 25, 26, 30, 31, 32, 33, 34, 35, 36, 37, 38, 39, 40, 51, 52, 53, 54, 55, 56, 57, 58, 59, 60, 61, 62, 63, 64, 65, 66, 68, 69, 74, 84, 99] true false S0 S0 := md_fr_rf
  delta mm_read
  refine pwS_i (by decide) hf ?_
  intro S11 hf
  refine pwS_i (by decide) hf ?_
  intro S12 hf
  refine pwS_i (by decide) hf ?_
  intro S13 hf
  refine pwS_i (by decide) hf ?_
  intro S14 hf
  refine pwS_i (by decide) hf ?_
  intro S15 hf
  refine pwS_i (by decide) hf ?_
  intro S16 hf
  refine pwS_i (by decide) hf ?_
  intro S17 hf
  refine pwS_i (by decide) hf ?_
  intro S18 hf
  refine pwS_i (by decide) hf ?_
  intro S19 hf
  refine pwS_i (by decide) hf ?_
  intro S20 hf
  refine pwS_i (by decide) hf ?_
  intro S21 hf
  refine pwS_i (by decide) hf ?_
  intro S22 hf
  refine pwS_i (by decide) hf ?_
  intro S23 hf
  refine pwS_callv (mm_forget_fr S23) (by decide) hf ?_
  intro q24 hf
  refine pwS_call (mm_program_fr q24) (by decide) hf ?_
  intro q25 hf
  refine pw_if ?_ ?_
  · refine pw_if ?_ ?_
    · refine pwS_i (by decide) hf ?_
      intro S26 hf
      exact lab_104 S26 q25.2 hf
    · exact lab_104 q25.1 q25.2 hf
  · exact lab_104 q25.1 q25.2 hf
theorem mm_node_II_fr (S0 : md_S) (p1 : Int32) (p2 : Int32) : dc_pw (mm_node_II S0 p1 p2) (fun q => md_fr [0] [] false false S0 q.1) := by
  have lab_17 : ∀ (S : md_S), md_fr [0] [] false false S0 S → dc_pw (mm_node_II_L17 S) (fun q => md_fr [0] [] false false S0 q.1) := by
    intro S  hf
    delta mm_node_II_L17
    exact pw_some hf
  have hf : md_fr [0] [] false false S0 S0 := md_fr_rf
  delta mm_node_II
  refine pwS_i (by decide) hf ?_
  intro S1 hf
  refine pw_if ?_ ?_
  · exact lab_17 S1 hf
  · refine pw_if ?_ ?_
    · refine pw_let ?_
      intro v2
      refine pw_if ?_ ?_
      · refine pw_any ?_
        intro j3
        exact pw_some hf
      · refine pw_if ?_ ?_
        · refine pw_any ?_
          intro j5
          exact pw_some hf
        · refine pw_if ?_ ?_
          · refine pw_any ?_
            intro j7
            exact pw_some hf
          · refine pw_if ?_ ?_
            · refine pw_any ?_
              intro j9
              exact pw_some hf
            · refine pw_if ?_ ?_
              · refine pw_any ?_
                intro j11
                exact pw_some hf
              · refine pw_if ?_ ?_
                · refine pw_any ?_
                  intro j13
                  exact pw_some hf
                · refine pw_if ?_ ?_
                  · refine pw_any ?_
                    intro j15
                    exact pw_some hf
                  · exact pw_some hf
    · exact lab_17 S1 hf
theorem mm_piece_II_fr (S0 : md_S) (p1 : Int32) (p2 : Int32) : dc_pw (mm_piece_II S0 p1 p2) (fun q => md_fr [0] [] false false S0 q.1) := by
  have lab_61 : ∀ (S : md_S) (y0 : Int32), md_fr [0] [] false false S0 S → dc_pw (mm_piece_II_L61 S y0) (fun q => md_fr [0] [] false false S0 q.1) := by
    intro S y0 hf
    delta mm_piece_II_L61
    exact pw_some hf
  have lab_17 : ∀ (S : md_S), md_fr [0] [] false false S0 S → dc_pw (mm_piece_II_L17 S) (fun q => md_fr [0] [] false false S0 q.1) := by
    intro S  hf
    delta mm_piece_II_L17
    exact pw_some hf
  have hf : md_fr [0] [] false false S0 S0 := md_fr_rf
  delta mm_piece_II
  refine pwS_i (by decide) hf ?_
  intro S1 hf
  refine pw_if ?_ ?_
  · exact lab_17 S1 hf
  · refine pw_if ?_ ?_
    · refine pw_if ?_ ?_
      · refine pw_any ?_
        intro j2
        exact lab_61 S1 (S1.2.1 63 j2) hf
      · refine pw_if ?_ ?_
        · refine pw_any ?_
          intro j3
          exact lab_61 S1 (S1.2.1 64 j3) hf
        · refine pw_if ?_ ?_
          · refine pw_any ?_
            intro j4
            exact lab_61 S1 (S1.2.1 65 j4) hf
          · exact lab_61 S1 (-1) hf
    · exact lab_17 S1 hf
theorem mm_letter_II_fr (S0 : md_S) (p1 : Int32) (p2 : Int32) : dc_pw (mm_letter_II S0 p1 p2) (fun q => md_fr [0] [] false false S0 q.1) := by
  have lab_46 : ∀ (S : md_S) (y0 : Int32), md_fr [0] [] false false S0 S → dc_pw (mm_letter_II_L46 S y0) (fun q => md_fr [0] [] false false S0 q.1) := by
    intro S y0 hf
    delta mm_letter_II_L46
    exact pw_some hf
  have lab_31 : ∀ (S : md_S), md_fr [0] [] false false S0 S → dc_pw (mm_letter_II_L31 S) (fun q => md_fr [0] [] false false S0 q.1) := by
    intro S  hf
    delta mm_letter_II_L31
    exact lab_46 S (-1) hf
  have hf : md_fr [0] [] false false S0 S0 := md_fr_rf
  delta mm_letter_II
  refine pwS_i (by decide) hf ?_
  intro S1 hf
  refine pw_if ?_ ?_
  · exact lab_31 S1 hf
  · refine pw_if ?_ ?_
    · refine pw_if ?_ ?_
      · exact lab_31 S1 hf
      · refine pw_any ?_
        intro j2
        refine pw_if ?_ ?_
        · refine pw_any ?_
          intro j3
          exact lab_46 S1 (S1.2.1 68 j3) hf
        · exact lab_31 S1 hf
    · exact lab_31 S1 hf
theorem mm_fails_fr (S0 : md_S) (p1 : Int32) (p2 : Int32) : dc_pw (mm_fails S0 p1 p2) (fun q => md_fr [0] [] false false S0 q.1) := by
  have lab_33 : ∀ (S : md_S) (y0 : Int32), md_fr [0] [] false false S0 S → dc_pw (mm_fails_L33 S y0) (fun q => md_fr [0] [] false false S0 q.1) := by
    intro S y0 hf
    delta mm_fails_L33
    refine pw_any ?_
    intro _
    exact pw_some hf
  have lab_18 : ∀ (S : md_S) (y0 : Int32), md_fr [0] [] false false S0 S → dc_pw (mm_fails_L18 S y0) (fun q => md_fr [0] [] false false S0 q.1) := by
    intro S y0 hf
    delta mm_fails_L18
    refine pwS_i (by decide) hf ?_
    intro S2 hf
    refine pw_if ?_ ?_
    · exact lab_33 S2 1 hf
    · exact lab_33 S2 0 hf
  have hf : md_fr [0] [] false false S0 S0 := md_fr_rf
  delta mm_fails
  refine pw_if ?_ ?_
  · refine pw_if ?_ ?_
    · exact lab_18 S0 0 hf
    · exact lab_18 S0 2 hf
  · exact lab_18 S0 1 hf
theorem mm_rest_fr (S0 : md_S) : dc_pw (mm_rest S0) (fun q => md_fr [83] [84] false false S0 q) := by
  have lab_26 : ∀ (S : md_S), md_fr [83] [84] false false S0 S → dc_pw (mm_rest_L26 S) (fun q => md_fr [83] [84] false false S0 q) := by
    intro S  hf
    delta mm_rest_L26
    exact pw_some hf
  have body_7 : ∀ (S : md_S) (x1 : Int32), md_fr [83] [84] false false S0 S → dc_pw (mm_rest_b7 S x1) (Sum.elim (fun (q : md_S × Int32) => md_fr [83] [84] false false S0 q.1) (fun (q : md_S) => md_fr [83] [84] false false S0 q)) := by
    intro S x1 hf
    delta mm_rest_b7
    refine pw_if ?_ ?_
    · refine pw_any ?_
      intro j1
      refine pwS_a (by decide) hf ?_
      intro S2 hf
      exact pw_some hf
    · exact pw_some hf
  have lab_7 : ∀ (S : md_S) (x1 : Int32), md_fr [83] [84] false false S0 S → dc_pw (mm_rest_L7 S x1) (fun q => md_fr [83] [84] false false S0 q) := by
    intro S x1 hf
    delta mm_rest_L7
    refine pw_loop (fun (q : md_S × Int32) => md_fr [83] [84] false false S0 q.1) (fun (q : md_S) => md_fr [83] [84] false false S0 q) hf ?_ ?_
    · rintro ⟨S, x1⟩ hf
      exact body_7 S x1 hf
    · rintro Sz hf
      exact lab_26 Sz hf
  have hf : md_fr [83] [84] false false S0 S0 := md_fr_rf
  delta mm_rest
  refine pwS_i (by decide) hf ?_
  intro S3 hf
  exact lab_7 S3 0 hf
theorem mm_place_fr (S0 : md_S) (p1 : Int32) : dc_pw (mm_place S0 p1) (fun q => md_fr [77] [74] false false S0 q) := by
  have lab_64 : ∀ (S : md_S), md_fr [77] [74] false false S0 S → dc_pw (mm_place_L64 S) (fun q => md_fr [77] [74] false false S0 q) := by
    intro S  hf
    delta mm_place_L64
    exact pw_some hf
  have lab_57 : ∀ (S : md_S) (x1 : Int32) (x2 : Int32) (y0 : Int32) (y1 : Int32), md_fr [77] [74] false false S0 S → dc_pw (mm_place_L57 S x1 x2 y0 y1) (Sum.elim (fun (q : md_S × Int32) => md_fr [77] [74] false false S0 q.1) (fun (q : md_S) => md_fr [77] [74] false false S0 q)) := by
    intro S x1 x2 y0 y1 hf
    delta mm_place_L57
    refine pw_any ?_
    intro _
    refine pw_any ?_
    intro j2
    refine pwS_a (by decide) hf ?_
    intro S3 hf
    exact pw_some hf
  have lab_56 : ∀ (S : md_S) (x1 : Int32) (x2 : Int32) (y0 : Int32), md_fr [77] [74] false false S0 S → dc_pw (mm_place_L56 S x1 x2 y0) (Sum.elim (fun (q : md_S × Int32) => md_fr [77] [74] false false S0 q.1) (fun (q : md_S) => md_fr [77] [74] false false S0 q)) := by
    intro S x1 x2 y0 hf
    delta mm_place_L56
    exact lab_57 S x1 x2 0 y0 hf
  have body_18 : ∀ (S : md_S) (x1 : Int32) (x2 : Int32), md_fr [77] [74] false false S0 S → dc_pw (mm_place_b18 S x1 x2) (Sum.elim (fun (q : md_S × Int32) => md_fr [77] [74] false false S0 q.1) (fun (q : md_S) => md_fr [77] [74] false false S0 q)) := by
    intro S x1 x2 hf
    delta mm_place_b18
    refine pw_if ?_ ?_
    · refine pw_if ?_ ?_
      · refine pw_if ?_ ?_
        · refine pw_if ?_ ?_
          · exact lab_57 S x1 x2 1 x2 hf
          · exact lab_56 S x1 x2 x2 hf
        · exact lab_56 S x1 x2 x2 hf
      · exact lab_56 S x1 x2 x2 hf
    · exact pw_some hf
  have lab_18 : ∀ (S : md_S) (x1 : Int32) (x2 : Int32), md_fr [77] [74] false false S0 S → dc_pw (mm_place_L18 S x1 x2) (fun q => md_fr [77] [74] false false S0 q) := by
    intro S x1 x2 hf
    delta mm_place_L18
    refine pw_loop (fun (q : md_S × Int32) => md_fr [77] [74] false false S0 q.1) (fun (q : md_S) => md_fr [77] [74] false false S0 q) hf ?_ ?_
    · rintro ⟨S, x2⟩ hf
      exact body_18 S x1 x2 hf
    · rintro Sz hf
      exact lab_64 Sz hf
  have lab_13 : ∀ (S : md_S) (x1 : Int32) (y0 : Int32), md_fr [77] [74] false false S0 S → dc_pw (mm_place_L13 S x1 y0) (fun q => md_fr [77] [74] false false S0 q) := by
    intro S x1 y0 hf
    delta mm_place_L13
    refine pw_any ?_
    intro _
    refine pwS_i (by decide) hf ?_
    intro S5 hf
    exact lab_18 S5 x1 0 hf
  have hf : md_fr [77] [74] false false S0 S0 := md_fr_rf
  delta mm_place
  refine pw_if ?_ ?_
  · exact lab_13 S0 p1 1 hf
  · exact lab_13 S0 p1 0 hf
theorem mm_restart_fr (S0 : md_S) : dc_pw (mm_restart S0) (fun q => md_fr [0, 77, 82, 83] [74, 84] false false S0 q.1) := by
  have lab_13 : ∀ (S : md_S) (y0 : Int32), md_fr [0, 77, 82, 83] [74, 84] false false S0 S → dc_pw (mm_restart_L13 S y0) (fun q => md_fr [0, 77, 82, 83] [74, 84] false false S0 q.1) := by
    intro S y0 hf
    delta mm_restart_L13
    refine pwS_call (mm_fails_fr S y0 0) (by decide) hf ?_
    intro q1 hf
    refine pw_if ?_ ?_
    · refine pw_let ?_
      intro v2
      refine pwS_callv (mm_rest_fr q1.1) (by decide) hf ?_
      intro q3 hf
      refine pwS_callv (mm_place_fr q3 256) (by decide) hf ?_
      intro q4 hf
      refine pwS_i (by decide) hf ?_
      intro S5 hf
      exact pw_some hf
    · exact pw_some hf
  have hf : md_fr [0, 77, 82, 83] [74, 84] false false S0 S0 := md_fr_rf
  delta mm_restart
  refine pw_if ?_ ?_
  · exact lab_13 S0 1 hf
  · exact lab_13 S0 0 hf
theorem mm_outcome_fr (S0 : md_S) (p1 : Int32) (p2 : Int32) : dc_pw (mm_outcome S0 p1 p2) (fun q => md_fr [80, 81] [] false false S0 q) := by
  have hf : md_fr [80, 81] [] false false S0 S0 := md_fr_rf
  delta mm_outcome
  refine pwS_i (by decide) hf ?_
  intro S1 hf
  refine pwS_i (by decide) hf ?_
  intro S2 hf
  exact pw_some hf
theorem mm_simple_IZ_fr (S0 : md_S) (p1 : Int32) (p2 : Int32) : dc_pw (mm_simple_IZ S0 p1 p2) (fun q => md_fr [80, 81] [71, 72, 75] false false S0 q) := by
  have lab_122 : ∀ (S : md_S) (y0 : Int32) (y1 : Int32), md_fr [80, 81] [71, 72, 75] false false S0 S → dc_pw (mm_simple_IZ_L122 S y0 y1) (fun q => md_fr [80, 81] [71, 72, 75] false false S0 q) := by
    intro S y0 y1 hf
    delta mm_simple_IZ_L122
    refine pwS_callv (mm_outcome_fr S y1 y0) (by decide) hf ?_
    intro q1 hf
    exact pw_some hf
  have lab_109 : ∀ (S : md_S) (x2 : Int32) (x3 : Int32), md_fr [80, 81] [71, 72, 75] false false S0 S → dc_pw (mm_simple_IZ_L109 S x2 x3) (fun q => md_fr [80, 81] [71, 72, 75] false false S0 q) := by
    intro S x2 x3 hf
    delta mm_simple_IZ_L109
    refine pw_if ?_ ?_
    · exact lab_122 S (-1) ((1 : Int32) <<< (x3 &&& (31 : Int32))) hf
    · exact lab_122 S x3 ((1 : Int32) <<< (x3 &&& (31 : Int32))) hf
  have lab_83 : ∀ (S : md_S) (x1 : Int32) (x2 : Int32) (x3 : Int32), md_fr [80, 81] [71, 72, 75] false false S0 S → dc_pw (mm_simple_IZ_L83 S x1 x2 x3) (fun q => md_fr [80, 81] [71, 72, 75] false false S0 q) := by
    intro S x1 x2 x3 hf
    delta mm_simple_IZ_L83
    refine pw_any ?_
    intro j2
    refine pw_if ?_ ?_
    · refine pw_if ?_ ?_
      · exact lab_109 S x2 x3 hf
      · refine pw_any ?_
        intro j3
        refine pw_any ?_
        intro j4
        refine pwS_a (by decide) hf ?_
        intro S5 hf
        exact lab_109 S5 x2 x3 hf
    · exact lab_109 S x2 x3 hf
  have lab_35 : ∀ (S : md_S) (x1 : Int32) (x2 : Int32) (y0 : Int32), md_fr [80, 81] [71, 72, 75] false false S0 S → dc_pw (mm_simple_IZ_L35 S x1 x2 y0) (fun q => md_fr [80, 81] [71, 72, 75] false false S0 q) := by
    intro S x1 x2 y0 hf
    delta mm_simple_IZ_L35
    refine pw_any ?_
    intro j6
    refine pw_if ?_ ?_
    · refine pw_any ?_
      intro j7
      refine pw_any ?_
      intro j8
      refine pw_any ?_
      intro j9
      refine pwS_a (by decide) hf ?_
      intro S10 hf
      refine pw_any ?_
      intro j11
      refine pw_any ?_
      intro j12
      refine pw_any ?_
      intro j13
      refine pw_any ?_
      intro _
      refine pw_any ?_
      intro j15
      refine pwS_a (by decide) hf ?_
      intro S16 hf
      exact lab_83 S16 x1 x2 y0 hf
    · exact lab_83 S x1 x2 y0 hf
  have hf : md_fr [80, 81] [71, 72, 75] false false S0 S0 := md_fr_rf
  delta mm_simple_IZ
  refine pw_any ?_
  intro j17
  refine pw_if ?_ ?_
  · exact lab_35 S0 p1 p2 1 hf
  · refine pw_any ?_
    intro j18
    refine pw_if ?_ ?_
    · refine pw_any ?_
      intro j19
      exact lab_35 S0 p1 p2 (S0.2.1 54 j19) hf
    · exact lab_35 S0 p1 p2 0 hf
theorem mm_truth_fr (S0 : md_S) (p1 : Int32) : dc_pw (mm_truth S0 p1) (fun q => md_fr [] [67] false false S0 q.1) := by
  have lab_197 : ∀ (S : md_S) (x1 : Int32), md_fr [] [67] false false S0 S → dc_pw (mm_truth_L197 S x1) (fun q => md_fr [] [67] false false S0 q.1) := by
    intro S x1 hf
    delta mm_truth_L197
    refine pw_any ?_
    intro j1
    exact pw_some hf
  have lab_190 : ∀ (S : md_S) (x1 : Int32) (x2 : Int32) (y0 : Int32) (y1 : Int32), md_fr [] [67] false false S0 S → dc_pw (mm_truth_L190 S x1 x2 y0 y1) (Sum.elim (fun (q : md_S × Int32) => md_fr [] [67] false false S0 q.1) (fun (q : md_S) => md_fr [] [67] false false S0 q)) := by
    intro S x1 x2 y0 y1 hf
    delta mm_truth_L190
    refine pw_any ?_
    intro j2
    refine pwS_a (by decide) hf ?_
    intro S3 hf
    exact pw_some hf
  have lab_182 : ∀ (S : md_S) (x1 : Int32) (x2 : Int32) (y0 : Int32), md_fr [] [67] false false S0 S → dc_pw (mm_truth_L182 S x1 x2 y0) (Sum.elim (fun (q : md_S × Int32) => md_fr [] [67] false false S0 q.1) (fun (q : md_S) => md_fr [] [67] false false S0 q)) := by
    intro S x1 x2 y0 hf
    delta mm_truth_L182
    exact lab_190 S x1 x2 2 y0 hf
  have lab_166 : ∀ (S : md_S) (x1 : Int32) (x2 : Int32) (x5 : Int32) (y0 : Int32), md_fr [] [67] false false S0 S → dc_pw (mm_truth_L166 S x1 x2 x5 y0) (Sum.elim (fun (q : md_S × Int32) => md_fr [] [67] false false S0 q.1) (fun (q : md_S) => md_fr [] [67] false false S0 q)) := by
    intro S x1 x2 x5 y0 hf
    delta mm_truth_L166
    exact lab_190 S x1 x2 x5 y0 hf
  have lab_113 : ∀ (S : md_S) (x1 : Int32) (x2 : Int32) (x3 : Int32) (x4 : Int32) (x5 : Int32) (y0 : Int32), md_fr [] [67] false false S0 S → dc_pw (mm_truth_L113 S x1 x2 x3 x4 x5 y0) (Sum.elim (fun (q : md_S × Int32) => md_fr [] [67] false false S0 q.1) (fun (q : md_S) => md_fr [] [67] false false S0 q)) := by
    intro S x1 x2 x3 x4 x5 y0 hf
    delta mm_truth_L113
    refine pw_any ?_
    intro j4
    refine pw_if ?_ ?_
    · exact lab_190 S x1 x2 x3 x2 hf
    · refine pw_if ?_ ?_
      · refine pw_if ?_ ?_
        · exact lab_190 S x1 x2 x3 x2 hf
        · exact lab_190 S x1 x2 (1 - x3) x2 hf
      · refine pw_if ?_ ?_
        · exact lab_166 S x1 x2 x5 x2 hf
        · refine pw_if ?_ ?_
          · exact lab_166 S x1 x2 x5 x2 hf
          · refine pw_if ?_ ?_
            · exact lab_182 S x1 x2 x2 hf
            · refine pw_if ?_ ?_
              · exact lab_182 S x1 x2 x2 hf
              · exact lab_190 S x1 x2 (1 - x5) x2 hf
  have lab_96 : ∀ (S : md_S) (x1 : Int32) (x2 : Int32) (x3 : Int32) (x4 : Int32) (y0 : Int32), md_fr [] [67] false false S0 S → dc_pw (mm_truth_L96 S x1 x2 x3 x4 y0) (Sum.elim (fun (q : md_S × Int32) => md_fr [] [67] false false S0 q.1) (fun (q : md_S) => md_fr [] [67] false false S0 q)) := by
    intro S x1 x2 x3 x4 y0 hf
    delta mm_truth_L96
    refine pw_any ?_
    intro j5
    refine pw_if ?_ ?_
    · exact lab_113 S x1 x2 x3 x4 y0 1 hf
    · exact lab_113 S x1 x2 x3 x4 y0 0 hf
  have lab_79 : ∀ (S : md_S) (x1 : Int32) (x2 : Int32) (x3 : Int32) (y0 : Int32), md_fr [] [67] false false S0 S → dc_pw (mm_truth_L79 S x1 x2 x3 y0) (Sum.elim (fun (q : md_S × Int32) => md_fr [] [67] false false S0 q.1) (fun (q : md_S) => md_fr [] [67] false false S0 q)) := by
    intro S x1 x2 x3 y0 hf
    delta mm_truth_L79
    refine pw_any ?_
    intro j6
    refine pw_if ?_ ?_
    · exact lab_96 S x1 x2 x3 y0 0 hf
    · exact lab_96 S x1 x2 x3 y0 1 hf
  have lab_53 : ∀ (S : md_S) (x1 : Int32) (x2 : Int32) (y0 : Int32), md_fr [] [67] false false S0 S → dc_pw (mm_truth_L53 S x1 x2 y0) (Sum.elim (fun (q : md_S × Int32) => md_fr [] [67] false false S0 q.1) (fun (q : md_S) => md_fr [] [67] false false S0 q)) := by
    intro S x1 x2 y0 hf
    delta mm_truth_L53
    refine pw_any ?_
    intro j7
    refine pw_if ?_ ?_
    · refine pw_any ?_
      intro j8
      refine pw_any ?_
      intro j9
      exact lab_79 S x1 x2 y0 (S.2.1 67 j9) hf
    · exact lab_79 S x1 x2 y0 0 hf
  have body_9 : ∀ (S : md_S) (x1 : Int32) (x2 : Int32), md_fr [] [67] false false S0 S → dc_pw (mm_truth_b9 S x1 x2) (Sum.elim (fun (q : md_S × Int32) => md_fr [] [67] false false S0 q.1) (fun (q : md_S) => md_fr [] [67] false false S0 q)) := by
    intro S x1 x2 hf
    delta mm_truth_b9
    refine pw_if ?_ ?_
    · exact pw_some hf
    · refine pw_any ?_
      intro j10
      refine pw_if ?_ ?_
      · refine pw_any ?_
        intro j11
        refine pw_any ?_
        intro j12
        refine pw_any ?_
        intro j13
        exact lab_53 S x1 x2 (S.2.1 70 j13) hf
      · refine pw_any ?_
        intro j14
        refine pw_any ?_
        intro j15
        exact lab_53 S x1 x2 (S.2.1 67 j15) hf
  have lab_9 : ∀ (S : md_S) (x1 : Int32) (x2 : Int32), md_fr [] [67] false false S0 S → dc_pw (mm_truth_L9 S x1 x2) (fun q => md_fr [] [67] false false S0 q.1) := by
    intro S x1 x2 hf
    delta mm_truth_L9
    refine pw_loop (fun (q : md_S × Int32) => md_fr [] [67] false false S0 q.1) (fun (q : md_S) => md_fr [] [67] false false S0 q) hf ?_ ?_
    · rintro ⟨S, x2⟩ hf
      exact body_9 S x1 x2 hf
    · rintro Sz hf
      exact lab_197 Sz x1 hf
  have hf : md_fr [] [67] false false S0 S0 := md_fr_rf
  delta mm_truth
  refine pw_any ?_
  intro j16
  refine pw_let ?_
  intro v17
  exact lab_9 S0 p1 v17 hf
def mm_FR3 (T : mm_T3) : Prop := (∀ (S0 : md_S) (p1 : Int32) (p2 : Int32) (p3 : Int32), dc_pw (T.1 S0 p1 p2 p3) (fun q => md_fr [78, 79, 80, 81] [67, 71, 72, 73, 75] false false S0 q)) ∧ (∀ (S0 : md_S) (p1 : Int32) (p2 : Int32) (p3 : Int32), dc_pw (T.2.1 S0 p1 p2 p3) (fun q => md_fr [78, 79, 80, 81] [67, 71, 72, 73, 75] false false S0 q)) ∧ (∀ (S0 : md_S) (p1 : Int32) (p2 : Int32) (p3 : Int32), dc_pw (T.2.2.1 S0 p1 p2 p3) (fun q => md_fr [78, 79, 80, 81] [67, 71, 72, 73, 75] false false S0 q)) ∧ (∀ (S0 : md_S) (p1 : Int32) (p2 : Int32) (p3 : Int32), dc_pw (T.2.2.2.1 S0 p1 p2 p3) (fun q => md_fr [78, 79, 80, 81] [67, 71, 72, 73, 75] false false S0 q)) ∧ (∀ (S0 : md_S) (p1 : Int32) (p2 : Int32) (p3 : Int32) (p4 : Int32), dc_pw (T.2.2.2.2.1 S0 p1 p2 p3 p4) (fun q => md_fr [78, 79, 80, 81] [67, 71, 72, 73, 75] false false S0 q)) ∧ (∀ (S0 : md_S) (p1 : Int32) (p2 : Int32) (p3 : Int32), dc_pw (T.2.2.2.2.2.1 S0 p1 p2 p3) (fun q => md_fr [78, 79, 80, 81] [67, 71, 72, 73, 75] false false S0 q)) ∧ (∀ (S0 : md_S) (p1 : Int32) (p2 : Int32) (p3 : Int32), dc_pw (T.2.2.2.2.2.2.1 S0 p1 p2 p3) (fun q => md_fr [78, 79, 80, 81] [67, 71, 72, 73, 75] false false S0 q)) ∧ (∀ (S0 : md_S) (p1 : Int32) (p2 : Int32) (p3 : Int32), dc_pw (T.2.2.2.2.2.2.2 S0 p1 p2 p3) (fun q => md_fr [78, 79, 80, 81] [67, 71, 72, 73, 75] false false S0 q))
theorem mm_run_fr (T : mm_T3) (hT : mm_FR3 T) (S0 : md_S) (p1 : Int32) (p2 : Int32) (p3 : Int32) : dc_pw (mm_run T S0 p1 p2 p3) (fun q => md_fr [78, 79, 80, 81] [67, 71, 72, 73, 75] false false S0 q) := by
  have lab_296 : ∀ (S : md_S), md_fr [78, 79, 80, 81] [67, 71, 72, 73, 75] false false S0 S → dc_pw (mm_run_L296 T S) (fun q => md_fr [78, 79, 80, 81] [67, 71, 72, 73, 75] false false S0 q) := by
    intro S  hf
    delta mm_run_L296
    exact pw_some hf
  have lab_203 : ∀ (S : md_S) (y0 : Int32) (y1 : Int32), md_fr [78, 79, 80, 81] [67, 71, 72, 73, 75] false false S0 S → dc_pw (mm_run_L203 T S y0 y1) (fun q => md_fr [78, 79, 80, 81] [67, 71, 72, 73, 75] false false S0 q) := by
    intro S y0 y1 hf
    delta mm_run_L203
    refine pwS_callv (mm_outcome_fr S y1 y0) (by decide) hf ?_
    intro q1 hf
    exact lab_296 q1 hf
  have lab_108 : ∀ (S : md_S) (x2 : Int32) (x3 : Int32) (x4 : Int32), md_fr [78, 79, 80, 81] [67, 71, 72, 73, 75] false false S0 S → dc_pw (mm_run_L108 T S x2 x3 x4) (fun q => md_fr [78, 79, 80, 81] [67, 71, 72, 73, 75] false false S0 q) := by
    intro S x2 x3 x4 hf
    delta mm_run_L108
    refine pw_any ?_
    intro j2
    refine pw_let ?_
    intro v3
    refine pw_if ?_ ?_
    · refine pwS_callv (mm_simple_IZ_fr S x4 x3) (by decide) hf ?_
      intro q4 hf
      exact lab_296 q4 hf
    · refine pw_if ?_ ?_
      · refine pw_if ?_ ?_
        · refine pw_if ?_ ?_
          · exact lab_203 S (-1) 1 hf
          · exact lab_203 S 0 1 hf
        · refine pwS_callv (mm_simple_IZ_fr S x4 x3) (by decide) hf ?_
          intro q6 hf
          exact lab_296 q6 hf
      · refine pw_if ?_ ?_
        · refine pwS_callv (mm_simple_IZ_fr S x4 x3) (by decide) hf ?_
          intro q8 hf
          exact lab_296 q8 hf
        · refine pw_if ?_ ?_
          · refine pwS_callv (hT.2.1 S x4 x2 x3) (by decide) hf ?_
            intro q10 hf
            exact lab_296 q10 hf
          · refine pw_if ?_ ?_
            · refine pwS_callv (hT.2.2.1 S x4 x2 x3) (by decide) hf ?_
              intro q12 hf
              exact lab_296 q12 hf
            · refine pw_if ?_ ?_
              · refine pwS_callv (hT.2.2.2.1 S x4 x2 x3) (by decide) hf ?_
                intro q14 hf
                exact lab_296 q14 hf
              · refine pw_if ?_ ?_
                · refine pw_any ?_
                  intro j16
                  refine pwS_callv (hT.1 S (S.2.1 52 j16) x2 x3) (by decide) hf ?_
                  intro q17 hf
                  refine pw_if ?_ ?_
                  · refine pw_any ?_
                    intro j18
                    refine pwS_callv (hT.2.2.2.2.1 q17 x4 (q17.2.1 52 j18) 0 x3) (by decide) hf ?_
                    intro q19 hf
                    exact lab_296 q19 hf
                  · exact lab_296 q17 hf
                · refine pw_if ?_ ?_
                  · refine pwS_callv (hT.2.2.2.2.2.1 S x4 x2 x3) (by decide) hf ?_
                    intro q21 hf
                    exact lab_296 q21 hf
                  · refine pw_if ?_ ?_
                    · refine pwS_callv (hT.2.2.2.2.2.2.2 S x4 x2 x3) (by decide) hf ?_
                      intro q23 hf
                      exact lab_296 q23 hf
                    · refine pw_if ?_ ?_
                      · refine pwS_callv (mm_simple_IZ_fr S x4 x3) (by decide) hf ?_
                        intro q25 hf
                        exact lab_296 q25 hf
                      · refine pwS_callv (hT.2.2.2.2.2.2.2 S x4 x2 x3) (by decide) hf ?_
                        intro q27 hf
                        exact lab_296 q27 hf
  have lab_93 : ∀ (S : md_S) (x2 : Int32) (x3 : Int32) (x4 : Int32) (y0 : Int32), md_fr [78, 79, 80, 81] [67, 71, 72, 73, 75] false false S0 S → dc_pw (mm_run_L93 T S x2 x3 x4 y0) (Sum.elim (fun (q : md_S × Int32) => md_fr [78, 79, 80, 81] [67, 71, 72, 73, 75] false false S0 q.1) (fun (q : md_S × Int32) => md_fr [78, 79, 80, 81] [67, 71, 72, 73, 75] false false S0 q.1)) := by
    intro S x2 x3 x4 y0 hf
    delta mm_run_L93
    refine pw_any ?_
    intro _
    refine pwS_i (by decide) hf ?_
    intro S29 hf
    refine pw_any ?_
    intro j30
    refine pw_let ?_
    intro v31
    exact pw_some hf
  have lab_92 : ∀ (S : md_S) (x2 : Int32) (x3 : Int32) (x4 : Int32), md_fr [78, 79, 80, 81] [67, 71, 72, 73, 75] false false S0 S → dc_pw (mm_run_L92 T S x2 x3 x4) (Sum.elim (fun (q : md_S × Int32) => md_fr [78, 79, 80, 81] [67, 71, 72, 73, 75] false false S0 q.1) (fun (q : md_S × Int32) => md_fr [78, 79, 80, 81] [67, 71, 72, 73, 75] false false S0 q.1)) := by
    intro S x2 x3 x4 hf
    delta mm_run_L92
    exact lab_93 S x2 x3 x4 0 hf
  have lab_88 : ∀ (S : md_S) (x2 : Int32) (x3 : Int32) (x4 : Int32), md_fr [78, 79, 80, 81] [67, 71, 72, 73, 75] false false S0 S → dc_pw (mm_run_L88 T S x2 x3 x4) (Sum.elim (fun (q : md_S × Int32) => md_fr [78, 79, 80, 81] [67, 71, 72, 73, 75] false false S0 q.1) (fun (q : md_S × Int32) => md_fr [78, 79, 80, 81] [67, 71, 72, 73, 75] false false S0 q.1)) := by
    intro S x2 x3 x4 hf
    delta mm_run_L88
    exact lab_93 S x2 x3 x4 1 hf
  have lab_53 : ∀ (S : md_S) (x2 : Int32) (x3 : Int32) (x4 : Int32) (y0 : Int32) (y1 : Int32) (y2 : Int32), md_fr [78, 79, 80, 81] [67, 71, 72, 73, 75] false false S0 S → dc_pw (mm_run_L53 T S x2 x3 x4 y0 y1 y2) (Sum.elim (fun (q : md_S × Int32) => md_fr [78, 79, 80, 81] [67, 71, 72, 73, 75] false false S0 q.1) (fun (q : md_S × Int32) => md_fr [78, 79, 80, 81] [67, 71, 72, 73, 75] false false S0 q.1)) := by
    intro S x2 x3 x4 y0 y1 y2 hf
    delta mm_run_L53
    refine pw_any ?_
    intro j32
    refine pwS_a (by decide) hf ?_
    intro S33 hf
    refine pw_if ?_ ?_
    · refine pw_if ?_ ?_
      · exact lab_92 S33 x2 x3 x4 hf
      · refine pw_any ?_
        intro j34
        refine pw_any ?_
        intro j35
        refine pw_any ?_
        intro j36
        refine pw_if ?_ ?_
        · exact lab_88 S33 x2 x3 x4 hf
        · exact lab_92 S33 x2 x3 x4 hf
    · exact lab_88 S33 x2 x3 x4 hf
  have body_3 : ∀ (S : md_S) (x2 : Int32) (x3 : Int32) (x4 : Int32), md_fr [78, 79, 80, 81] [67, 71, 72, 73, 75] false false S0 S → dc_pw (mm_run_b3 T S x2 x3 x4) (Sum.elim (fun (q : md_S × Int32) => md_fr [78, 79, 80, 81] [67, 71, 72, 73, 75] false false S0 q.1) (fun (q : md_S × Int32) => md_fr [78, 79, 80, 81] [67, 71, 72, 73, 75] false false S0 q.1)) := by
    intro S x2 x3 x4 hf
    delta mm_run_b3
    refine pw_any ?_
    intro j37
    refine pw_if ?_ ?_
    · refine pw_any ?_
      intro j38
      refine pw_any ?_
      intro j39
      refine pw_if ?_ ?_
      · refine pw_any ?_
        intro j40
        exact lab_53 S x2 x3 x4 (S.2.1 57 j40) (S.2.1 61 j39) (S.2.1 54 j38) hf
      · exact lab_53 S x2 x3 x4 ((S.1 79) - 1) (S.2.1 61 j39) (S.2.1 54 j38) hf
    · exact pw_some hf
  have lab_3 : ∀ (S : md_S) (x2 : Int32) (x3 : Int32) (x4 : Int32), md_fr [78, 79, 80, 81] [67, 71, 72, 73, 75] false false S0 S → dc_pw (mm_run_L3 T S x2 x3 x4) (fun q => md_fr [78, 79, 80, 81] [67, 71, 72, 73, 75] false false S0 q) := by
    intro S x2 x3 x4 hf
    delta mm_run_L3
    refine pw_loop (fun (q : md_S × Int32) => md_fr [78, 79, 80, 81] [67, 71, 72, 73, 75] false false S0 q.1) (fun (q : md_S × Int32) => md_fr [78, 79, 80, 81] [67, 71, 72, 73, 75] false false S0 q.1) hf ?_ ?_
    · rintro ⟨S, x4⟩ hf
      exact body_3 S x2 x3 x4 hf
    · rintro ⟨Sz, z0⟩ hf
      exact lab_108 Sz x2 x3 z0 hf
  have hf : md_fr [78, 79, 80, 81] [67, 71, 72, 73, 75] false false S0 S0 := md_fr_rf
  delta mm_run
  exact lab_3 S0 p2 p3 p1 hf
theorem mm_present_IZZ_fr (T : mm_T3) (hT : mm_FR3 T) (S0 : md_S) (p1 : Int32) (p2 : Int32) (p3 : Int32) : dc_pw (mm_present_IZZ T S0 p1 p2 p3) (fun q => md_fr [78, 79, 80, 81] [67, 71, 72, 73, 75] false false S0 q) := by
  have lab_79 : ∀ (S : md_S) (x3 : Int32) (y0 : Int32), md_fr [78, 79, 80, 81] [67, 71, 72, 73, 75] false false S0 S → dc_pw (mm_present_IZZ_L79 T S x3 y0) (fun q => md_fr [78, 79, 80, 81] [67, 71, 72, 73, 75] false false S0 q) := by
    intro S x3 y0 hf
    delta mm_present_IZZ_L79
    refine pwS_callv (hT.1 S y0 1 x3) (by decide) hf ?_
    intro q1 hf
    exact pw_some hf
  have lab_33 : ∀ (S : md_S) (x3 : Int32) (y0 : Int32), md_fr [78, 79, 80, 81] [67, 71, 72, 73, 75] false false S0 S → dc_pw (mm_present_IZZ_L33 T S x3 y0) (fun q => md_fr [78, 79, 80, 81] [67, 71, 72, 73, 75] false false S0 q) := by
    intro S x3 y0 hf
    delta mm_present_IZZ_L33
    refine pwS_callv (hT.1 S y0 0 x3) (by decide) hf ?_
    intro q2 hf
    exact pw_some hf
  have hf : md_fr [78, 79, 80, 81] [67, 71, 72, 73, 75] false false S0 S0 := md_fr_rf
  delta mm_present_IZZ
  refine pw_if ?_ ?_
  · refine pw_any ?_
    intro j3
    refine pw_any ?_
    intro q4
    refine pw_if ?_ ?_
    · refine pw_any ?_
      intro j5
      exact lab_33 S0 p3 (S0.2.1 53 j5) hf
    · refine pw_any ?_
      intro j6
      exact lab_33 S0 p3 (S0.2.1 52 j6) hf
  · refine pw_any ?_
    intro j7
    refine pwS_call (mm_truth_fr S0 (S0.2.1 54 j7)) (by decide) hf ?_
    intro q8 hf
    refine pw_if ?_ ?_
    · refine pw_any ?_
      intro j9
      refine pwS_callv (hT.1 q8.1 (q8.1.2.1 52 j9) 1 0) (by decide) hf ?_
      intro q10 hf
      refine pw_let ?_
      intro v11
      refine pw_any ?_
      intro j12
      refine pwS_callv (hT.1 q10 (q10.2.1 53 j12) 1 0) (by decide) hf ?_
      intro q13 hf
      refine pwS_callv (mm_outcome_fr q13 (v11 ||| (q13.1 81)) (-1)) (by decide) hf ?_
      intro q14 hf
      exact pw_some hf
    · refine pw_if ?_ ?_
      · refine pw_any ?_
        intro j15
        exact lab_79 q8.1 p3 (q8.1.2.1 52 j15) hf
      · refine pw_any ?_
        intro j16
        exact lab_79 q8.1 p3 (q8.1.2.1 53 j16) hf
theorem mm_suspended_fr (T : mm_T3) (hT : mm_FR3 T) (S0 : md_S) (p1 : Int32) (p2 : Int32) (p3 : Int32) : dc_pw (mm_suspended T S0 p1 p2 p3) (fun q => md_fr [78, 79, 80, 81] [67, 71, 72, 73, 75] false false S0 q) := by
  have lab_134 : ∀ (S : md_S) (y0 : Int32) (y1 : Int32), md_fr [78, 79, 80, 81] [67, 71, 72, 73, 75] false false S0 S → dc_pw (mm_suspended_L134 T S y0 y1) (fun q => md_fr [78, 79, 80, 81] [67, 71, 72, 73, 75] false false S0 q) := by
    intro S y0 y1 hf
    delta mm_suspended_L134
    refine pwS_callv (mm_outcome_fr S y1 y0) (by decide) hf ?_
    intro q1 hf
    exact pw_some hf
  have lab_123 : ∀ (S : md_S) (x3 : Int32), md_fr [78, 79, 80, 81] [67, 71, 72, 73, 75] false false S0 S → dc_pw (mm_suspended_L123 T S x3) (fun q => md_fr [78, 79, 80, 81] [67, 71, 72, 73, 75] false false S0 q) := by
    intro S x3 hf
    delta mm_suspended_L123
    refine pw_if ?_ ?_
    · exact lab_134 S (-1) 2 hf
    · exact lab_134 S 1 2 hf
  have body_83 : ∀ (S : md_S) (x1 : Int32) (x3 : Int32) (x5 : Int32), md_fr [78, 79, 80, 81] [67, 71, 72, 73, 75] false false S0 S → dc_pw (mm_suspended_b83 T S x1 x3 x5) (Sum.elim (fun (q : md_S × Int32) => md_fr [78, 79, 80, 81] [67, 71, 72, 73, 75] false false S0 q.1) (fun (q : md_S) => md_fr [78, 79, 80, 81] [67, 71, 72, 73, 75] false false S0 q)) := by
    intro S x1 x3 x5 hf
    delta mm_suspended_b83
    refine pw_any ?_
    intro j2
    refine pw_any ?_
    intro j3
    refine pw_if ?_ ?_
    · refine pw_if ?_ ?_
      · exact pw_some hf
      · refine pw_any ?_
        intro j4
        refine pw_any ?_
        intro _
        refine pw_any ?_
        intro j6
        refine pwS_a (by decide) hf ?_
        intro S7 hf
        exact pw_some hf
    · exact pw_some hf
  have lab_83 : ∀ (S : md_S) (x1 : Int32) (x3 : Int32) (x5 : Int32), md_fr [78, 79, 80, 81] [67, 71, 72, 73, 75] false false S0 S → dc_pw (mm_suspended_L83 T S x1 x3 x5) (fun q => md_fr [78, 79, 80, 81] [67, 71, 72, 73, 75] false false S0 q) := by
    intro S x1 x3 x5 hf
    delta mm_suspended_L83
    refine pw_loop (fun (q : md_S × Int32) => md_fr [78, 79, 80, 81] [67, 71, 72, 73, 75] false false S0 q.1) (fun (q : md_S) => md_fr [78, 79, 80, 81] [67, 71, 72, 73, 75] false false S0 q) hf ?_ ?_
    · rintro ⟨S, x5⟩ hf
      exact body_83 S x1 x3 x5 hf
    · rintro Sz hf
      exact lab_123 Sz x3 hf
  have lab_68 : ∀ (S : md_S) (x1 : Int32) (x3 : Int32) (x4 : Int32), md_fr [78, 79, 80, 81] [67, 71, 72, 73, 75] false false S0 S → dc_pw (mm_suspended_L68 T S x1 x3 x4) (fun q => md_fr [78, 79, 80, 81] [67, 71, 72, 73, 75] false false S0 q) := by
    intro S x1 x3 x4 hf
    delta mm_suspended_L68
    refine pw_if ?_ ?_
    · refine pw_any ?_
      intro j8
      refine pw_let ?_
      intro v9
      exact lab_83 S x1 x3 v9 hf
    · exact pw_some hf
  have lab_51 : ∀ (S : md_S) (x1 : Int32) (x3 : Int32) (x4 : Int32), md_fr [78, 79, 80, 81] [67, 71, 72, 73, 75] false false S0 S → dc_pw (mm_suspended_L51 T S x1 x3 x4) (fun q => md_fr [78, 79, 80, 81] [67, 71, 72, 73, 75] false false S0 q) := by
    intro S x1 x3 x4 hf
    delta mm_suspended_L51
    refine pw_if ?_ ?_
    · refine pwS_callv (mm_outcome_fr S ((S.1 81) ||| 2) (-1)) (by decide) hf ?_
      intro q10 hf
      exact lab_68 q10 x1 x3 x4 hf
    · exact lab_68 S x1 x3 x4 hf
  have lab_48 : ∀ (S : md_S) (x1 : Int32) (x3 : Int32) (x4 : Int32) (y0 : Int32) (y1 : Int32) (y2 : Int32), md_fr [78, 79, 80, 81] [67, 71, 72, 73, 75] false false S0 S → dc_pw (mm_suspended_L48 T S x1 x3 x4 y0 y1 y2) (fun q => md_fr [78, 79, 80, 81] [67, 71, 72, 73, 75] false false S0 q) := by
    intro S x1 x3 x4 y0 y1 y2 hf
    delta mm_suspended_L48
    refine pwS_callv (hT.1 S y2 y1 y0) (by decide) hf ?_
    intro q11 hf
    exact lab_51 q11 x1 x3 x4 hf
  have lab_47 : ∀ (S : md_S) (x1 : Int32) (x3 : Int32) (x4 : Int32) (y0 : Int32) (y1 : Int32), md_fr [78, 79, 80, 81] [67, 71, 72, 73, 75] false false S0 S → dc_pw (mm_suspended_L47 T S x1 x3 x4 y0 y1) (fun q => md_fr [78, 79, 80, 81] [67, 71, 72, 73, 75] false false S0 q) := by
    intro S x1 x3 x4 y0 y1 hf
    delta mm_suspended_L47
    exact lab_48 S x1 x3 x4 0 y0 y1 hf
  have lab_18 : ∀ (S : md_S) (x1 : Int32) (x2 : Int32) (x3 : Int32) (y0 : Int32), md_fr [78, 79, 80, 81] [67, 71, 72, 73, 75] false false S0 S → dc_pw (mm_suspended_L18 T S x1 x2 x3 y0) (fun q => md_fr [78, 79, 80, 81] [67, 71, 72, 73, 75] false false S0 q) := by
    intro S x1 x2 x3 y0 hf
    delta mm_suspended_L18
    refine pw_if ?_ ?_
    · exact lab_51 S x1 x3 y0 hf
    · refine pw_any ?_
      intro j12
      refine pw_if ?_ ?_
      · exact lab_47 S x1 x3 y0 x2 (S.2.1 52 j12) hf
      · refine pw_if ?_ ?_
        · exact lab_48 S x1 x3 y0 1 x2 (S.2.1 52 j12) hf
        · exact lab_47 S x1 x3 y0 x2 (S.2.1 52 j12) hf
  have hf : md_fr [78, 79, 80, 81] [67, 71, 72, 73, 75] false false S0 S0 := md_fr_rf
  delta mm_suspended
  refine pw_if ?_ ?_
  · refine pw_any ?_
    intro j13
    refine pwS_call (mm_truth_fr S0 (S0.2.1 54 j13)) (by decide) hf ?_
    intro q14 hf
    exact lab_18 q14.1 p1 p2 p3 q14.2 hf
  · exact lab_18 S0 p1 p2 p3 0 hf
theorem mm_sequence_fr (T : mm_T3) (hT : mm_FR3 T) (S0 : md_S) (p1 : Int32) (p2 : Int32) (p3 : Int32) : dc_pw (mm_sequence T S0 p1 p2 p3) (fun q => md_fr [78, 79, 80, 81] [67, 71, 72, 73, 75] false false S0 q) := by
  have lab_112 : ∀ (S : md_S), md_fr [78, 79, 80, 81] [67, 71, 72, 73, 75] false false S0 S → dc_pw (mm_sequence_L112 T S) (fun q => md_fr [78, 79, 80, 81] [67, 71, 72, 73, 75] false false S0 q) := by
    intro S  hf
    delta mm_sequence_L112
    exact pw_some hf
  have body_79 : ∀ (S : md_S) (x1 : Int32) (x2 : Int32) (x3 : Int32) (x4 : Int32), md_fr [78, 79, 80, 81] [67, 71, 72, 73, 75] false false S0 S → dc_pw (mm_sequence_b79 T S x1 x2 x3 x4) (Sum.elim (fun (q : md_S × Int32) => md_fr [78, 79, 80, 81] [67, 71, 72, 73, 75] false false S0 q.1) (fun (q : md_S) => md_fr [78, 79, 80, 81] [67, 71, 72, 73, 75] false false S0 q)) := by
    intro S x1 x2 x3 x4 hf
    delta mm_sequence_b79
    refine pw_if ?_ ?_
    · exact pw_some hf
    · refine pw_any ?_
      intro j1
      refine pw_let ?_
      intro v2
      refine pw_any ?_
      intro j3
      refine pwS_callv (hT.2.2.2.2.1 S v2 (S.2.1 53 j3) x2 x3) (by decide) hf ?_
      intro q4 hf
      exact pw_some hf
  have lab_79 : ∀ (S : md_S) (x1 : Int32) (x2 : Int32) (x3 : Int32) (x4 : Int32), md_fr [78, 79, 80, 81] [67, 71, 72, 73, 75] false false S0 S → dc_pw (mm_sequence_L79 T S x1 x2 x3 x4) (fun q => md_fr [78, 79, 80, 81] [67, 71, 72, 73, 75] false false S0 q) := by
    intro S x1 x2 x3 x4 hf
    delta mm_sequence_L79
    refine pw_loop (fun (q : md_S × Int32) => md_fr [78, 79, 80, 81] [67, 71, 72, 73, 75] false false S0 q.1) (fun (q : md_S) => md_fr [78, 79, 80, 81] [67, 71, 72, 73, 75] false false S0 q) hf ?_ ?_
    · rintro ⟨S, x4⟩ hf
      exact body_79 S x1 x2 x3 x4 hf
    · rintro Sz hf
      exact lab_112 Sz hf
  have lab_44 : ∀ (S : md_S) (x1 : Int32) (x2 : Int32) (x3 : Int32) (x4 : Int32), md_fr [78, 79, 80, 81] [67, 71, 72, 73, 75] false false S0 S → dc_pw (mm_sequence_L44 T S x1 x2 x3 x4) (fun q => md_fr [78, 79, 80, 81] [67, 71, 72, 73, 75] false false S0 q) := by
    intro S x1 x2 x3 x4 hf
    delta mm_sequence_L44
    refine pw_any ?_
    intro j5
    refine pw_if ?_ ?_
    · refine pw_any ?_
      intro j6
      refine pwS_callv (hT.1 S (S.2.1 53 j6) 0 x3) (by decide) hf ?_
      intro q7 hf
      exact lab_79 q7 x1 x2 x3 x4 hf
    · refine pwS_callv (hT.1 S x4 x2 x3) (by decide) hf ?_
      intro q8 hf
      exact lab_79 q8 x1 x2 x3 x4 hf
  have lab_3 : ∀ (S : md_S) (x1 : Int32) (x2 : Int32) (x3 : Int32) (x4 : Int32), md_fr [78, 79, 80, 81] [67, 71, 72, 73, 75] false false S0 S → dc_pw (mm_sequence_L3 T S x1 x2 x3 x4) (fun q => md_fr [78, 79, 80, 81] [67, 71, 72, 73, 75] false false S0 q) := by
    intro S x1 x2 x3 x4 hf
    delta mm_sequence_L3
    refine pw_any ?_
    rintro z0
    exact lab_44 S x1 x2 x3 z0 hf
  have hf : md_fr [78, 79, 80, 81] [67, 71, 72, 73, 75] false false S0 S0 := md_fr_rf
  delta mm_sequence
  exact lab_3 S0 p1 p2 p3 p1 hf
theorem mm_behind_fr (T : mm_T3) (hT : mm_FR3 T) (S0 : md_S) (p1 : Int32) (p2 : Int32) (p3 : Int32) (p4 : Int32) : dc_pw (mm_behind T S0 p1 p2 p3 p4) (fun q => md_fr [78, 79, 80, 81] [67, 71, 72, 73, 75] false false S0 q) := by
  have lab_117 : ∀ (S : md_S) (y0 : Int32) (y1 : Int32), md_fr [78, 79, 80, 81] [67, 71, 72, 73, 75] false false S0 S → dc_pw (mm_behind_L117 T S y0 y1) (fun q => md_fr [78, 79, 80, 81] [67, 71, 72, 73, 75] false false S0 q) := by
    intro S y0 y1 hf
    delta mm_behind_L117
    refine pwS_callv (mm_outcome_fr S y1 y0) (by decide) hf ?_
    intro q1 hf
    exact pw_some hf
  have lab_86 : ∀ (S : md_S) (x5 : Int32) (x6 : Int32) (x7 : Int32) (x8 : Int32) (y0 : Int32) (y1 : Int32) (y2 : Int32), md_fr [78, 79, 80, 81] [67, 71, 72, 73, 75] false false S0 S → dc_pw (mm_behind_L86 T S x5 x6 x7 x8 y0 y1 y2) (fun q => md_fr [78, 79, 80, 81] [67, 71, 72, 73, 75] false false S0 q) := by
    intro S x5 x6 x7 x8 y0 y1 y2 hf
    delta mm_behind_L86
    refine pwS_callv (hT.1 S y2 y1 y0) (by decide) hf ?_
    intro q2 hf
    refine pwS_i (by decide) hf ?_
    intro S3 hf
    refine pw_if ?_ ?_
    · exact lab_117 S3 x7 (x5 ||| (S3.1 81)) hf
    · exact lab_117 S3 (S3.1 80) (x5 ||| (S3.1 81)) hf
  have lab_85 : ∀ (S : md_S) (x5 : Int32) (x6 : Int32) (x7 : Int32) (x8 : Int32) (y0 : Int32) (y1 : Int32), md_fr [78, 79, 80, 81] [67, 71, 72, 73, 75] false false S0 S → dc_pw (mm_behind_L85 T S x5 x6 x7 x8 y0 y1) (fun q => md_fr [78, 79, 80, 81] [67, 71, 72, 73, 75] false false S0 q) := by
    intro S x5 x6 x7 x8 y0 y1 hf
    delta mm_behind_L85
    exact lab_86 S x5 x6 x7 x8 0 y0 y1 hf
  have lab_65 : ∀ (S : md_S) (x2 : Int32) (x4 : Int32) (x5 : Int32) (x6 : Int32) (x7 : Int32) (x8 : Int32) (y0 : Int32), md_fr [78, 79, 80, 81] [67, 71, 72, 73, 75] false false S0 S → dc_pw (mm_behind_L65 T S x2 x4 x5 x6 x7 x8 y0) (fun q => md_fr [78, 79, 80, 81] [67, 71, 72, 73, 75] false false S0 q) := by
    intro S x2 x4 x5 x6 x7 x8 y0 hf
    delta mm_behind_L65
    refine pwS_i (by decide) hf ?_
    intro S4 hf
    refine pw_if ?_ ?_
    · exact lab_85 S4 x5 x6 x7 x8 1 x2 hf
    · refine pw_if ?_ ?_
      · exact lab_85 S4 x5 x6 x7 x8 1 x2 hf
      · exact lab_86 S4 x5 x6 x7 x8 1 1 x2 hf
  have lab_31 : ∀ (S : md_S) (x1 : Int32) (x2 : Int32) (x3 : Int32) (x4 : Int32) (x5 : Int32) (y0 : Int32), md_fr [78, 79, 80, 81] [67, 71, 72, 73, 75] false false S0 S → dc_pw (mm_behind_L31 T S x1 x2 x3 x4 x5 y0) (fun q => md_fr [78, 79, 80, 81] [67, 71, 72, 73, 75] false false S0 q) := by
    intro S x1 x2 x3 x4 x5 y0 hf
    delta mm_behind_L31
    refine pw_let ?_
    intro v5
    refine pw_let ?_
    intro v6
    refine pw_if ?_ ?_
    · refine pw_any ?_
      intro j7
      exact lab_65 S x2 x4 x5 y0 v5 v6 (1 + (S.2.1 57 j7)) hf
    · exact lab_65 S x2 x4 x5 y0 v5 v6 (S.1 79) hf
  have hf : md_fr [78, 79, 80, 81] [67, 71, 72, 73, 75] false false S0 S0 := md_fr_rf
  delta mm_behind
  refine pw_if ?_ ?_
  · exact pw_some hf
  · refine pw_let ?_
    intro v8
    refine pw_if ?_ ?_
    · exact lab_31 S0 p1 p2 p3 p4 v8 1 hf
    · exact lab_31 S0 p1 p2 p3 p4 v8 0 hf
theorem mm_both_fr (T : mm_T3) (hT : mm_FR3 T) (S0 : md_S) (p1 : Int32) (p2 : Int32) (p3 : Int32) : dc_pw (mm_both T S0 p1 p2 p3) (fun q => md_fr [78, 79, 80, 81] [67, 71, 72, 73, 75] false false S0 q) := by
  have lab_118 : ∀ (S : md_S), md_fr [78, 79, 80, 81] [67, 71, 72, 73, 75] false false S0 S → dc_pw (mm_both_L118 T S) (fun q => md_fr [78, 79, 80, 81] [67, 71, 72, 73, 75] false false S0 q) := by
    intro S  hf
    delta mm_both_L118
    exact pw_some hf
  have lab_112 : ∀ (S : md_S) (x1 : Int32) (x2 : Int32) (x3 : Int32) (x4 : Int32) (y0 : Int32) (y1 : Int32), md_fr [78, 79, 80, 81] [67, 71, 72, 73, 75] false false S0 S → dc_pw (mm_both_L112 T S x1 x2 x3 x4 y0 y1) (Sum.elim (fun (q : md_S × Int32) => md_fr [78, 79, 80, 81] [67, 71, 72, 73, 75] false false S0 q.1) (fun (q : md_S) => md_fr [78, 79, 80, 81] [67, 71, 72, 73, 75] false false S0 q)) := by
    intro S x1 x2 x3 x4 y0 y1 hf
    delta mm_both_L112
    refine pwS_callv (mm_outcome_fr S y1 y0) (by decide) hf ?_
    intro q1 hf
    exact pw_some hf
  have lab_99 : ∀ (S : md_S) (x1 : Int32) (x2 : Int32) (x3 : Int32) (x4 : Int32) (y0 : Int32), md_fr [78, 79, 80, 81] [67, 71, 72, 73, 75] false false S0 S → dc_pw (mm_both_L99 T S x1 x2 x3 x4 y0) (Sum.elim (fun (q : md_S × Int32) => md_fr [78, 79, 80, 81] [67, 71, 72, 73, 75] false false S0 q.1) (fun (q : md_S) => md_fr [78, 79, 80, 81] [67, 71, 72, 73, 75] false false S0 q)) := by
    intro S x1 x2 x3 x4 y0 hf
    delta mm_both_L99
    exact lab_112 S x1 x2 x3 x4 (-1) y0 hf
  have body_35 : ∀ (S : md_S) (x1 : Int32) (x2 : Int32) (x3 : Int32) (x4 : Int32), md_fr [78, 79, 80, 81] [67, 71, 72, 73, 75] false false S0 S → dc_pw (mm_both_b35 T S x1 x2 x3 x4) (Sum.elim (fun (q : md_S × Int32) => md_fr [78, 79, 80, 81] [67, 71, 72, 73, 75] false false S0 q.1) (fun (q : md_S) => md_fr [78, 79, 80, 81] [67, 71, 72, 73, 75] false false S0 q)) := by
    intro S x1 x2 x3 x4 hf
    delta mm_both_b35
    refine pw_if ?_ ?_
    · exact pw_some hf
    · refine pw_any ?_
      intro j2
      refine pw_let ?_
      intro v3
      refine pw_let ?_
      intro v4
      refine pw_let ?_
      intro v5
      refine pw_any ?_
      intro j6
      refine pwS_callv (hT.2.2.2.2.2.2.1 S (S.2.1 53 j6) x2 x3) (by decide) hf ?_
      intro q7 hf
      refine pw_any ?_
      intro q8
      refine pw_if ?_ ?_
      · exact lab_99 q7 x1 x2 x3 v3 q8 hf
      · refine pw_if ?_ ?_
        · exact lab_99 q7 x1 x2 x3 v3 q8 hf
        · exact lab_112 q7 x1 x2 x3 v3 (dc_max v5 (q7.1 80)) q8 hf
  have lab_35 : ∀ (S : md_S) (x1 : Int32) (x2 : Int32) (x3 : Int32) (x4 : Int32), md_fr [78, 79, 80, 81] [67, 71, 72, 73, 75] false false S0 S → dc_pw (mm_both_L35 T S x1 x2 x3 x4) (fun q => md_fr [78, 79, 80, 81] [67, 71, 72, 73, 75] false false S0 q) := by
    intro S x1 x2 x3 x4 hf
    delta mm_both_L35
    refine pw_loop (fun (q : md_S × Int32) => md_fr [78, 79, 80, 81] [67, 71, 72, 73, 75] false false S0 q.1) (fun (q : md_S) => md_fr [78, 79, 80, 81] [67, 71, 72, 73, 75] false false S0 q) hf ?_ ?_
    · rintro ⟨S, x4⟩ hf
      exact body_35 S x1 x2 x3 x4 hf
    · rintro Sz hf
      exact lab_118 Sz hf
  have lab_27 : ∀ (S : md_S) (x1 : Int32) (x2 : Int32) (x3 : Int32) (x4 : Int32), md_fr [78, 79, 80, 81] [67, 71, 72, 73, 75] false false S0 S → dc_pw (mm_both_L27 T S x1 x2 x3 x4) (fun q => md_fr [78, 79, 80, 81] [67, 71, 72, 73, 75] false false S0 q) := by
    intro S x1 x2 x3 x4 hf
    delta mm_both_L27
    refine pwS_callv (hT.2.2.2.2.2.2.1 S x4 x2 x3) (by decide) hf ?_
    intro q9 hf
    exact lab_35 q9 x1 x2 x3 x4 hf
  have lab_3 : ∀ (S : md_S) (x1 : Int32) (x2 : Int32) (x3 : Int32) (x4 : Int32), md_fr [78, 79, 80, 81] [67, 71, 72, 73, 75] false false S0 S → dc_pw (mm_both_L3 T S x1 x2 x3 x4) (fun q => md_fr [78, 79, 80, 81] [67, 71, 72, 73, 75] false false S0 q) := by
    intro S x1 x2 x3 x4 hf
    delta mm_both_L3
    refine pw_any ?_
    rintro z0
    exact lab_27 S x1 x2 x3 z0 hf
  have hf : md_fr [78, 79, 80, 81] [67, 71, 72, 73, 75] false false S0 S0 := md_fr_rf
  delta mm_both
  exact lab_3 S0 p1 p2 p3 p1 hf
theorem mm_side_fr (T : mm_T3) (hT : mm_FR3 T) (S0 : md_S) (p1 : Int32) (p2 : Int32) (p3 : Int32) : dc_pw (mm_side T S0 p1 p2 p3) (fun q => md_fr [78, 79, 80, 81] [67, 71, 72, 73, 75] false false S0 q) := by
  have lab_36 : ∀ (S : md_S), md_fr [78, 79, 80, 81] [67, 71, 72, 73, 75] false false S0 S → dc_pw (mm_side_L36 T S) (fun q => md_fr [78, 79, 80, 81] [67, 71, 72, 73, 75] false false S0 q) := by
    intro S  hf
    delta mm_side_L36
    exact pw_some hf
  have lab_33 : ∀ (S : md_S) (y0 : Int32) (y1 : Int32), md_fr [78, 79, 80, 81] [67, 71, 72, 73, 75] false false S0 S → dc_pw (mm_side_L33 T S y0 y1) (fun q => md_fr [78, 79, 80, 81] [67, 71, 72, 73, 75] false false S0 q) := by
    intro S y0 y1 hf
    delta mm_side_L33
    refine pwS_callv (mm_outcome_fr S y1 y0) (by decide) hf ?_
    intro q1 hf
    exact lab_36 q1 hf
  have lab_12 : ∀ (S : md_S) (x1 : Int32) (x2 : Int32) (x3 : Int32), md_fr [78, 79, 80, 81] [67, 71, 72, 73, 75] false false S0 S → dc_pw (mm_side_L12 T S x1 x2 x3) (fun q => md_fr [78, 79, 80, 81] [67, 71, 72, 73, 75] false false S0 q) := by
    intro S x1 x2 x3 hf
    delta mm_side_L12
    refine pwS_callv (hT.1 S x1 x2 x3) (by decide) hf ?_
    intro q2 hf
    exact lab_36 q2 hf
  have hf : md_fr [78, 79, 80, 81] [67, 71, 72, 73, 75] false false S0 S0 := md_fr_rf
  delta mm_side
  refine pw_if ?_ ?_
  · refine pw_any ?_
    intro q3
    refine pw_if ?_ ?_
    · refine pw_if ?_ ?_
      · exact lab_33 S0 (-1) 1 hf
      · exact lab_33 S0 0 1 hf
    · exact lab_12 S0 p1 p2 p3 hf
  · exact lab_12 S0 p1 p2 p3 hf
theorem mm_trapped_fr (T : mm_T3) (hT : mm_FR3 T) (S0 : md_S) (p1 : Int32) (p2 : Int32) (p3 : Int32) : dc_pw (mm_trapped T S0 p1 p2 p3) (fun q => md_fr [78, 79, 80, 81] [67, 71, 72, 73, 75] false false S0 q) := by
  have lab_99 : ∀ (S : md_S) (y0 : Int32) (y1 : Int32), md_fr [78, 79, 80, 81] [67, 71, 72, 73, 75] false false S0 S → dc_pw (mm_trapped_L99 T S y0 y1) (fun q => md_fr [78, 79, 80, 81] [67, 71, 72, 73, 75] false false S0 q) := by
    intro S y0 y1 hf
    delta mm_trapped_L99
    refine pwS_callv (mm_outcome_fr S y1 y0) (by decide) hf ?_
    intro q1 hf
    exact pw_some hf
  have lab_58 : ∀ (S : md_S), md_fr [78, 79, 80, 81] [67, 71, 72, 73, 75] false false S0 S → dc_pw (mm_trapped_L58 T S) (fun q => md_fr [78, 79, 80, 81] [67, 71, 72, 73, 75] false false S0 q) := by
    intro S  hf
    delta mm_trapped_L58
    refine pw_any ?_
    intro q2
    refine pw_if ?_ ?_
    · exact lab_99 S 0 q2 hf
    · refine pw_if ?_ ?_
      · exact lab_99 S ((S.1 80) - 1) q2 hf
      · exact lab_99 S (S.1 80) q2 hf
  have body_20 : ∀ (S : md_S) (x1 : Int32) (x4 : Int32), md_fr [78, 79, 80, 81] [67, 71, 72, 73, 75] false false S0 S → dc_pw (mm_trapped_b20 T S x1 x4) (Sum.elim (fun (q : md_S × Int32) => md_fr [78, 79, 80, 81] [67, 71, 72, 73, 75] false false S0 q.1) (fun (q : md_S) => md_fr [78, 79, 80, 81] [67, 71, 72, 73, 75] false false S0 q)) := by
    intro S x1 x4 hf
    delta mm_trapped_b20
    refine pw_any ?_
    intro j3
    refine pw_any ?_
    intro j4
    refine pw_if ?_ ?_
    · refine pw_if ?_ ?_
      · refine pw_any ?_
        intro j5
        refine pwS_a (by decide) hf ?_
        intro S6 hf
        exact pw_some hf
      · exact pw_some hf
    · exact pw_some hf
  have lab_20 : ∀ (S : md_S) (x1 : Int32) (x4 : Int32), md_fr [78, 79, 80, 81] [67, 71, 72, 73, 75] false false S0 S → dc_pw (mm_trapped_L20 T S x1 x4) (fun q => md_fr [78, 79, 80, 81] [67, 71, 72, 73, 75] false false S0 q) := by
    intro S x1 x4 hf
    delta mm_trapped_L20
    refine pw_loop (fun (q : md_S × Int32) => md_fr [78, 79, 80, 81] [67, 71, 72, 73, 75] false false S0 q.1) (fun (q : md_S) => md_fr [78, 79, 80, 81] [67, 71, 72, 73, 75] false false S0 q) hf ?_ ?_
    · rintro ⟨S, x4⟩ hf
      exact body_20 S x1 x4 hf
    · rintro Sz hf
      exact lab_58 Sz hf
  have hf : md_fr [78, 79, 80, 81] [67, 71, 72, 73, 75] false false S0 S0 := md_fr_rf
  delta mm_trapped
  refine pw_any ?_
  intro j7
  refine pwS_callv (hT.1 S0 (S0.2.1 52 j7) p2 p3) (by decide) hf ?_
  intro q8 hf
  refine pw_any ?_
  intro j9
  refine pw_let ?_
  intro v10
  exact lab_20 q8 p1 v10 hf
theorem mm_P3_fr : ∀ d : Nat, mm_FR3 (mm_P3 d)
  | 0 => ⟨fun _ _ _ _ => pw_none, fun _ _ _ _ => pw_none, fun _ _ _ _ => pw_none, fun _ _ _ _ => pw_none, fun _ _ _ _ _ => pw_none, fun _ _ _ _ => pw_none, fun _ _ _ _ => pw_none, fun _ _ _ _ => pw_none⟩
  | d + 1 => ⟨mm_run_fr (mm_P3 d) (mm_P3_fr d), mm_present_IZZ_fr (mm_P3 d) (mm_P3_fr d), mm_suspended_fr (mm_P3 d) (mm_P3_fr d), mm_sequence_fr (mm_P3 d) (mm_P3_fr d), mm_behind_fr (mm_P3 d) (mm_P3_fr d), mm_both_fr (mm_P3 d) (mm_P3_fr d), mm_side_fr (mm_P3 d) (mm_P3_fr d), mm_trapped_fr (mm_P3 d) (mm_P3_fr d)⟩
theorem mm_run_r_fr (S0 : md_S) (p1 : Int32) (p2 : Int32) (p3 : Int32) : dc_pw (mm_run_r S0 p1 p2 p3) (fun q => md_fr [78, 79, 80, 81] [67, 71, 72, 73, 75] false false S0 q) := (mm_P3_fr mm_d3).1 S0 p1 p2 p3
theorem mm_present_IZZ_r_fr (S0 : md_S) (p1 : Int32) (p2 : Int32) (p3 : Int32) : dc_pw (mm_present_IZZ_r S0 p1 p2 p3) (fun q => md_fr [78, 79, 80, 81] [67, 71, 72, 73, 75] false false S0 q) := (mm_P3_fr mm_d3).2.1 S0 p1 p2 p3
theorem mm_suspended_r_fr (S0 : md_S) (p1 : Int32) (p2 : Int32) (p3 : Int32) : dc_pw (mm_suspended_r S0 p1 p2 p3) (fun q => md_fr [78, 79, 80, 81] [67, 71, 72, 73, 75] false false S0 q) := (mm_P3_fr mm_d3).2.2.1 S0 p1 p2 p3
theorem mm_sequence_r_fr (S0 : md_S) (p1 : Int32) (p2 : Int32) (p3 : Int32) : dc_pw (mm_sequence_r S0 p1 p2 p3) (fun q => md_fr [78, 79, 80, 81] [67, 71, 72, 73, 75] false false S0 q) := (mm_P3_fr mm_d3).2.2.2.1 S0 p1 p2 p3
theorem mm_behind_r_fr (S0 : md_S) (p1 : Int32) (p2 : Int32) (p3 : Int32) (p4 : Int32) : dc_pw (mm_behind_r S0 p1 p2 p3 p4) (fun q => md_fr [78, 79, 80, 81] [67, 71, 72, 73, 75] false false S0 q) := (mm_P3_fr mm_d3).2.2.2.2.1 S0 p1 p2 p3 p4
theorem mm_both_r_fr (S0 : md_S) (p1 : Int32) (p2 : Int32) (p3 : Int32) : dc_pw (mm_both_r S0 p1 p2 p3) (fun q => md_fr [78, 79, 80, 81] [67, 71, 72, 73, 75] false false S0 q) := (mm_P3_fr mm_d3).2.2.2.2.2.1 S0 p1 p2 p3
theorem mm_side_r_fr (S0 : md_S) (p1 : Int32) (p2 : Int32) (p3 : Int32) : dc_pw (mm_side_r S0 p1 p2 p3) (fun q => md_fr [78, 79, 80, 81] [67, 71, 72, 73, 75] false false S0 q) := (mm_P3_fr mm_d3).2.2.2.2.2.2.1 S0 p1 p2 p3
theorem mm_trapped_r_fr (S0 : md_S) (p1 : Int32) (p2 : Int32) (p3 : Int32) : dc_pw (mm_trapped_r S0 p1 p2 p3) (fun q => md_fr [78, 79, 80, 81] [67, 71, 72, 73, 75] false false S0 q) := (mm_P3_fr mm_d3).2.2.2.2.2.2.2 S0 p1 p2 p3
theorem mm_learns_fr (S0 : md_S) : dc_pw (mm_learns S0) (fun q => md_fr [] [70] false false S0 q.1) := by
  have lab_93 : ∀ (S : md_S) (x1 : Int32), md_fr [] [70] false false S0 S → dc_pw (mm_learns_L93 S x1) (fun q => md_fr [] [70] false false S0 q.1) := by
    intro S x1 hf
    delta mm_learns_L93
    refine pw_any ?_
    intro _
    exact pw_some hf
  have lab_87 : ∀ (S : md_S) (x1 : Int32) (x2 : Int32), md_fr [] [70] false false S0 S → dc_pw (mm_learns_L87 S x1 x2) (Sum.elim (fun (q : md_S × Int32 × Int32) => md_fr [] [70] false false S0 q.1) (fun (q : md_S × Int32) => md_fr [] [70] false false S0 q.1)) := by
    intro S x1 x2 hf
    delta mm_learns_L87
    exact pw_some hf
  have lab_84 : ∀ (S : md_S) (x2 : Int32) (y0 : Int32) (y1 : Int32), md_fr [] [70] false false S0 S → dc_pw (mm_learns_L84 S x2 y0 y1) (Sum.elim (fun (q : md_S × Int32 × Int32) => md_fr [] [70] false false S0 q.1) (fun (q : md_S × Int32) => md_fr [] [70] false false S0 q.1)) := by
    intro S x2 y0 y1 hf
    delta mm_learns_L84
    refine pw_any ?_
    intro j2
    refine pwS_a (by decide) hf ?_
    intro S3 hf
    exact lab_87 S3 1 x2 hf
  have lab_65 : ∀ (S : md_S) (x2 : Int32), md_fr [] [70] false false S0 S → dc_pw (mm_learns_L65 S x2) (Sum.elim (fun (q : md_S × Int32 × Int32) => md_fr [] [70] false false S0 q.1) (fun (q : md_S × Int32) => md_fr [] [70] false false S0 q.1)) := by
    intro S x2 hf
    delta mm_learns_L65
    refine pw_any ?_
    intro j4
    refine pw_if ?_ ?_
    · exact lab_84 S x2 0 x2 hf
    · exact lab_84 S x2 1 x2 hf
  have lab_34 : ∀ (S : md_S) (x1 : Int32) (x2 : Int32), md_fr [] [70] false false S0 S → dc_pw (mm_learns_L34 S x1 x2) (Sum.elim (fun (q : md_S × Int32 × Int32) => md_fr [] [70] false false S0 q.1) (fun (q : md_S × Int32) => md_fr [] [70] false false S0 q.1)) := by
    intro S x1 x2 hf
    delta mm_learns_L34
    refine pw_any ?_
    intro j5
    refine pw_if ?_ ?_
    · refine pw_any ?_
      intro j6
      refine pw_if ?_ ?_
      · refine pw_any ?_
        intro j7
        refine pw_if ?_ ?_
        · exact lab_65 S x2 hf
        · exact lab_87 S x1 x2 hf
      · exact lab_65 S x2 hf
    · exact lab_87 S x1 x2 hf
  have body_7 : ∀ (S : md_S) (x1 : Int32) (x2 : Int32), md_fr [] [70] false false S0 S → dc_pw (mm_learns_b7 S x1 x2) (Sum.elim (fun (q : md_S × Int32 × Int32) => md_fr [] [70] false false S0 q.1) (fun (q : md_S × Int32) => md_fr [] [70] false false S0 q.1)) := by
    intro S x1 x2 hf
    delta mm_learns_b7
    refine pw_if ?_ ?_
    · refine pw_if ?_ ?_
      · exact lab_34 S x1 x2 hf
      · refine pw_if ?_ ?_
        · exact lab_87 S x1 x2 hf
        · exact lab_34 S x1 x2 hf
    · exact pw_some hf
  have lab_7 : ∀ (S : md_S) (x1 : Int32) (x2 : Int32), md_fr [] [70] false false S0 S → dc_pw (mm_learns_L7 S x1 x2) (fun q => md_fr [] [70] false false S0 q.1) := by
    intro S x1 x2 hf
    delta mm_learns_L7
    refine pw_loop (fun (q : md_S × Int32 × Int32) => md_fr [] [70] false false S0 q.1) (fun (q : md_S × Int32) => md_fr [] [70] false false S0 q.1) hf ?_ ?_
    · rintro ⟨S, x1, x2⟩ hf
      exact body_7 S x1 x2 hf
    · rintro ⟨Sz, z0⟩ hf
      exact lab_93 Sz z0 hf
  have hf : md_fr [] [70] false false S0 S0 := md_fr_rf
  delta mm_learns
  refine pw_let ?_
  intro v8
  exact lab_7 S0 0 v8 hf
theorem mm_react_fr (S0 : md_S) (p1 : Int32) : dc_pw (mm_react S0 p1) (fun q => md_fr [78, 79, 80, 81] [67, 70, 71, 72, 73, 75, 76] false false S0 q.1) := by
  have lab_276 : ∀ (S : md_S) (y0 : Int32), md_fr [78, 79, 80, 81] [67, 70, 71, 72, 73, 75, 76] false false S0 S → dc_pw (mm_react_L276 S y0) (fun q => md_fr [78, 79, 80, 81] [67, 70, 71, 72, 73, 75, 76] false false S0 q.1) := by
    intro S y0 hf
    delta mm_react_L276
    exact pw_some hf
  have lab_264 : ∀ (S : md_S) (x3 : Int32), md_fr [78, 79, 80, 81] [67, 70, 71, 72, 73, 75, 76] false false S0 S → dc_pw (mm_react_L264 S x3) (fun q => md_fr [78, 79, 80, 81] [67, 70, 71, 72, 73, 75, 76] false false S0 q.1) := by
    intro S x3 hf
    delta mm_react_L264
    refine pw_if ?_ ?_
    · exact lab_276 S x3 hf
    · exact lab_276 S (-1) hf
  have lab_255 : ∀ (S : md_S) (x3 : Int32) (x4 : Int32) (y0 : Int32), md_fr [78, 79, 80, 81] [67, 70, 71, 72, 73, 75, 76] false false S0 S → dc_pw (mm_react_L255 S x3 x4 y0) (Sum.elim (fun (q : md_S × Int32) => md_fr [78, 79, 80, 81] [67, 70, 71, 72, 73, 75, 76] false false S0 q.1) (fun (q : md_S) => md_fr [78, 79, 80, 81] [67, 70, 71, 72, 73, 75, 76] false false S0 q)) := by
    intro S x3 x4 y0 hf
    delta mm_react_L255
    refine pw_any ?_
    intro _
    refine pwS_i (by decide) hf ?_
    intro S2 hf
    exact pw_some hf
  have lab_250 : ∀ (S : md_S) (x3 : Int32) (x4 : Int32), md_fr [78, 79, 80, 81] [67, 70, 71, 72, 73, 75, 76] false false S0 S → dc_pw (mm_react_L250 S x3 x4) (Sum.elim (fun (q : md_S × Int32) => md_fr [78, 79, 80, 81] [67, 70, 71, 72, 73, 75, 76] false false S0 q.1) (fun (q : md_S) => md_fr [78, 79, 80, 81] [67, 70, 71, 72, 73, 75, 76] false false S0 q)) := by
    intro S x3 x4 hf
    delta mm_react_L250
    exact lab_255 S x3 x4 1 hf
  have body_217 : ∀ (S : md_S) (x3 : Int32) (x4 : Int32), md_fr [78, 79, 80, 81] [67, 70, 71, 72, 73, 75, 76] false false S0 S → dc_pw (mm_react_b217 S x3 x4) (Sum.elim (fun (q : md_S × Int32) => md_fr [78, 79, 80, 81] [67, 70, 71, 72, 73, 75, 76] false false S0 q.1) (fun (q : md_S) => md_fr [78, 79, 80, 81] [67, 70, 71, 72, 73, 75, 76] false false S0 q)) := by
    intro S x3 x4 hf
    delta mm_react_b217
    refine pw_if ?_ ?_
    · refine pw_if ?_ ?_
      · refine pw_any ?_
        intro j3
        refine pw_if ?_ ?_
        · exact lab_250 S x3 x4 hf
        · exact lab_255 S x3 x4 0 hf
      · exact lab_250 S x3 x4 hf
    · exact pw_some hf
  have lab_217 : ∀ (S : md_S) (x3 : Int32) (x4 : Int32), md_fr [78, 79, 80, 81] [67, 70, 71, 72, 73, 75, 76] false false S0 S → dc_pw (mm_react_L217 S x3 x4) (fun q => md_fr [78, 79, 80, 81] [67, 70, 71, 72, 73, 75, 76] false false S0 q.1) := by
    intro S x3 x4 hf
    delta mm_react_L217
    refine pw_loop (fun (q : md_S × Int32) => md_fr [78, 79, 80, 81] [67, 70, 71, 72, 73, 75, 76] false false S0 q.1) (fun (q : md_S) => md_fr [78, 79, 80, 81] [67, 70, 71, 72, 73, 75, 76] false false S0 q) hf ?_ ?_
    · rintro ⟨S, x4⟩ hf
      exact body_217 S x3 x4 hf
    · rintro Sz hf
      exact lab_264 Sz x3 hf
  have lab_206 : ∀ (S : md_S), md_fr [78, 79, 80, 81] [67, 70, 71, 72, 73, 75, 76] false false S0 S → dc_pw (mm_react_L206 S) (fun q => md_fr [78, 79, 80, 81] [67, 70, 71, 72, 73, 75, 76] false false S0 q.1) := by
    intro S  hf
    delta mm_react_L206
    refine pw_let ?_
    intro v4
    refine pw_let ?_
    intro v5
    exact lab_217 S v4 v5 hf
  have lab_178 : ∀ (S : md_S), md_fr [78, 79, 80, 81] [67, 70, 71, 72, 73, 75, 76] false false S0 S → dc_pw (mm_react_L178 S) (Sum.elim (fun (q : md_S × Int32) => md_fr [78, 79, 80, 81] [67, 70, 71, 72, 73, 75, 76] false false S0 q.1) (fun (q : md_S) => md_fr [78, 79, 80, 81] [67, 70, 71, 72, 73, 75, 76] false false S0 q)) := by
    intro S  hf
    delta mm_react_L178
    refine pwS_i (by decide) hf ?_
    intro S6 hf
    refine pwS_i (by decide) hf ?_
    intro S7 hf
    refine pwS_callv (mm_run_r_fr S7 0 (S7.1 77) 1) (by decide) hf ?_
    intro q8 hf
    refine pwS_call (mm_learns_fr q8) (by decide) hf ?_
    intro q9 hf
    exact pw_some hf
  have body_157 : ∀ (S : md_S) (x3 : Int32), md_fr [78, 79, 80, 81] [67, 70, 71, 72, 73, 75, 76] false false S0 S → dc_pw (mm_react_b157 S x3) (Sum.elim (fun (q : md_S × Int32) => md_fr [78, 79, 80, 81] [67, 70, 71, 72, 73, 75, 76] false false S0 q.1) (fun (q : md_S) => md_fr [78, 79, 80, 81] [67, 70, 71, 72, 73, 75, 76] false false S0 q)) := by
    intro S x3 hf
    delta mm_react_b157
    refine pw_if ?_ ?_
    · refine pw_any ?_
      intro j10
      refine pwS_a (by decide) hf ?_
      intro S11 hf
      exact pw_some hf
    · exact pw_some hf
  have lab_157 : ∀ (S : md_S) (x3 : Int32), md_fr [78, 79, 80, 81] [67, 70, 71, 72, 73, 75, 76] false false S0 S → dc_pw (mm_react_L157 S x3) (Sum.elim (fun (q : md_S × Int32) => md_fr [78, 79, 80, 81] [67, 70, 71, 72, 73, 75, 76] false false S0 q.1) (fun (q : md_S) => md_fr [78, 79, 80, 81] [67, 70, 71, 72, 73, 75, 76] false false S0 q)) := by
    intro S x3 hf
    delta mm_react_L157
    refine pw_loop (fun (q : md_S × Int32) => md_fr [78, 79, 80, 81] [67, 70, 71, 72, 73, 75, 76] false false S0 q.1) (fun (q : md_S) => md_fr [78, 79, 80, 81] [67, 70, 71, 72, 73, 75, 76] false false S0 q) hf ?_ ?_
    · rintro ⟨S, x3⟩ hf
      exact body_157 S x3 hf
    · rintro Sz hf
      exact lab_178 Sz hf
  have lab_155 : ∀ (S : md_S), md_fr [78, 79, 80, 81] [67, 70, 71, 72, 73, 75, 76] false false S0 S → dc_pw (mm_react_L155 S) (Sum.elim (fun (q : md_S × Int32) => md_fr [78, 79, 80, 81] [67, 70, 71, 72, 73, 75, 76] false false S0 q.1) (fun (q : md_S) => md_fr [78, 79, 80, 81] [67, 70, 71, 72, 73, 75, 76] false false S0 q)) := by
    intro S  hf
    delta mm_react_L155
    exact lab_157 S 0 hf
  have body_129 : ∀ (S : md_S) (x3 : Int32), md_fr [78, 79, 80, 81] [67, 70, 71, 72, 73, 75, 76] false false S0 S → dc_pw (mm_react_b129 S x3) (Sum.elim (fun (q : md_S × Int32) => md_fr [78, 79, 80, 81] [67, 70, 71, 72, 73, 75, 76] false false S0 q.1) (fun (q : md_S) => md_fr [78, 79, 80, 81] [67, 70, 71, 72, 73, 75, 76] false false S0 q)) := by
    intro S x3 hf
    delta mm_react_b129
    refine pw_if ?_ ?_
    · refine pw_any ?_
      intro j12
      refine pwS_a (by decide) hf ?_
      intro S13 hf
      exact pw_some hf
    · exact pw_some hf
  have lab_129 : ∀ (S : md_S) (x3 : Int32), md_fr [78, 79, 80, 81] [67, 70, 71, 72, 73, 75, 76] false false S0 S → dc_pw (mm_react_L129 S x3) (Sum.elim (fun (q : md_S × Int32) => md_fr [78, 79, 80, 81] [67, 70, 71, 72, 73, 75, 76] false false S0 q.1) (fun (q : md_S) => md_fr [78, 79, 80, 81] [67, 70, 71, 72, 73, 75, 76] false false S0 q)) := by
    intro S x3 hf
    delta mm_react_L129
    refine pw_loop (fun (q : md_S × Int32) => md_fr [78, 79, 80, 81] [67, 70, 71, 72, 73, 75, 76] false false S0 q.1) (fun (q : md_S) => md_fr [78, 79, 80, 81] [67, 70, 71, 72, 73, 75, 76] false false S0 q) hf ?_ ?_
    · rintro ⟨S, x3⟩ hf
      exact body_129 S x3 hf
    · rintro Sz hf
      exact lab_155 Sz hf
  have lab_127 : ∀ (S : md_S), md_fr [78, 79, 80, 81] [67, 70, 71, 72, 73, 75, 76] false false S0 S → dc_pw (mm_react_L127 S) (Sum.elim (fun (q : md_S × Int32) => md_fr [78, 79, 80, 81] [67, 70, 71, 72, 73, 75, 76] false false S0 q.1) (fun (q : md_S) => md_fr [78, 79, 80, 81] [67, 70, 71, 72, 73, 75, 76] false false S0 q)) := by
    intro S  hf
    delta mm_react_L127
    exact lab_129 S 0 hf
  have body_99 : ∀ (S : md_S) (x3 : Int32), md_fr [78, 79, 80, 81] [67, 70, 71, 72, 73, 75, 76] false false S0 S → dc_pw (mm_react_b99 S x3) (Sum.elim (fun (q : md_S × Int32) => md_fr [78, 79, 80, 81] [67, 70, 71, 72, 73, 75, 76] false false S0 q.1) (fun (q : md_S) => md_fr [78, 79, 80, 81] [67, 70, 71, 72, 73, 75, 76] false false S0 q)) := by
    intro S x3 hf
    delta mm_react_b99
    refine pw_if ?_ ?_
    · refine pw_any ?_
      intro j14
      refine pwS_a (by decide) hf ?_
      intro S15 hf
      refine pw_any ?_
      intro j16
      refine pwS_a (by decide) hf ?_
      intro S17 hf
      exact pw_some hf
    · exact pw_some hf
  have lab_99 : ∀ (S : md_S) (x3 : Int32), md_fr [78, 79, 80, 81] [67, 70, 71, 72, 73, 75, 76] false false S0 S → dc_pw (mm_react_L99 S x3) (Sum.elim (fun (q : md_S × Int32) => md_fr [78, 79, 80, 81] [67, 70, 71, 72, 73, 75, 76] false false S0 q.1) (fun (q : md_S) => md_fr [78, 79, 80, 81] [67, 70, 71, 72, 73, 75, 76] false false S0 q)) := by
    intro S x3 hf
    delta mm_react_L99
    refine pw_loop (fun (q : md_S × Int32) => md_fr [78, 79, 80, 81] [67, 70, 71, 72, 73, 75, 76] false false S0 q.1) (fun (q : md_S) => md_fr [78, 79, 80, 81] [67, 70, 71, 72, 73, 75, 76] false false S0 q) hf ?_ ?_
    · rintro ⟨S, x3⟩ hf
      exact body_99 S x3 hf
    · rintro Sz hf
      exact lab_127 Sz hf
  have body_93 : ∀ (S : md_S) (x2 : Int32), md_fr [78, 79, 80, 81] [67, 70, 71, 72, 73, 75, 76] false false S0 S → dc_pw (mm_react_b93 S x2) (Sum.elim (fun (q : md_S × Int32) => md_fr [78, 79, 80, 81] [67, 70, 71, 72, 73, 75, 76] false false S0 q.1) (fun (q : md_S) => md_fr [78, 79, 80, 81] [67, 70, 71, 72, 73, 75, 76] false false S0 q)) := by
    intro S x2 hf
    delta mm_react_b93
    refine pw_if ?_ ?_
    · exact pw_some hf
    · exact lab_99 S 0 hf
  have lab_93 : ∀ (S : md_S) (x2 : Int32), md_fr [78, 79, 80, 81] [67, 70, 71, 72, 73, 75, 76] false false S0 S → dc_pw (mm_react_L93 S x2) (fun q => md_fr [78, 79, 80, 81] [67, 70, 71, 72, 73, 75, 76] false false S0 q.1) := by
    intro S x2 hf
    delta mm_react_L93
    refine pw_loop (fun (q : md_S × Int32) => md_fr [78, 79, 80, 81] [67, 70, 71, 72, 73, 75, 76] false false S0 q.1) (fun (q : md_S) => md_fr [78, 79, 80, 81] [67, 70, 71, 72, 73, 75, 76] false false S0 q) hf ?_ ?_
    · rintro ⟨S, x2⟩ hf
      exact body_93 S x2 hf
    · rintro Sz hf
      exact lab_206 Sz hf
  have lab_91 : ∀ (S : md_S), md_fr [78, 79, 80, 81] [67, 70, 71, 72, 73, 75, 76] false false S0 S → dc_pw (mm_react_L91 S) (fun q => md_fr [78, 79, 80, 81] [67, 70, 71, 72, 73, 75, 76] false false S0 q.1) := by
    intro S  hf
    delta mm_react_L91
    exact lab_93 S 1 hf
  have lab_84 : ∀ (S : md_S) (x1 : Int32) (x2 : Int32) (y0 : Int32) (y1 : Int32), md_fr [78, 79, 80, 81] [67, 70, 71, 72, 73, 75, 76] false false S0 S → dc_pw (mm_react_L84 S x1 x2 y0 y1) (Sum.elim (fun (q : md_S × Int32) => md_fr [78, 79, 80, 81] [67, 70, 71, 72, 73, 75, 76] false false S0 q.1) (fun (q : md_S) => md_fr [78, 79, 80, 81] [67, 70, 71, 72, 73, 75, 76] false false S0 q)) := by
    intro S x1 x2 y0 y1 hf
    delta mm_react_L84
    refine pw_any ?_
    intro j18
    refine pwS_a (by decide) hf ?_
    intro S19 hf
    exact pw_some hf
  have body_54 : ∀ (S : md_S) (x1 : Int32) (x2 : Int32), md_fr [78, 79, 80, 81] [67, 70, 71, 72, 73, 75, 76] false false S0 S → dc_pw (mm_react_b54 S x1 x2) (Sum.elim (fun (q : md_S × Int32) => md_fr [78, 79, 80, 81] [67, 70, 71, 72, 73, 75, 76] false false S0 q.1) (fun (q : md_S) => md_fr [78, 79, 80, 81] [67, 70, 71, 72, 73, 75, 76] false false S0 q)) := by
    intro S x1 x2 hf
    delta mm_react_b54
    refine pw_if ?_ ?_
    · refine pw_if ?_ ?_
      · exact lab_84 S x1 x2 ((x1 >>> (x2 &&& (31 : Int32))) &&& 1) x2 hf
      · exact lab_84 S x1 x2 2 x2 hf
    · exact pw_some hf
  have lab_54 : ∀ (S : md_S) (x1 : Int32) (x2 : Int32), md_fr [78, 79, 80, 81] [67, 70, 71, 72, 73, 75, 76] false false S0 S → dc_pw (mm_react_L54 S x1 x2) (fun q => md_fr [78, 79, 80, 81] [67, 70, 71, 72, 73, 75, 76] false false S0 q.1) := by
    intro S x1 x2 hf
    delta mm_react_L54
    refine pw_loop (fun (q : md_S × Int32) => md_fr [78, 79, 80, 81] [67, 70, 71, 72, 73, 75, 76] false false S0 q.1) (fun (q : md_S) => md_fr [78, 79, 80, 81] [67, 70, 71, 72, 73, 75, 76] false false S0 q) hf ?_ ?_
    · rintro ⟨S, x2⟩ hf
      exact body_54 S x1 x2 hf
    · rintro Sz hf
      exact lab_91 Sz hf
  have lab_52 : ∀ (S : md_S) (x1 : Int32), md_fr [78, 79, 80, 81] [67, 70, 71, 72, 73, 75, 76] false false S0 S → dc_pw (mm_react_L52 S x1) (fun q => md_fr [78, 79, 80, 81] [67, 70, 71, 72, 73, 75, 76] false false S0 q.1) := by
    intro S x1 hf
    delta mm_react_L52
    exact lab_54 S x1 0 hf
  have lab_44 : ∀ (S : md_S) (x1 : Int32) (x2 : Int32) (y0 : Int32) (y1 : Int32) (y2 : Int32), md_fr [78, 79, 80, 81] [67, 70, 71, 72, 73, 75, 76] false false S0 S → dc_pw (mm_react_L44 S x1 x2 y0 y1 y2) (Sum.elim (fun (q : md_S × Int32) => md_fr [78, 79, 80, 81] [67, 70, 71, 72, 73, 75, 76] false false S0 q.1) (fun (q : md_S) => md_fr [78, 79, 80, 81] [67, 70, 71, 72, 73, 75, 76] false false S0 q)) := by
    intro S x1 x2 y0 y1 y2 hf
    delta mm_react_L44
    refine pw_any ?_
    intro j20
    refine pwS_a (by decide) hf ?_
    intro S21 hf
    exact pw_some hf
  have body_9 : ∀ (S : md_S) (x1 : Int32) (x2 : Int32), md_fr [78, 79, 80, 81] [67, 70, 71, 72, 73, 75, 76] false false S0 S → dc_pw (mm_react_b9 S x1 x2) (Sum.elim (fun (q : md_S × Int32) => md_fr [78, 79, 80, 81] [67, 70, 71, 72, 73, 75, 76] false false S0 q.1) (fun (q : md_S) => md_fr [78, 79, 80, 81] [67, 70, 71, 72, 73, 75, 76] false false S0 q)) := by
    intro S x1 x2 hf
    delta mm_react_b9
    refine pw_if ?_ ?_
    · refine pw_any ?_
      intro j22
      refine pw_any ?_
      intro j23
      refine pw_if ?_ ?_
      · exact lab_44 S x1 x2 0 (S.2.1 76 j22) (x2 + 1) hf
      · exact lab_44 S x1 x2 1 (S.2.1 76 j22) (x2 + 1) hf
    · exact pw_some hf
  have lab_9 : ∀ (S : md_S) (x1 : Int32) (x2 : Int32), md_fr [78, 79, 80, 81] [67, 70, 71, 72, 73, 75, 76] false false S0 S → dc_pw (mm_react_L9 S x1 x2) (fun q => md_fr [78, 79, 80, 81] [67, 70, 71, 72, 73, 75, 76] false false S0 q.1) := by
    intro S x1 x2 hf
    delta mm_react_L9
    refine pw_loop (fun (q : md_S × Int32) => md_fr [78, 79, 80, 81] [67, 70, 71, 72, 73, 75, 76] false false S0 q.1) (fun (q : md_S) => md_fr [78, 79, 80, 81] [67, 70, 71, 72, 73, 75, 76] false false S0 q) hf ?_ ?_
    · rintro ⟨S, x2⟩ hf
      exact body_9 S x1 x2 hf
    · rintro Sz hf
      exact lab_52 Sz x1 hf
  have hf : md_fr [78, 79, 80, 81] [67, 70, 71, 72, 73, 75, 76] false false S0 S0 := md_fr_rf
  delta mm_react
  refine pw_any ?_
  intro j24
  refine pwS_a (by decide) hf ?_
  intro S25 hf
  exact lab_9 S25 p1 0 hf
theorem mm_instant_fr (S0 : md_S) (p1 : Int32) : dc_pw (mm_instant S0 p1) (fun q => md_fr [0, 77, 78, 79, 80, 81, 82, 83] [67, 70, 71, 72, 73, 74, 75, 76, 84] false false S0 q.1) := by
  have lab_183 : ∀ (S : md_S) (y0 : Int32), md_fr [0, 77, 78, 79, 80, 81, 82, 83] [67, 70, 71, 72, 73, 74, 75, 76, 84] false false S0 S → dc_pw (mm_instant_L183 S y0) (fun q => md_fr [0, 77, 78, 79, 80, 81, 82, 83] [67, 70, 71, 72, 73, 74, 75, 76, 84] false false S0 q.1) := by
    intro S y0 hf
    delta mm_instant_L183
    exact pw_some hf
  have lab_170 : ∀ (S : md_S) (x3 : Int32) (y0 : Int32), md_fr [0, 77, 78, 79, 80, 81, 82, 83] [67, 70, 71, 72, 73, 74, 75, 76, 84] false false S0 S → dc_pw (mm_instant_L170 S x3 y0) (fun q => md_fr [0, 77, 78, 79, 80, 81, 82, 83] [67, 70, 71, 72, 73, 74, 75, 76, 84] false false S0 q.1) := by
    intro S x3 y0 hf
    delta mm_instant_L170
    refine pwS_i (by decide) hf ?_
    intro S1 hf
    refine pw_if ?_ ?_
    · exact lab_183 S1 0 hf
    · exact lab_183 S1 1 hf
  have lab_159 : ∀ (S : md_S) (x3 : Int32), md_fr [0, 77, 78, 79, 80, 81, 82, 83] [67, 70, 71, 72, 73, 74, 75, 76, 84] false false S0 S → dc_pw (mm_instant_L159 S x3) (fun q => md_fr [0, 77, 78, 79, 80, 81, 82, 83] [67, 70, 71, 72, 73, 74, 75, 76, 84] false false S0 q.1) := by
    intro S x3 hf
    delta mm_instant_L159
    refine pw_if ?_ ?_
    · exact lab_170 S x3 1 hf
    · exact lab_170 S x3 2 hf
  have lab_152 : ∀ (S : md_S) (x3 : Int32) (x4 : Int32) (y0 : Int32) (y1 : Int32), md_fr [0, 77, 78, 79, 80, 81, 82, 83] [67, 70, 71, 72, 73, 74, 75, 76, 84] false false S0 S → dc_pw (mm_instant_L152 S x3 x4 y0 y1) (Sum.elim (fun (q : md_S × Int32) => md_fr [0, 77, 78, 79, 80, 81, 82, 83] [67, 70, 71, 72, 73, 74, 75, 76, 84] false false S0 q.1) (fun (q : md_S) => md_fr [0, 77, 78, 79, 80, 81, 82, 83] [67, 70, 71, 72, 73, 74, 75, 76, 84] false false S0 q)) := by
    intro S x3 x4 y0 y1 hf
    delta mm_instant_L152
    refine pw_any ?_
    intro _
    refine pw_any ?_
    intro j3
    refine pwS_a (by decide) hf ?_
    intro S4 hf
    exact pw_some hf
  have lab_151 : ∀ (S : md_S) (x3 : Int32) (x4 : Int32) (y0 : Int32), md_fr [0, 77, 78, 79, 80, 81, 82, 83] [67, 70, 71, 72, 73, 74, 75, 76, 84] false false S0 S → dc_pw (mm_instant_L151 S x3 x4 y0) (Sum.elim (fun (q : md_S × Int32) => md_fr [0, 77, 78, 79, 80, 81, 82, 83] [67, 70, 71, 72, 73, 74, 75, 76, 84] false false S0 q.1) (fun (q : md_S) => md_fr [0, 77, 78, 79, 80, 81, 82, 83] [67, 70, 71, 72, 73, 74, 75, 76, 84] false false S0 q)) := by
    intro S x3 x4 y0 hf
    delta mm_instant_L151
    exact lab_152 S x3 x4 0 y0 hf
  have body_117 : ∀ (S : md_S) (x3 : Int32) (x4 : Int32), md_fr [0, 77, 78, 79, 80, 81, 82, 83] [67, 70, 71, 72, 73, 74, 75, 76, 84] false false S0 S → dc_pw (mm_instant_b117 S x3 x4) (Sum.elim (fun (q : md_S × Int32) => md_fr [0, 77, 78, 79, 80, 81, 82, 83] [67, 70, 71, 72, 73, 74, 75, 76, 84] false false S0 q.1) (fun (q : md_S) => md_fr [0, 77, 78, 79, 80, 81, 82, 83] [67, 70, 71, 72, 73, 74, 75, 76, 84] false false S0 q)) := by
    intro S x3 x4 hf
    delta mm_instant_b117
    refine pw_if ?_ ?_
    · refine pw_if ?_ ?_
      · refine pw_any ?_
        intro j5
        refine pw_if ?_ ?_
        · exact lab_151 S x3 x4 x4 hf
        · exact lab_152 S x3 x4 1 x4 hf
      · exact lab_151 S x3 x4 x4 hf
    · exact pw_some hf
  have lab_117 : ∀ (S : md_S) (x3 : Int32) (x4 : Int32), md_fr [0, 77, 78, 79, 80, 81, 82, 83] [67, 70, 71, 72, 73, 74, 75, 76, 84] false false S0 S → dc_pw (mm_instant_L117 S x3 x4) (fun q => md_fr [0, 77, 78, 79, 80, 81, 82, 83] [67, 70, 71, 72, 73, 74, 75, 76, 84] false false S0 q.1) := by
    intro S x3 x4 hf
    delta mm_instant_L117
    refine pw_loop (fun (q : md_S × Int32) => md_fr [0, 77, 78, 79, 80, 81, 82, 83] [67, 70, 71, 72, 73, 74, 75, 76, 84] false false S0 q.1) (fun (q : md_S) => md_fr [0, 77, 78, 79, 80, 81, 82, 83] [67, 70, 71, 72, 73, 74, 75, 76, 84] false false S0 q) hf ?_ ?_
    · rintro ⟨S, x4⟩ hf
      exact body_117 S x3 x4 hf
    · rintro Sz hf
      exact lab_159 Sz x3 hf
  have lab_92 : ∀ (S : md_S) (x3 : Int32), md_fr [0, 77, 78, 79, 80, 81, 82, 83] [67, 70, 71, 72, 73, 74, 75, 76, 84] false false S0 S → dc_pw (mm_instant_L92 S x3) (fun q => md_fr [0, 77, 78, 79, 80, 81, 82, 83] [67, 70, 71, 72, 73, 74, 75, 76, 84] false false S0 q.1) := by
    intro S x3 hf
    delta mm_instant_L92
    refine pw_if ?_ ?_
    · exact pw_some hf
    · refine pwS_i (by decide) hf ?_
      intro S6 hf
      refine pwS_i (by decide) hf ?_
      intro S7 hf
      exact lab_117 S7 x3 0 hf
  have body_58 : ∀ (S : md_S) (x3 : Int32) (x4 : Int32), md_fr [0, 77, 78, 79, 80, 81, 82, 83] [67, 70, 71, 72, 73, 74, 75, 76, 84] false false S0 S → dc_pw (mm_instant_b58 S x3 x4) (Sum.elim (fun (q : md_S × Int32) => md_fr [0, 77, 78, 79, 80, 81, 82, 83] [67, 70, 71, 72, 73, 74, 75, 76, 84] false false S0 q.1) (fun (q : md_S) => md_fr [0, 77, 78, 79, 80, 81, 82, 83] [67, 70, 71, 72, 73, 74, 75, 76, 84] false false S0 q)) := by
    intro S x3 x4 hf
    delta mm_instant_b58
    refine pw_if ?_ ?_
    · refine pw_any ?_
      intro j8
      refine pw_any ?_
      intro j9
      refine pwS_a (by decide) hf ?_
      intro S10 hf
      exact pw_some hf
    · exact pw_some hf
  have lab_58 : ∀ (S : md_S) (x3 : Int32) (x4 : Int32), md_fr [0, 77, 78, 79, 80, 81, 82, 83] [67, 70, 71, 72, 73, 74, 75, 76, 84] false false S0 S → dc_pw (mm_instant_L58 S x3 x4) (fun q => md_fr [0, 77, 78, 79, 80, 81, 82, 83] [67, 70, 71, 72, 73, 74, 75, 76, 84] false false S0 q.1) := by
    intro S x3 x4 hf
    delta mm_instant_L58
    refine pw_loop (fun (q : md_S × Int32) => md_fr [0, 77, 78, 79, 80, 81, 82, 83] [67, 70, 71, 72, 73, 74, 75, 76, 84] false false S0 q.1) (fun (q : md_S) => md_fr [0, 77, 78, 79, 80, 81, 82, 83] [67, 70, 71, 72, 73, 74, 75, 76, 84] false false S0 q) hf ?_ ?_
    · rintro ⟨S, x4⟩ hf
      exact body_58 S x3 x4 hf
    · rintro Sz hf
      exact lab_92 Sz x3 hf
  have lab_41 : ∀ (S : md_S) (x1 : Int32) (y0 : Int32) (y1 : Int32), md_fr [0, 77, 78, 79, 80, 81, 82, 83] [67, 70, 71, 72, 73, 74, 75, 76, 84] false false S0 S → dc_pw (mm_instant_L41 S x1 y0 y1) (fun q => md_fr [0, 77, 78, 79, 80, 81, 82, 83] [67, 70, 71, 72, 73, 74, 75, 76, 84] false false S0 q.1) := by
    intro S x1 y0 y1 hf
    delta mm_instant_L41
    refine pwS_call (mm_fails_fr S y1 y0) (by decide) hf ?_
    intro q11 hf
    refine pw_if ?_ ?_
    · refine pwS_call (mm_react_fr q11.1 x1) (by decide) hf ?_
      intro q12 hf
      exact lab_58 q12.1 q12.2 0 hf
    · exact pw_some hf
  have lab_40 : ∀ (S : md_S) (x1 : Int32) (y0 : Int32), md_fr [0, 77, 78, 79, 80, 81, 82, 83] [67, 70, 71, 72, 73, 74, 75, 76, 84] false false S0 S → dc_pw (mm_instant_L40 S x1 y0) (fun q => md_fr [0, 77, 78, 79, 80, 81, 82, 83] [67, 70, 71, 72, 73, 74, 75, 76, 84] false false S0 q.1) := by
    intro S x1 y0 hf
    delta mm_instant_L40
    exact lab_41 S x1 0 y0 hf
  have lab_24 : ∀ (S : md_S) (x1 : Int32) (x2 : Int32) (y0 : Int32), md_fr [0, 77, 78, 79, 80, 81, 82, 83] [67, 70, 71, 72, 73, 74, 75, 76, 84] false false S0 S → dc_pw (mm_instant_L24 S x1 x2 y0) (fun q => md_fr [0, 77, 78, 79, 80, 81, 82, 83] [67, 70, 71, 72, 73, 74, 75, 76, 84] false false S0 q.1) := by
    intro S x1 x2 y0 hf
    delta mm_instant_L24
    refine pw_if ?_ ?_
    · exact lab_40 S x1 y0 hf
    · refine pw_any ?_
      intro q13
      refine pw_if ?_ ?_
      · exact lab_41 S x1 1 y0 hf
      · exact lab_40 S x1 y0 hf
  have lab_13 : ∀ (S : md_S) (x1 : Int32) (y0 : Int32), md_fr [0, 77, 78, 79, 80, 81, 82, 83] [67, 70, 71, 72, 73, 74, 75, 76, 84] false false S0 S → dc_pw (mm_instant_L13 S x1 y0) (fun q => md_fr [0, 77, 78, 79, 80, 81, 82, 83] [67, 70, 71, 72, 73, 74, 75, 76, 84] false false S0 q.1) := by
    intro S x1 y0 hf
    delta mm_instant_L13
    refine pw_if ?_ ?_
    · exact lab_24 S x1 y0 1 hf
    · exact lab_24 S x1 y0 0 hf
  have hf : md_fr [0, 77, 78, 79, 80, 81, 82, 83] [67, 70, 71, 72, 73, 74, 75, 76, 84] false false S0 S0 := md_fr_rf
  delta mm_instant
  refine pw_if ?_ ?_
  · exact lab_13 S0 p1 1 hf
  · exact lab_13 S0 p1 0 hf
theorem mm_status_fr (S0 : md_S) (p1 : Int32) : dc_pw (mm_status S0 p1) (fun q => md_fr [0] [] false false S0 q.1) := by
  have lab_39 : ∀ (S : md_S) (y0 : Int32), md_fr [0] [] false false S0 S → dc_pw (mm_status_L39 S y0) (fun q => md_fr [0] [] false false S0 q.1) := by
    intro S y0 hf
    delta mm_status_L39
    exact pw_some hf
  have lab_29 : ∀ (S : md_S), md_fr [0] [] false false S0 S → dc_pw (mm_status_L29 S) (fun q => md_fr [0] [] false false S0 q.1) := by
    intro S  hf
    delta mm_status_L29
    exact lab_39 S 0 hf
  have hf : md_fr [0] [] false false S0 S0 := md_fr_rf
  delta mm_status
  refine pwS_i (by decide) hf ?_
  intro S1 hf
  refine pw_if ?_ ?_
  · exact lab_29 S1 hf
  · refine pw_if ?_ ?_
    · refine pw_if ?_ ?_
      · exact lab_29 S1 hf
      · refine pw_any ?_
        intro j2
        exact lab_39 S1 (S1.2.1 84 j2) hf
    · exact lab_29 S1 hf
theorem mm_selected_fr (S0 : md_S) (p1 : Int32) : dc_pw (mm_selected S0 p1) (fun q => md_fr [0] [] false false S0 q.1) := by
  have lab_31 : ∀ (S : md_S) (y0 : Int32), md_fr [0] [] false false S0 S → dc_pw (mm_selected_L31 S y0) (fun q => md_fr [0] [] false false S0 q.1) := by
    intro S y0 hf
    delta mm_selected_L31
    refine pw_any ?_
    intro _
    exact pw_some hf
  have lab_30 : ∀ (S : md_S), md_fr [0] [] false false S0 S → dc_pw (mm_selected_L30 S) (fun q => md_fr [0] [] false false S0 q.1) := by
    intro S  hf
    delta mm_selected_L30
    exact lab_31 S 0 hf
  have hf : md_fr [0] [] false false S0 S0 := md_fr_rf
  delta mm_selected
  refine pwS_i (by decide) hf ?_
  intro S2 hf
  refine pw_if ?_ ?_
  · exact lab_30 S2 hf
  · refine pw_if ?_ ?_
    · refine pw_any ?_
      intro j3
      refine pw_if ?_ ?_
      · exact lab_30 S2 hf
      · exact lab_31 S2 1 hf
    · exact lab_30 S2 hf
theorem mm_go_fr (S0 : md_S) (p1 : Int32) : dc_pw (mm_go S0 p1) (fun q => md_fr [0, 77, 82, 83] [74, 84] false false S0 q) := by
  have lab_34 : ∀ (S : md_S) (x1 : Int32) (y0 : Int32) (y1 : Int32), md_fr [0, 77, 82, 83] [74, 84] false false S0 S → dc_pw (mm_go_L34 S x1 y0 y1) (fun q => md_fr [0, 77, 82, 83] [74, 84] false false S0 q) := by
    intro S x1 y0 y1 hf
    delta mm_go_L34
    refine pwS_call (mm_fails_fr S y1 y0) (by decide) hf ?_
    intro q1 hf
    refine pw_if ?_ ?_
    · refine pwS_callv (mm_rest_fr q1.1) (by decide) hf ?_
      intro q2 hf
      refine pwS_callv (mm_place_fr q2 x1) (by decide) hf ?_
      intro q3 hf
      refine pwS_i (by decide) hf ?_
      intro S4 hf
      exact pw_some hf
    · exact pw_some hf
  have lab_33 : ∀ (S : md_S) (x1 : Int32) (y0 : Int32), md_fr [0, 77, 82, 83] [74, 84] false false S0 S → dc_pw (mm_go_L33 S x1 y0) (fun q => md_fr [0, 77, 82, 83] [74, 84] false false S0 q) := by
    intro S x1 y0 hf
    delta mm_go_L33
    exact lab_34 S x1 0 y0 hf
  have lab_13 : ∀ (S : md_S) (x1 : Int32) (y0 : Int32), md_fr [0, 77, 82, 83] [74, 84] false false S0 S → dc_pw (mm_go_L13 S x1 y0) (fun q => md_fr [0, 77, 82, 83] [74, 84] false false S0 q) := by
    intro S x1 y0 hf
    delta mm_go_L13
    refine pw_if ?_ ?_
    · exact lab_33 S x1 y0 hf
    · refine pw_any ?_
      intro q5
      refine pw_if ?_ ?_
      · exact lab_34 S x1 1 y0 hf
      · exact lab_33 S x1 y0 hf
  have hf : md_fr [0, 77, 82, 83] [74, 84] false false S0 S0 := md_fr_rf
  delta mm_go
  refine pw_if ?_ ?_
  · exact lab_13 S0 p1 1 hf
  · exact lab_13 S0 p1 0 hf
theorem mm_meet_fr (S0 : md_S) (p1 : Int32) (p2 : Int32) (p3 : Int32) : dc_pw (mm_meet S0 p1 p2 p3) (fun q => md_fr [87] [88, 89, 90, 91] false false S0 q) := by
  have lab_65 : ∀ (S : md_S) (y0 : Int32) (y1 : Int32), md_fr [87] [88, 89, 90, 91] false false S0 S → dc_pw (mm_meet_L65 S y0 y1) (fun q => md_fr [87] [88, 89, 90, 91] false false S0 q) := by
    intro S y0 y1 hf
    delta mm_meet_L65
    refine pw_any ?_
    intro j1
    refine pwS_a (by decide) hf ?_
    intro S2 hf
    refine pwS_i (by decide) hf ?_
    intro S3 hf
    exact pw_some hf
  have hf : md_fr [87] [88, 89, 90, 91] false false S0 S0 := md_fr_rf
  delta mm_meet
  refine pw_any ?_
  intro q4
  refine pw_if ?_ ?_
  · refine pw_any ?_
    intro j5
    refine pwS_a (by decide) hf ?_
    intro S6 hf
    refine pw_any ?_
    intro j7
    refine pwS_a (by decide) hf ?_
    intro S8 hf
    refine pw_any ?_
    intro j9
    refine pwS_a (by decide) hf ?_
    intro S10 hf
    refine pw_if ?_ ?_
    · exact lab_65 S10 0 (S10.1 87) hf
    · refine pw_any ?_
      intro j11
      exact lab_65 S10 ((S10.2.1 89 j11) + 1) (S10.1 87) hf
  · exact pw_some hf
theorem mm_ahead_fr (S0 : md_S) : dc_pw (mm_ahead S0) (fun q => md_fr [] [96, 97] false false S0 q) := by
  have lab_124 : ∀ (S : md_S), md_fr [] [96, 97] false false S0 S → dc_pw (mm_ahead_L124 S) (fun q => md_fr [] [96, 97] false false S0 q) := by
    intro S  hf
    delta mm_ahead_L124
    exact pw_some hf
  have lab_118 : ∀ (S : md_S) (x1 : Int32), md_fr [] [96, 97] false false S0 S → dc_pw (mm_ahead_L118 S x1) (Sum.elim (fun (q : md_S × Int32) => md_fr [] [96, 97] false false S0 q.1) (fun (q : md_S) => md_fr [] [96, 97] false false S0 q)) := by
    intro S x1 hf
    delta mm_ahead_L118
    exact pw_some hf
  have lab_112 : ∀ (S : md_S) (x1 : Int32) (x2 : Int32), md_fr [] [96, 97] false false S0 S → dc_pw (mm_ahead_L112 S x1 x2) (Sum.elim (fun (q : md_S × Int32) => md_fr [] [96, 97] false false S0 q.1) (fun (q : md_S) => md_fr [] [96, 97] false false S0 q)) := by
    intro S x1 x2 hf
    delta mm_ahead_L112
    exact pw_some hf
  have body_38 : ∀ (S : md_S) (x1 : Int32) (x2 : Int32), md_fr [] [96, 97] false false S0 S → dc_pw (mm_ahead_b38 S x1 x2) (Sum.elim (fun (q : md_S × Int32) => md_fr [] [96, 97] false false S0 q.1) (fun (q : md_S) => md_fr [] [96, 97] false false S0 q)) := by
    intro S x1 x2 hf
    delta mm_ahead_b38
    refine pw_if ?_ ?_
    · refine pw_any ?_
      intro j1
      refine pw_let ?_
      intro v2
      refine pw_if ?_ ?_
      · exact lab_112 S x1 x2 hf
      · refine pw_if ?_ ?_
        · exact lab_112 S x1 x2 hf
        · refine pw_any ?_
          intro q3
          refine pw_let ?_
          intro v4
          refine pw_any ?_
          intro j5
          refine pw_any ?_
          intro j6
          refine pwS_a (by decide) hf ?_
          intro S7 hf
          refine pw_any ?_
          intro j8
          refine pwS_a (by decide) hf ?_
          intro S9 hf
          exact lab_112 S9 x1 x2 hf
    · exact pw_some hf
  have lab_38 : ∀ (S : md_S) (x1 : Int32) (x2 : Int32), md_fr [] [96, 97] false false S0 S → dc_pw (mm_ahead_L38 S x1 x2) (Sum.elim (fun (q : md_S × Int32) => md_fr [] [96, 97] false false S0 q.1) (fun (q : md_S) => md_fr [] [96, 97] false false S0 q)) := by
    intro S x1 x2 hf
    delta mm_ahead_L38
    refine pw_loop (fun (q : md_S × Int32) => md_fr [] [96, 97] false false S0 q.1) (fun (q : md_S) => md_fr [] [96, 97] false false S0 q) hf ?_ ?_
    · rintro ⟨S, x2⟩ hf
      exact body_38 S x1 x2 hf
    · rintro Sz hf
      exact lab_118 Sz x1 hf
  have body_28 : ∀ (S : md_S) (x1 : Int32), md_fr [] [96, 97] false false S0 S → dc_pw (mm_ahead_b28 S x1) (Sum.elim (fun (q : md_S × Int32) => md_fr [] [96, 97] false false S0 q.1) (fun (q : md_S) => md_fr [] [96, 97] false false S0 q)) := by
    intro S x1 hf
    delta mm_ahead_b28
    refine pw_if ?_ ?_
    · exact lab_38 S x1 0 hf
    · exact pw_some hf
  have lab_28 : ∀ (S : md_S) (x1 : Int32), md_fr [] [96, 97] false false S0 S → dc_pw (mm_ahead_L28 S x1) (fun q => md_fr [] [96, 97] false false S0 q) := by
    intro S x1 hf
    delta mm_ahead_L28
    refine pw_loop (fun (q : md_S × Int32) => md_fr [] [96, 97] false false S0 q.1) (fun (q : md_S) => md_fr [] [96, 97] false false S0 q) hf ?_ ?_
    · rintro ⟨S, x1⟩ hf
      exact body_28 S x1 hf
    · rintro Sz hf
      exact lab_124 Sz hf
  have lab_26 : ∀ (S : md_S), md_fr [] [96, 97] false false S0 S → dc_pw (mm_ahead_L26 S) (fun q => md_fr [] [96, 97] false false S0 q) := by
    intro S  hf
    delta mm_ahead_L26
    exact lab_28 S 0 hf
  have body_2 : ∀ (S : md_S) (x1 : Int32), md_fr [] [96, 97] false false S0 S → dc_pw (mm_ahead_b2 S x1) (Sum.elim (fun (q : md_S × Int32) => md_fr [] [96, 97] false false S0 q.1) (fun (q : md_S) => md_fr [] [96, 97] false false S0 q)) := by
    intro S x1 hf
    delta mm_ahead_b2
    refine pw_if ?_ ?_
    · refine pw_any ?_
      intro j10
      refine pwS_a (by decide) hf ?_
      intro S11 hf
      exact pw_some hf
    · exact pw_some hf
  have lab_2 : ∀ (S : md_S) (x1 : Int32), md_fr [] [96, 97] false false S0 S → dc_pw (mm_ahead_L2 S x1) (fun q => md_fr [] [96, 97] false false S0 q) := by
    intro S x1 hf
    delta mm_ahead_L2
    refine pw_loop (fun (q : md_S × Int32) => md_fr [] [96, 97] false false S0 q.1) (fun (q : md_S) => md_fr [] [96, 97] false false S0 q) hf ?_ ?_
    · rintro ⟨S, x1⟩ hf
      exact body_2 S x1 hf
    · rintro Sz hf
      exact lab_26 Sz hf
  have hf : md_fr [] [96, 97] false false S0 S0 := md_fr_rf
  delta mm_ahead
  exact lab_2 S0 0 hf
theorem mm_markPairs_fr (S0 : md_S) : dc_pw (mm_markPairs S0) (fun q => md_fr [] [94, 95, 96, 97] false false S0 q) := by
  have lab_330 : ∀ (S : md_S), md_fr [] [94, 95, 96, 97] false false S0 S → dc_pw (mm_markPairs_L330 S) (fun q => md_fr [] [94, 95, 96, 97] false false S0 q) := by
    intro S  hf
    delta mm_markPairs_L330
    exact pw_some hf
  have lab_327 : ∀ (S : md_S) (x1 : Int32), md_fr [] [94, 95, 96, 97] false false S0 S → dc_pw (mm_markPairs_L327 S x1) (Sum.elim (fun (q : md_S × Int32) => md_fr [] [94, 95, 96, 97] false false S0 q.1) (fun (q : md_S) => md_fr [] [94, 95, 96, 97] false false S0 q)) := by
    intro S x1 hf
    delta mm_markPairs_L327
    exact pw_some hf
  have lab_321 : ∀ (S : md_S) (x1 : Int32) (x2 : Int32) (x3 : Int32) (x4 : Int32), md_fr [] [94, 95, 96, 97] false false S0 S → dc_pw (mm_markPairs_L321 S x1 x2 x3 x4) (Sum.elim (fun (q : md_S × Int32 × Int32) => md_fr [] [94, 95, 96, 97] false false S0 q.1) (fun (q : md_S × Int32) => md_fr [] [94, 95, 96, 97] false false S0 q.1)) := by
    intro S x1 x2 x3 x4 hf
    delta mm_markPairs_L321
    exact pw_some hf
  have lab_303 : ∀ (S : md_S) (x1 : Int32) (x2 : Int32) (x3 : Int32) (x4 : Int32) (x5 : Int32), md_fr [] [94, 95, 96, 97] false false S0 S → dc_pw (mm_markPairs_L303 S x1 x2 x3 x4 x5) (Sum.elim (fun (q : md_S × Int32 × Int32) => md_fr [] [94, 95, 96, 97] false false S0 q.1) (fun (q : md_S × Int32) => md_fr [] [94, 95, 96, 97] false false S0 q.1)) := by
    intro S x1 x2 x3 x4 x5 hf
    delta mm_markPairs_L303
    refine pw_any ?_
    intro j1
    refine pw_let ?_
    intro v2
    exact pw_some hf
  have lab_285 : ∀ (S : md_S) (x1 : Int32) (x2 : Int32) (x3 : Int32) (x4 : Int32) (x5 : Int32) (x6 : Int32), md_fr [] [94, 95, 96, 97] false false S0 S → dc_pw (mm_markPairs_L285 S x1 x2 x3 x4 x5 x6) (Sum.elim (fun (q : md_S × Int32 × Int32) => md_fr [] [94, 95, 96, 97] false false S0 q.1) (fun (q : md_S × Int32) => md_fr [] [94, 95, 96, 97] false false S0 q.1)) := by
    intro S x1 x2 x3 x4 x5 x6 hf
    delta mm_markPairs_L285
    refine pw_any ?_
    intro j3
    refine pw_let ?_
    intro v4
    exact pw_some hf
  have body_211 : ∀ (S : md_S) (x1 : Int32) (x2 : Int32) (x3 : Int32) (x4 : Int32) (x5 : Int32) (x6 : Int32), md_fr [] [94, 95, 96, 97] false false S0 S → dc_pw (mm_markPairs_b211 S x1 x2 x3 x4 x5 x6) (Sum.elim (fun (q : md_S × Int32 × Int32) => md_fr [] [94, 95, 96, 97] false false S0 q.1) (fun (q : md_S × Int32) => md_fr [] [94, 95, 96, 97] false false S0 q.1)) := by
    intro S x1 x2 x3 x4 x5 x6 hf
    delta mm_markPairs_b211
    refine pw_if ?_ ?_
    · exact pw_some hf
    · refine pw_any ?_
      intro j5
      refine pw_if ?_ ?_
      · refine pw_any ?_
        intro j6
        refine pwS_a (by decide) hf ?_
        intro S7 hf
        refine pw_any ?_
        intro j8
        refine pwS_a (by decide) hf ?_
        intro S9 hf
        refine pw_any ?_
        intro j10
        refine pwS_a (by decide) hf ?_
        intro S11 hf
        exact lab_285 S11 (x1 + 1) x2 x3 x4 x5 x6 hf
      · exact lab_285 S x1 x2 x3 x4 x5 x6 hf
  have lab_211 : ∀ (S : md_S) (x1 : Int32) (x2 : Int32) (x3 : Int32) (x4 : Int32) (x5 : Int32) (x6 : Int32), md_fr [] [94, 95, 96, 97] false false S0 S → dc_pw (mm_markPairs_L211 S x1 x2 x3 x4 x5 x6) (Sum.elim (fun (q : md_S × Int32 × Int32) => md_fr [] [94, 95, 96, 97] false false S0 q.1) (fun (q : md_S × Int32) => md_fr [] [94, 95, 96, 97] false false S0 q.1)) := by
    intro S x1 x2 x3 x4 x5 x6 hf
    delta mm_markPairs_L211
    refine pw_loop (fun (q : md_S × Int32 × Int32) => md_fr [] [94, 95, 96, 97] false false S0 q.1) (fun (q : md_S × Int32) => md_fr [] [94, 95, 96, 97] false false S0 q.1) hf ?_ ?_
    · rintro ⟨S, x1, x6⟩ hf
      exact body_211 S x1 x2 x3 x4 x5 x6 hf
    · rintro ⟨Sz, z0⟩ hf
      exact lab_303 Sz z0 x2 x3 x4 x5 hf
  have body_191 : ∀ (S : md_S) (x1 : Int32) (x2 : Int32) (x3 : Int32) (x4 : Int32) (x5 : Int32), md_fr [] [94, 95, 96, 97] false false S0 S → dc_pw (mm_markPairs_b191 S x1 x2 x3 x4 x5) (Sum.elim (fun (q : md_S × Int32 × Int32) => md_fr [] [94, 95, 96, 97] false false S0 q.1) (fun (q : md_S × Int32) => md_fr [] [94, 95, 96, 97] false false S0 q.1)) := by
    intro S x1 x2 x3 x4 x5 hf
    delta mm_markPairs_b191
    refine pw_if ?_ ?_
    · exact pw_some hf
    · refine pw_any ?_
      intro j12
      refine pw_let ?_
      intro v13
      exact lab_211 S x1 x2 x3 x4 x5 v13 hf
  have lab_191 : ∀ (S : md_S) (x1 : Int32) (x2 : Int32) (x3 : Int32) (x4 : Int32) (x5 : Int32), md_fr [] [94, 95, 96, 97] false false S0 S → dc_pw (mm_markPairs_L191 S x1 x2 x3 x4 x5) (Sum.elim (fun (q : md_S × Int32 × Int32) => md_fr [] [94, 95, 96, 97] false false S0 q.1) (fun (q : md_S × Int32) => md_fr [] [94, 95, 96, 97] false false S0 q.1)) := by
    intro S x1 x2 x3 x4 x5 hf
    delta mm_markPairs_L191
    refine pw_loop (fun (q : md_S × Int32 × Int32) => md_fr [] [94, 95, 96, 97] false false S0 q.1) (fun (q : md_S × Int32) => md_fr [] [94, 95, 96, 97] false false S0 q.1) hf ?_ ?_
    · rintro ⟨S, x1, x5⟩ hf
      exact body_191 S x1 x2 x3 x4 x5 hf
    · rintro ⟨Sz, z0⟩ hf
      exact lab_321 Sz z0 x2 x3 x4 hf
  have body_166 : ∀ (S : md_S) (x1 : Int32) (x2 : Int32) (x3 : Int32) (x4 : Int32), md_fr [] [94, 95, 96, 97] false false S0 S → dc_pw (mm_markPairs_b166 S x1 x2 x3 x4) (Sum.elim (fun (q : md_S × Int32 × Int32) => md_fr [] [94, 95, 96, 97] false false S0 q.1) (fun (q : md_S × Int32) => md_fr [] [94, 95, 96, 97] false false S0 q.1)) := by
    intro S x1 x2 x3 x4 hf
    delta mm_markPairs_b166
    refine pw_if ?_ ?_
    · refine pw_any ?_
      intro j14
      refine pw_let ?_
      intro v15
      exact lab_191 S x1 x2 x3 x4 v15 hf
    · exact pw_some hf
  have lab_166 : ∀ (S : md_S) (x1 : Int32) (x2 : Int32) (x3 : Int32) (x4 : Int32), md_fr [] [94, 95, 96, 97] false false S0 S → dc_pw (mm_markPairs_L166 S x1 x2 x3 x4) (Sum.elim (fun (q : md_S × Int32) => md_fr [] [94, 95, 96, 97] false false S0 q.1) (fun (q : md_S) => md_fr [] [94, 95, 96, 97] false false S0 q)) := by
    intro S x1 x2 x3 x4 hf
    delta mm_markPairs_L166
    refine pw_loop (fun (q : md_S × Int32 × Int32) => md_fr [] [94, 95, 96, 97] false false S0 q.1) (fun (q : md_S × Int32) => md_fr [] [94, 95, 96, 97] false false S0 q.1) hf ?_ ?_
    · rintro ⟨S, x1, x4⟩ hf
      exact body_166 S x1 x2 x3 x4 hf
    · rintro ⟨Sz, z0⟩ hf
      exact lab_327 Sz z0 hf
  have body_134 : ∀ (S : md_S) (x1 : Int32), md_fr [] [94, 95, 96, 97] false false S0 S → dc_pw (mm_markPairs_b134 S x1) (Sum.elim (fun (q : md_S × Int32) => md_fr [] [94, 95, 96, 97] false false S0 q.1) (fun (q : md_S) => md_fr [] [94, 95, 96, 97] false false S0 q)) := by
    intro S x1 hf
    delta mm_markPairs_b134
    refine pw_if ?_ ?_
    · refine pw_any ?_
      intro j16
      refine pw_let ?_
      intro v17
      refine pw_any ?_
      intro j18
      refine pw_let ?_
      intro v19
      exact lab_166 S (x1 + (-1)) v17 v19 0 hf
    · exact pw_some hf
  have lab_134 : ∀ (S : md_S) (x1 : Int32), md_fr [] [94, 95, 96, 97] false false S0 S → dc_pw (mm_markPairs_L134 S x1) (fun q => md_fr [] [94, 95, 96, 97] false false S0 q) := by
    intro S x1 hf
    delta mm_markPairs_L134
    refine pw_loop (fun (q : md_S × Int32) => md_fr [] [94, 95, 96, 97] false false S0 q.1) (fun (q : md_S) => md_fr [] [94, 95, 96, 97] false false S0 q) hf ?_ ?_
    · rintro ⟨S, x1⟩ hf
      exact body_134 S x1 hf
    · rintro Sz hf
      exact lab_330 Sz hf
  have lab_130 : ∀ (S : md_S) (x1 : Int32), md_fr [] [94, 95, 96, 97] false false S0 S → dc_pw (mm_markPairs_L130 S x1) (fun q => md_fr [] [94, 95, 96, 97] false false S0 q) := by
    intro S x1 hf
    delta mm_markPairs_L130
    refine pwS_callv (mm_ahead_fr S) (by decide) hf ?_
    intro q20 hf
    exact lab_134 q20 x1 hf
  have lab_124 : ∀ (S : md_S) (x1 : Int32) (x2 : Int32), md_fr [] [94, 95, 96, 97] false false S0 S → dc_pw (mm_markPairs_L124 S x1 x2) (Sum.elim (fun (q : md_S × Int32 × Int32) => md_fr [] [94, 95, 96, 97] false false S0 q.1) (fun (q : md_S × Int32) => md_fr [] [94, 95, 96, 97] false false S0 q.1)) := by
    intro S x1 x2 hf
    delta mm_markPairs_L124
    exact pw_some hf
  have lab_118 : ∀ (S : md_S) (x1 : Int32) (x2 : Int32) (x3 : Int32), md_fr [] [94, 95, 96, 97] false false S0 S → dc_pw (mm_markPairs_L118 S x1 x2 x3) (Sum.elim (fun (q : md_S × Int32 × Int32) => md_fr [] [94, 95, 96, 97] false false S0 q.1) (fun (q : md_S × Int32) => md_fr [] [94, 95, 96, 97] false false S0 q.1)) := by
    intro S x1 x2 x3 hf
    delta mm_markPairs_L118
    exact pw_some hf
  have body_59 : ∀ (S : md_S) (x1 : Int32) (x2 : Int32) (x3 : Int32), md_fr [] [94, 95, 96, 97] false false S0 S → dc_pw (mm_markPairs_b59 S x1 x2 x3) (Sum.elim (fun (q : md_S × Int32 × Int32) => md_fr [] [94, 95, 96, 97] false false S0 q.1) (fun (q : md_S × Int32) => md_fr [] [94, 95, 96, 97] false false S0 q.1)) := by
    intro S x1 x2 x3 hf
    delta mm_markPairs_b59
    refine pw_if ?_ ?_
    · refine pw_any ?_
      intro q21
      refine pw_if ?_ ?_
      · exact lab_118 S x1 x2 x3 hf
      · refine pw_any ?_
        intro j22
        refine pwS_a (by decide) hf ?_
        intro S23 hf
        refine pw_any ?_
        intro j24
        refine pwS_a (by decide) hf ?_
        intro S25 hf
        refine pw_any ?_
        intro j26
        refine pwS_a (by decide) hf ?_
        intro S27 hf
        exact lab_118 S27 (x1 + 1) x2 x3 hf
    · exact pw_some hf
  have lab_59 : ∀ (S : md_S) (x1 : Int32) (x2 : Int32) (x3 : Int32), md_fr [] [94, 95, 96, 97] false false S0 S → dc_pw (mm_markPairs_L59 S x1 x2 x3) (Sum.elim (fun (q : md_S × Int32 × Int32) => md_fr [] [94, 95, 96, 97] false false S0 q.1) (fun (q : md_S × Int32) => md_fr [] [94, 95, 96, 97] false false S0 q.1)) := by
    intro S x1 x2 x3 hf
    delta mm_markPairs_L59
    refine pw_loop (fun (q : md_S × Int32 × Int32) => md_fr [] [94, 95, 96, 97] false false S0 q.1) (fun (q : md_S × Int32) => md_fr [] [94, 95, 96, 97] false false S0 q.1) hf ?_ ?_
    · rintro ⟨S, x1, x3⟩ hf
      exact body_59 S x1 x2 x3 hf
    · rintro ⟨Sz, z0⟩ hf
      exact lab_124 Sz z0 x2 hf
  have body_49 : ∀ (S : md_S) (x1 : Int32) (x2 : Int32), md_fr [] [94, 95, 96, 97] false false S0 S → dc_pw (mm_markPairs_b49 S x1 x2) (Sum.elim (fun (q : md_S × Int32 × Int32) => md_fr [] [94, 95, 96, 97] false false S0 q.1) (fun (q : md_S × Int32) => md_fr [] [94, 95, 96, 97] false false S0 q.1)) := by
    intro S x1 x2 hf
    delta mm_markPairs_b49
    refine pw_if ?_ ?_
    · exact lab_59 S x1 x2 0 hf
    · exact pw_some hf
  have lab_49 : ∀ (S : md_S) (x1 : Int32) (x2 : Int32), md_fr [] [94, 95, 96, 97] false false S0 S → dc_pw (mm_markPairs_L49 S x1 x2) (fun q => md_fr [] [94, 95, 96, 97] false false S0 q) := by
    intro S x1 x2 hf
    delta mm_markPairs_L49
    refine pw_loop (fun (q : md_S × Int32 × Int32) => md_fr [] [94, 95, 96, 97] false false S0 q.1) (fun (q : md_S × Int32) => md_fr [] [94, 95, 96, 97] false false S0 q.1) hf ?_ ?_
    · rintro ⟨S, x1, x2⟩ hf
      exact body_49 S x1 x2 hf
    · rintro ⟨Sz, z0⟩ hf
      exact lab_130 Sz z0 hf
  have lab_47 : ∀ (S : md_S) (x1 : Int32), md_fr [] [94, 95, 96, 97] false false S0 S → dc_pw (mm_markPairs_L47 S x1) (fun q => md_fr [] [94, 95, 96, 97] false false S0 q) := by
    intro S x1 hf
    delta mm_markPairs_L47
    exact lab_49 S x1 0 hf
  have lab_41 : ∀ (S : md_S) (x1 : Int32) (x2 : Int32), md_fr [] [94, 95, 96, 97] false false S0 S → dc_pw (mm_markPairs_L41 S x1 x2) (Sum.elim (fun (q : md_S × Int32) => md_fr [] [94, 95, 96, 97] false false S0 q.1) (fun (q : md_S) => md_fr [] [94, 95, 96, 97] false false S0 q)) := by
    intro S x1 x2 hf
    delta mm_markPairs_L41
    exact pw_some hf
  have body_14 : ∀ (S : md_S) (x1 : Int32) (x2 : Int32) (x3 : Int32), md_fr [] [94, 95, 96, 97] false false S0 S → dc_pw (mm_markPairs_b14 S x1 x2 x3) (Sum.elim (fun (q : md_S × Int32) => md_fr [] [94, 95, 96, 97] false false S0 q.1) (fun (q : md_S) => md_fr [] [94, 95, 96, 97] false false S0 q)) := by
    intro S x1 x2 x3 hf
    delta mm_markPairs_b14
    refine pw_if ?_ ?_
    · refine pw_any ?_
      intro j28
      refine pwS_a (by decide) hf ?_
      intro S29 hf
      exact pw_some hf
    · exact pw_some hf
  have lab_14 : ∀ (S : md_S) (x1 : Int32) (x2 : Int32) (x3 : Int32), md_fr [] [94, 95, 96, 97] false false S0 S → dc_pw (mm_markPairs_L14 S x1 x2 x3) (Sum.elim (fun (q : md_S × Int32) => md_fr [] [94, 95, 96, 97] false false S0 q.1) (fun (q : md_S) => md_fr [] [94, 95, 96, 97] false false S0 q)) := by
    intro S x1 x2 x3 hf
    delta mm_markPairs_L14
    refine pw_loop (fun (q : md_S × Int32) => md_fr [] [94, 95, 96, 97] false false S0 q.1) (fun (q : md_S) => md_fr [] [94, 95, 96, 97] false false S0 q) hf ?_ ?_
    · rintro ⟨S, x3⟩ hf
      exact body_14 S x1 x2 x3 hf
    · rintro Sz hf
      exact lab_41 Sz x1 x2 hf
  have body_4 : ∀ (S : md_S) (x1 : Int32) (x2 : Int32), md_fr [] [94, 95, 96, 97] false false S0 S → dc_pw (mm_markPairs_b4 S x1 x2) (Sum.elim (fun (q : md_S × Int32) => md_fr [] [94, 95, 96, 97] false false S0 q.1) (fun (q : md_S) => md_fr [] [94, 95, 96, 97] false false S0 q)) := by
    intro S x1 x2 hf
    delta mm_markPairs_b4
    refine pw_if ?_ ?_
    · exact lab_14 S x1 x2 0 hf
    · exact pw_some hf
  have lab_4 : ∀ (S : md_S) (x1 : Int32) (x2 : Int32), md_fr [] [94, 95, 96, 97] false false S0 S → dc_pw (mm_markPairs_L4 S x1 x2) (fun q => md_fr [] [94, 95, 96, 97] false false S0 q) := by
    intro S x1 x2 hf
    delta mm_markPairs_L4
    refine pw_loop (fun (q : md_S × Int32) => md_fr [] [94, 95, 96, 97] false false S0 q.1) (fun (q : md_S) => md_fr [] [94, 95, 96, 97] false false S0 q) hf ?_ ?_
    · rintro ⟨S, x2⟩ hf
      exact body_4 S x1 x2 hf
    · rintro Sz hf
      exact lab_47 Sz x1 hf
  have hf : md_fr [] [94, 95, 96, 97] false false S0 S0 := md_fr_rf
  delta mm_markPairs
  exact lab_4 S0 0 0 hf
theorem mm_explore_fr (S0 : md_S) : dc_pw (mm_explore S0) (fun q => md_fr [0, 77, 78, 79, 80, 81, 85, 87] [67, 70, 71, 72, 73, 74, 75, 76, 88, 89, 90, 91, 92, 93, 94, 95, 96, 97] false false S0 q.1) := by
  have lab_341 : ∀ (S : md_S) (x1 : Int32), md_fr [0, 77, 78, 79, 80, 81, 85, 87] [67, 70, 71, 72, 73, 74, 75, 76, 88, 89, 90, 91, 92, 93, 94, 95, 96, 97] false false S0 S → dc_pw (mm_explore_L341 S x1) (fun q => md_fr [0, 77, 78, 79, 80, 81, 85, 87] [67, 70, 71, 72, 73, 74, 75, 76, 88, 89, 90, 91, 92, 93, 94, 95, 96, 97] false false S0 q.1) := by
    intro S x1 hf
    delta mm_explore_L341
    refine pwS_callv (mm_place_fr S x1) (by decide) hf ?_
    intro q1 hf
    refine pwS_i (by decide) hf ?_
    intro S2 hf
    refine pwS_callv (mm_markPairs_fr S2) (by decide) hf ?_
    intro q3 hf
    exact pw_some hf
  have lab_335 : ∀ (S : md_S) (x1 : Int32) (x2 : Int32), md_fr [0, 77, 78, 79, 80, 81, 85, 87] [67, 70, 71, 72, 73, 74, 75, 76, 88, 89, 90, 91, 92, 93, 94, 95, 96, 97] false false S0 S → dc_pw (mm_explore_L335 S x1 x2) (Sum.elim (fun (q : md_S × Int32) => md_fr [0, 77, 78, 79, 80, 81, 85, 87] [67, 70, 71, 72, 73, 74, 75, 76, 88, 89, 90, 91, 92, 93, 94, 95, 96, 97] false false S0 q.1) (fun (q : md_S) => md_fr [0, 77, 78, 79, 80, 81, 85, 87] [67, 70, 71, 72, 73, 74, 75, 76, 88, 89, 90, 91, 92, 93, 94, 95, 96, 97] false false S0 q)) := by
    intro S x1 x2 hf
    delta mm_explore_L335
    exact pw_some hf
  have lab_329 : ∀ (S : md_S) (x1 : Int32) (x2 : Int32) (x3 : Int32), md_fr [0, 77, 78, 79, 80, 81, 85, 87] [67, 70, 71, 72, 73, 74, 75, 76, 88, 89, 90, 91, 92, 93, 94, 95, 96, 97] false false S0 S → dc_pw (mm_explore_L329 S x1 x2 x3) (Sum.elim (fun (q : md_S × Int32) => md_fr [0, 77, 78, 79, 80, 81, 85, 87] [67, 70, 71, 72, 73, 74, 75, 76, 88, 89, 90, 91, 92, 93, 94, 95, 96, 97] false false S0 q.1) (fun (q : md_S) => md_fr [0, 77, 78, 79, 80, 81, 85, 87] [67, 70, 71, 72, 73, 74, 75, 76, 88, 89, 90, 91, 92, 93, 94, 95, 96, 97] false false S0 q)) := by
    intro S x1 x2 x3 hf
    delta mm_explore_L329
    exact pw_some hf
  have lab_321 : ∀ (S : md_S) (x1 : Int32) (x2 : Int32) (x3 : Int32) (x6 : Int32) (y0 : Int32) (y1 : Int32) (y2 : Int32), md_fr [0, 77, 78, 79, 80, 81, 85, 87] [67, 70, 71, 72, 73, 74, 75, 76, 88, 89, 90, 91, 92, 93, 94, 95, 96, 97] false false S0 S → dc_pw (mm_explore_L321 S x1 x2 x3 x6 y0 y1 y2) (Sum.elim (fun (q : md_S × Int32) => md_fr [0, 77, 78, 79, 80, 81, 85, 87] [67, 70, 71, 72, 73, 74, 75, 76, 88, 89, 90, 91, 92, 93, 94, 95, 96, 97] false false S0 q.1) (fun (q : md_S) => md_fr [0, 77, 78, 79, 80, 81, 85, 87] [67, 70, 71, 72, 73, 74, 75, 76, 88, 89, 90, 91, 92, 93, 94, 95, 96, 97] false false S0 q)) := by
    intro S x1 x2 x3 x6 y0 y1 y2 hf
    delta mm_explore_L321
    refine pw_any ?_
    intro j4
    refine pwS_a (by decide) hf ?_
    intro S5 hf
    exact pw_some hf
  have body_276 : ∀ (S : md_S) (x1 : Int32) (x2 : Int32) (x3 : Int32) (x6 : Int32), md_fr [0, 77, 78, 79, 80, 81, 85, 87] [67, 70, 71, 72, 73, 74, 75, 76, 88, 89, 90, 91, 92, 93, 94, 95, 96, 97] false false S0 S → dc_pw (mm_explore_b276 S x1 x2 x3 x6) (Sum.elim (fun (q : md_S × Int32) => md_fr [0, 77, 78, 79, 80, 81, 85, 87] [67, 70, 71, 72, 73, 74, 75, 76, 88, 89, 90, 91, 92, 93, 94, 95, 96, 97] false false S0 q.1) (fun (q : md_S) => md_fr [0, 77, 78, 79, 80, 81, 85, 87] [67, 70, 71, 72, 73, 74, 75, 76, 88, 89, 90, 91, 92, 93, 94, 95, 96, 97] false false S0 q)) := by
    intro S x1 x2 x3 x6 hf
    delta mm_explore_b276
    refine pw_if ?_ ?_
    · refine pw_any ?_
      intro j6
      refine pw_any ?_
      intro j7
      refine pw_if ?_ ?_
      · exact lab_321 S x1 x2 x3 x6 ((1 : Int32) <<< (x6 &&& (31 : Int32))) (S.2.1 93 j6) ((16 * x2) + x3) hf
      · exact lab_321 S x1 x2 x3 x6 0 (S.2.1 93 j6) ((16 * x2) + x3) hf
    · exact pw_some hf
  have lab_276 : ∀ (S : md_S) (x1 : Int32) (x2 : Int32) (x3 : Int32) (x6 : Int32), md_fr [0, 77, 78, 79, 80, 81, 85, 87] [67, 70, 71, 72, 73, 74, 75, 76, 88, 89, 90, 91, 92, 93, 94, 95, 96, 97] false false S0 S → dc_pw (mm_explore_L276 S x1 x2 x3 x6) (Sum.elim (fun (q : md_S × Int32) => md_fr [0, 77, 78, 79, 80, 81, 85, 87] [67, 70, 71, 72, 73, 74, 75, 76, 88, 89, 90, 91, 92, 93, 94, 95, 96, 97] false false S0 q.1) (fun (q : md_S) => md_fr [0, 77, 78, 79, 80, 81, 85, 87] [67, 70, 71, 72, 73, 74, 75, 76, 88, 89, 90, 91, 92, 93, 94, 95, 96, 97] false false S0 q)) := by
    intro S x1 x2 x3 x6 hf
    delta mm_explore_L276
    refine pw_loop (fun (q : md_S × Int32) => md_fr [0, 77, 78, 79, 80, 81, 85, 87] [67, 70, 71, 72, 73, 74, 75, 76, 88, 89, 90, 91, 92, 93, 94, 95, 96, 97] false false S0 q.1) (fun (q : md_S) => md_fr [0, 77, 78, 79, 80, 81, 85, 87] [67, 70, 71, 72, 73, 74, 75, 76, 88, 89, 90, 91, 92, 93, 94, 95, 96, 97] false false S0 q) hf ?_ ?_
    · rintro ⟨S, x6⟩ hf
      exact body_276 S x1 x2 x3 x6 hf
    · rintro Sz hf
      exact lab_329 Sz x1 x2 x3 hf
  have lab_248 : ∀ (S : md_S) (x1 : Int32) (x2 : Int32) (x3 : Int32) (x5 : Int32), md_fr [0, 77, 78, 79, 80, 81, 85, 87] [67, 70, 71, 72, 73, 74, 75, 76, 88, 89, 90, 91, 92, 93, 94, 95, 96, 97] false false S0 S → dc_pw (mm_explore_L248 S x1 x2 x3 x5) (Sum.elim (fun (q : md_S × Int32) => md_fr [0, 77, 78, 79, 80, 81, 85, 87] [67, 70, 71, 72, 73, 74, 75, 76, 88, 89, 90, 91, 92, 93, 94, 95, 96, 97] false false S0 q.1) (fun (q : md_S) => md_fr [0, 77, 78, 79, 80, 81, 85, 87] [67, 70, 71, 72, 73, 74, 75, 76, 88, 89, 90, 91, 92, 93, 94, 95, 96, 97] false false S0 q)) := by
    intro S x1 x2 x3 x5 hf
    delta mm_explore_L248
    refine pw_any ?_
    intro j8
    refine pwS_a (by decide) hf ?_
    intro S9 hf
    refine pw_any ?_
    intro j10
    refine pwS_a (by decide) hf ?_
    intro S11 hf
    exact lab_276 S11 x1 x2 x3 0 hf
  have lab_240 : ∀ (S : md_S) (x1 : Int32) (x2 : Int32) (x3 : Int32) (x5 : Int32), md_fr [0, 77, 78, 79, 80, 81, 85, 87] [67, 70, 71, 72, 73, 74, 75, 76, 88, 89, 90, 91, 92, 93, 94, 95, 96, 97] false false S0 S → dc_pw (mm_explore_L240 S x1 x2 x3 x5) (Sum.elim (fun (q : md_S × Int32) => md_fr [0, 77, 78, 79, 80, 81, 85, 87] [67, 70, 71, 72, 73, 74, 75, 76, 88, 89, 90, 91, 92, 93, 94, 95, 96, 97] false false S0 q.1) (fun (q : md_S) => md_fr [0, 77, 78, 79, 80, 81, 85, 87] [67, 70, 71, 72, 73, 74, 75, 76, 88, 89, 90, 91, 92, 93, 94, 95, 96, 97] false false S0 q)) := by
    intro S x1 x2 x3 x5 hf
    delta mm_explore_L240
    refine pwS_callv (mm_meet_fr S x5 x2 x3) (by decide) hf ?_
    intro q12 hf
    exact lab_248 q12 x1 x2 x3 x5 hf
  have lab_202 : ∀ (S : md_S) (x1 : Int32) (x2 : Int32) (x3 : Int32) (x5 : Int32) (x6 : Int32), md_fr [0, 77, 78, 79, 80, 81, 85, 87] [67, 70, 71, 72, 73, 74, 75, 76, 88, 89, 90, 91, 92, 93, 94, 95, 96, 97] false false S0 S → dc_pw (mm_explore_L202 S x1 x2 x3 x5 x6) (Sum.elim (fun (q : md_S × Int32) => md_fr [0, 77, 78, 79, 80, 81, 85, 87] [67, 70, 71, 72, 73, 74, 75, 76, 88, 89, 90, 91, 92, 93, 94, 95, 96, 97] false false S0 q.1) (fun (q : md_S) => md_fr [0, 77, 78, 79, 80, 81, 85, 87] [67, 70, 71, 72, 73, 74, 75, 76, 88, 89, 90, 91, 92, 93, 94, 95, 96, 97] false false S0 q)) := by
    intro S x1 x2 x3 x5 x6 hf
    delta mm_explore_L202
    refine pw_any ?_
    rintro z0
    exact lab_240 S x1 x2 x3 z0 hf
  have lab_188 : ∀ (S : md_S) (x1 : Int32) (x2 : Int32) (x3 : Int32) (x4 : Int32) (y0 : Int32), md_fr [0, 77, 78, 79, 80, 81, 85, 87] [67, 70, 71, 72, 73, 74, 75, 76, 88, 89, 90, 91, 92, 93, 94, 95, 96, 97] false false S0 S → dc_pw (mm_explore_L188 S x1 x2 x3 x4 y0) (Sum.elim (fun (q : md_S × Int32) => md_fr [0, 77, 78, 79, 80, 81, 85, 87] [67, 70, 71, 72, 73, 74, 75, 76, 88, 89, 90, 91, 92, 93, 94, 95, 96, 97] false false S0 q.1) (fun (q : md_S) => md_fr [0, 77, 78, 79, 80, 81, 85, 87] [67, 70, 71, 72, 73, 74, 75, 76, 88, 89, 90, 91, 92, 93, 94, 95, 96, 97] false false S0 q)) := by
    intro S x1 x2 x3 x4 y0 hf
    delta mm_explore_L188
    refine pw_if ?_ ?_
    · exact lab_202 S x1 x2 x3 0 0 hf
    · exact lab_248 S x1 x2 x3 y0 hf
  have body_149 : ∀ (S : md_S) (x1 : Int32) (x2 : Int32) (x3 : Int32), md_fr [0, 77, 78, 79, 80, 81, 85, 87] [67, 70, 71, 72, 73, 74, 75, 76, 88, 89, 90, 91, 92, 93, 94, 95, 96, 97] false false S0 S → dc_pw (mm_explore_b149 S x1 x2 x3) (Sum.elim (fun (q : md_S × Int32) => md_fr [0, 77, 78, 79, 80, 81, 85, 87] [67, 70, 71, 72, 73, 74, 75, 76, 88, 89, 90, 91, 92, 93, 94, 95, 96, 97] false false S0 q.1) (fun (q : md_S) => md_fr [0, 77, 78, 79, 80, 81, 85, 87] [67, 70, 71, 72, 73, 74, 75, 76, 88, 89, 90, 91, 92, 93, 94, 95, 96, 97] false false S0 q)) := by
    intro S x1 x2 x3 hf
    delta mm_explore_b149
    refine pw_if ?_ ?_
    · refine pw_any ?_
      intro j15
      refine pwS_callv (mm_place_fr S (S.2.1 88 j15)) (by decide) hf ?_
      intro q16 hf
      refine pwS_call (mm_react_fr q16 x3) (by decide) hf ?_
      intro q17 hf
      refine pw_if ?_ ?_
      · exact lab_188 q17.1 x1 x2 x3 q17.2 257 hf
      · exact lab_188 q17.1 x1 x2 x3 q17.2 (-1) hf
    · exact pw_some hf
  have lab_149 : ∀ (S : md_S) (x1 : Int32) (x2 : Int32) (x3 : Int32), md_fr [0, 77, 78, 79, 80, 81, 85, 87] [67, 70, 71, 72, 73, 74, 75, 76, 88, 89, 90, 91, 92, 93, 94, 95, 96, 97] false false S0 S → dc_pw (mm_explore_L149 S x1 x2 x3) (Sum.elim (fun (q : md_S × Int32) => md_fr [0, 77, 78, 79, 80, 81, 85, 87] [67, 70, 71, 72, 73, 74, 75, 76, 88, 89, 90, 91, 92, 93, 94, 95, 96, 97] false false S0 q.1) (fun (q : md_S) => md_fr [0, 77, 78, 79, 80, 81, 85, 87] [67, 70, 71, 72, 73, 74, 75, 76, 88, 89, 90, 91, 92, 93, 94, 95, 96, 97] false false S0 q)) := by
    intro S x1 x2 x3 hf
    delta mm_explore_L149
    refine pw_loop (fun (q : md_S × Int32) => md_fr [0, 77, 78, 79, 80, 81, 85, 87] [67, 70, 71, 72, 73, 74, 75, 76, 88, 89, 90, 91, 92, 93, 94, 95, 96, 97] false false S0 q.1) (fun (q : md_S) => md_fr [0, 77, 78, 79, 80, 81, 85, 87] [67, 70, 71, 72, 73, 74, 75, 76, 88, 89, 90, 91, 92, 93, 94, 95, 96, 97] false false S0 q) hf ?_ ?_
    · rintro ⟨S, x3⟩ hf
      exact body_149 S x1 x2 x3 hf
    · rintro Sz hf
      exact lab_335 Sz x1 x2 hf
  have body_139 : ∀ (S : md_S) (x1 : Int32) (x2 : Int32), md_fr [0, 77, 78, 79, 80, 81, 85, 87] [67, 70, 71, 72, 73, 74, 75, 76, 88, 89, 90, 91, 92, 93, 94, 95, 96, 97] false false S0 S → dc_pw (mm_explore_b139 S x1 x2) (Sum.elim (fun (q : md_S × Int32) => md_fr [0, 77, 78, 79, 80, 81, 85, 87] [67, 70, 71, 72, 73, 74, 75, 76, 88, 89, 90, 91, 92, 93, 94, 95, 96, 97] false false S0 q.1) (fun (q : md_S) => md_fr [0, 77, 78, 79, 80, 81, 85, 87] [67, 70, 71, 72, 73, 74, 75, 76, 88, 89, 90, 91, 92, 93, 94, 95, 96, 97] false false S0 q)) := by
    intro S x1 x2 hf
    delta mm_explore_b139
    refine pw_if ?_ ?_
    · exact lab_149 S x1 x2 0 hf
    · exact pw_some hf
  have lab_139 : ∀ (S : md_S) (x1 : Int32) (x2 : Int32), md_fr [0, 77, 78, 79, 80, 81, 85, 87] [67, 70, 71, 72, 73, 74, 75, 76, 88, 89, 90, 91, 92, 93, 94, 95, 96, 97] false false S0 S → dc_pw (mm_explore_L139 S x1 x2) (fun q => md_fr [0, 77, 78, 79, 80, 81, 85, 87] [67, 70, 71, 72, 73, 74, 75, 76, 88, 89, 90, 91, 92, 93, 94, 95, 96, 97] false false S0 q.1) := by
    intro S x1 x2 hf
    delta mm_explore_L139
    refine pw_loop (fun (q : md_S × Int32) => md_fr [0, 77, 78, 79, 80, 81, 85, 87] [67, 70, 71, 72, 73, 74, 75, 76, 88, 89, 90, 91, 92, 93, 94, 95, 96, 97] false false S0 q.1) (fun (q : md_S) => md_fr [0, 77, 78, 79, 80, 81, 85, 87] [67, 70, 71, 72, 73, 74, 75, 76, 88, 89, 90, 91, 92, 93, 94, 95, 96, 97] false false S0 q) hf ?_ ?_
    · rintro ⟨S, x2⟩ hf
      exact body_139 S x1 x2 hf
    · rintro Sz hf
      exact lab_341 Sz x1 hf
  have lab_123 : ∀ (S : md_S) (x1 : Int32), md_fr [0, 77, 78, 79, 80, 81, 85, 87] [67, 70, 71, 72, 73, 74, 75, 76, 88, 89, 90, 91, 92, 93, 94, 95, 96, 97] false false S0 S → dc_pw (mm_explore_L123 S x1) (fun q => md_fr [0, 77, 78, 79, 80, 81, 85, 87] [67, 70, 71, 72, 73, 74, 75, 76, 88, 89, 90, 91, 92, 93, 94, 95, 96, 97] false false S0 q.1) := by
    intro S x1 hf
    delta mm_explore_L123
    refine pwS_i (by decide) hf ?_
    intro S18 hf
    refine pwS_callv (mm_meet_fr S18 256 (-1) 0) (by decide) hf ?_
    intro q19 hf
    exact lab_139 q19 x1 0 hf
  have lab_90 : ∀ (S : md_S) (x1 : Int32) (x2 : Int32), md_fr [0, 77, 78, 79, 80, 81, 85, 87] [67, 70, 71, 72, 73, 74, 75, 76, 88, 89, 90, 91, 92, 93, 94, 95, 96, 97] false false S0 S → dc_pw (mm_explore_L90 S x1 x2) (fun q => md_fr [0, 77, 78, 79, 80, 81, 85, 87] [67, 70, 71, 72, 73, 74, 75, 76, 88, 89, 90, 91, 92, 93, 94, 95, 96, 97] false false S0 q.1) := by
    intro S x1 x2 hf
    delta mm_explore_L90
    refine pw_any ?_
    rintro z0
    exact lab_123 S z0 hf
  have lab_87 : ∀ (S : md_S) (y0 : Int32), md_fr [0, 77, 78, 79, 80, 81, 85, 87] [67, 70, 71, 72, 73, 74, 75, 76, 88, 89, 90, 91, 92, 93, 94, 95, 96, 97] false false S0 S → dc_pw (mm_explore_L87 S y0) (fun q => md_fr [0, 77, 78, 79, 80, 81, 85, 87] [67, 70, 71, 72, 73, 74, 75, 76, 88, 89, 90, 91, 92, 93, 94, 95, 96, 97] false false S0 q.1) := by
    intro S y0 hf
    delta mm_explore_L87
    exact lab_90 S y0 0 hf
  have lab_59 : ∀ (S : md_S), md_fr [0, 77, 78, 79, 80, 81, 85, 87] [67, 70, 71, 72, 73, 74, 75, 76, 88, 89, 90, 91, 92, 93, 94, 95, 96, 97] false false S0 S → dc_pw (mm_explore_L59 S) (fun q => md_fr [0, 77, 78, 79, 80, 81, 85, 87] [67, 70, 71, 72, 73, 74, 75, 76, 88, 89, 90, 91, 92, 93, 94, 95, 96, 97] false false S0 q.1) := by
    intro S  hf
    delta mm_explore_L59
    exact pw_some hf
  have lab_13 : ∀ (S : md_S) (y0 : Int32), md_fr [0, 77, 78, 79, 80, 81, 85, 87] [67, 70, 71, 72, 73, 74, 75, 76, 88, 89, 90, 91, 92, 93, 94, 95, 96, 97] false false S0 S → dc_pw (mm_explore_L13 S y0) (fun q => md_fr [0, 77, 78, 79, 80, 81, 85, 87] [67, 70, 71, 72, 73, 74, 75, 76, 88, 89, 90, 91, 92, 93, 94, 95, 96, 97] false false S0 q.1) := by
    intro S y0 hf
    delta mm_explore_L13
    refine pwS_call (mm_fails_fr S y0 0) (by decide) hf ?_
    intro q22 hf
    refine pw_if ?_ ?_
    · refine pw_if ?_ ?_
      · exact lab_59 q22.1 hf
      · refine pw_if ?_ ?_
        · exact lab_59 q22.1 hf
        · refine pw_if ?_ ?_
          · exact lab_59 q22.1 hf
          · refine pw_if ?_ ?_
            · exact lab_59 q22.1 hf
            · refine pw_if ?_ ?_
              · refine pw_if ?_ ?_
                · exact lab_87 q22.1 0 hf
                · exact lab_87 q22.1 256 hf
              · exact pw_some hf
    · exact pw_some hf
  have hf : md_fr [0, 77, 78, 79, 80, 81, 85, 87] [67, 70, 71, 72, 73, 74, 75, 76, 88, 89, 90, 91, 92, 93, 94, 95, 96, 97] false false S0 S0 := md_fr_rf
  delta mm_explore
  refine pw_if ?_ ?_
  · exact lab_13 S0 1 hf
  · exact lab_13 S0 0 hf
theorem mm_distance_fr (S0 : md_S) (p1 : Int32) : dc_pw (mm_distance S0 p1) (fun q => md_fr [0] [] false false S0 q.1) := by
  have lab_26 : ∀ (S : md_S) (y0 : Int32), md_fr [0] [] false false S0 S → dc_pw (mm_distance_L26 S y0) (fun q => md_fr [0] [] false false S0 q.1) := by
    intro S y0 hf
    delta mm_distance_L26
    exact pw_some hf
  have hf : md_fr [0] [] false false S0 S0 := md_fr_rf
  delta mm_distance
  refine pwS_i (by decide) hf ?_
  intro S1 hf
  refine pw_any ?_
  intro q2
  refine pw_if ?_ ?_
  · exact lab_26 S1 (-1) hf
  · refine pw_any ?_
    intro j3
    exact lab_26 S1 (S1.2.1 89 j3) hf
theorem mm_path_fr (S0 : md_S) (p1 : Int32) (p2 : Int32) : dc_pw (mm_path S0 p1 p2) (fun q => md_fr [0] [] false false S0 q.1) := by
  have lab_54 : ∀ (S : md_S) (x3 : Int32), md_fr [0] [] false false S0 S → dc_pw (mm_path_L54 S x3) (fun q => md_fr [0] [] false false S0 q.1) := by
    intro S x3 hf
    delta mm_path_L54
    refine pw_any ?_
    intro j1
    exact pw_some hf
  have lab_32 : ∀ (S : md_S) (x2 : Int32) (x3 : Int32), md_fr [0] [] false false S0 S → dc_pw (mm_path_L32 S x2 x3) (fun q => md_fr [0] [] false false S0 q.1) := by
    intro S x2 x3 hf
    delta mm_path_L32
    refine pw_any ?_
    rintro z0
    exact lab_54 S z0 hf
  have lab_30 : ∀ (S : md_S), md_fr [0] [] false false S0 S → dc_pw (mm_path_L30 S) (fun q => md_fr [0] [] false false S0 q.1) := by
    intro S  hf
    delta mm_path_L30
    exact pw_some hf
  have hf : md_fr [0] [] false false S0 S0 := md_fr_rf
  delta mm_path
  refine pwS_i (by decide) hf ?_
  intro S5 hf
  refine pw_any ?_
  intro q6
  refine pw_if ?_ ?_
  · exact lab_30 S5 hf
  · refine pw_if ?_ ?_
    · exact lab_30 S5 hf
    · refine pw_any ?_
      intro j7
      refine pw_if ?_ ?_
      · exact lab_32 S5 p2 q6 hf
      · exact lab_30 S5 hf
theorem mm_next_fr (S0 : md_S) (p1 : Int32) (p2 : Int32) : dc_pw (mm_next S0 p1 p2) (fun q => md_fr [0] [] false false S0 q.1) := by
  have lab_34 : ∀ (S : md_S) (y0 : Int32), md_fr [0] [] false false S0 S → dc_pw (mm_next_L34 S y0) (fun q => md_fr [0] [] false false S0 q.1) := by
    intro S y0 hf
    delta mm_next_L34
    exact pw_some hf
  have lab_13 : ∀ (S : md_S) (x1 : Int32) (x2 : Int32) (y0 : Int32), md_fr [0] [] false false S0 S → dc_pw (mm_next_L13 S x1 x2 y0) (fun q => md_fr [0] [] false false S0 q.1) := by
    intro S x1 x2 y0 hf
    delta mm_next_L13
    refine pwS_call (mm_fails_fr S y0 0) (by decide) hf ?_
    intro q1 hf
    refine pw_if ?_ ?_
    · refine pw_any ?_
      intro q2
      exact lab_34 q1.1 q2 hf
    · exact lab_34 q1.1 0 hf
  have hf : md_fr [0] [] false false S0 S0 := md_fr_rf
  delta mm_next
  refine pw_if ?_ ?_
  · exact lab_13 S0 p1 p2 1 hf
  · exact lab_13 S0 p1 p2 0 hf
theorem mm_shows_fr (S0 : md_S) (p1 : Int32) (p2 : Int32) : dc_pw (mm_shows S0 p1 p2) (fun q => md_fr [0] [] false false S0 q.1) := by
  have lab_34 : ∀ (S : md_S) (y0 : Int32), md_fr [0] [] false false S0 S → dc_pw (mm_shows_L34 S y0) (fun q => md_fr [0] [] false false S0 q.1) := by
    intro S y0 hf
    delta mm_shows_L34
    exact pw_some hf
  have lab_13 : ∀ (S : md_S) (x1 : Int32) (x2 : Int32) (y0 : Int32), md_fr [0] [] false false S0 S → dc_pw (mm_shows_L13 S x1 x2 y0) (fun q => md_fr [0] [] false false S0 q.1) := by
    intro S x1 x2 y0 hf
    delta mm_shows_L13
    refine pwS_call (mm_fails_fr S y0 0) (by decide) hf ?_
    intro q1 hf
    refine pw_if ?_ ?_
    · refine pw_any ?_
      intro q2
      exact lab_34 q1.1 q2 hf
    · exact lab_34 q1.1 0 hf
  have hf : md_fr [0] [] false false S0 S0 := md_fr_rf
  delta mm_shows
  refine pw_if ?_ ?_
  · exact lab_13 S0 p1 p2 1 hf
  · exact lab_13 S0 p1 p2 0 hf
theorem mm_doubt_fr (S0 : md_S) (p1 : Int32) : dc_pw (mm_doubt S0 p1) (fun q => md_fr [0] [] false false S0 q.1) := by
  have lab_194 : ∀ (S : md_S) (y0 : Int32), md_fr [0] [] false false S0 S → dc_pw (mm_doubt_L194 S y0) (fun q => md_fr [0] [] false false S0 q.1) := by
    intro S y0 hf
    delta mm_doubt_L194
    exact pw_some hf
  have lab_148 : ∀ (S : md_S) (x1 : Int32) (x2 : Int32) (x3 : Int32), md_fr [0] [] false false S0 S → dc_pw (mm_doubt_L148 S x1 x2 x3) (fun q => md_fr [0] [] false false S0 q.1) := by
    intro S x1 x2 x3 hf
    delta mm_doubt_L148
    refine pw_if ?_ ?_
    · exact lab_194 S (-1) hf
    · refine pw_if ?_ ?_
      · refine pw_any ?_
        intro j1
        exact lab_194 S (S.2.1 89 j1) hf
      · refine pw_if ?_ ?_
        · refine pw_any ?_
          intro j2
          exact lab_194 S (S.2.1 88 j2) hf
        · refine pw_if ?_ ?_
          · exact lab_194 S x3 hf
          · exact lab_194 S (-1) hf
  have lab_12 : ∀ (S : md_S) (x1 : Int32) (x2 : Int32) (x3 : Int32) (x4 : Int32), md_fr [0] [] false false S0 S → dc_pw (mm_doubt_L12 S x1 x2 x3 x4) (fun q => md_fr [0] [] false false S0 q.1) := by
    intro S x1 x2 x3 x4 hf
    delta mm_doubt_L12
    refine pw_any ?_
    rintro ⟨z0, z1⟩
    exact lab_148 S x1 z0 z1 hf
  have hf : md_fr [0] [] false false S0 S0 := md_fr_rf
  delta mm_doubt
  refine pwS_i (by decide) hf ?_
  intro S9 hf
  exact lab_12 S9 p1 (-1) 0 0 hf
theorem mm_ever_fr (S0 : md_S) (p1 : Int32) : dc_pw (mm_ever S0 p1) (fun q => md_fr [0] [] false false S0 q.1) := by
  have lab_64 : ∀ (S : md_S) (y0 : Int32), md_fr [0] [] false false S0 S → dc_pw (mm_ever_L64 S y0) (fun q => md_fr [0] [] false false S0 q.1) := by
    intro S y0 hf
    delta mm_ever_L64
    exact pw_some hf
  have lab_32 : ∀ (S : md_S), md_fr [0] [] false false S0 S → dc_pw (mm_ever_L32 S) (fun q => md_fr [0] [] false false S0 q.1) := by
    intro S  hf
    delta mm_ever_L32
    exact pw_some hf
  have hf : md_fr [0] [] false false S0 S0 := md_fr_rf
  delta mm_ever
  refine pwS_i (by decide) hf ?_
  intro S1 hf
  refine pw_if ?_ ?_
  · exact lab_32 S1 hf
  · refine pw_if ?_ ?_
    · exact lab_32 S1 hf
    · refine pw_if ?_ ?_
      · refine pw_any ?_
        intro q2
        refine pw_if ?_ ?_
        · exact lab_32 S1 hf
        · refine pw_any ?_
          intro q3
          refine pw_if ?_ ?_
          · exact lab_64 S1 0 hf
          · refine pw_any ?_
            intro q4
            refine pw_if ?_ ?_
            · exact lab_64 S1 2 hf
            · exact lab_64 S1 1 hf
      · exact lab_32 S1 hf
theorem mm_together_fr (S0 : md_S) (p1 : Int32) (p2 : Int32) : dc_pw (mm_together S0 p1 p2) (fun q => md_fr [0] [] false false S0 q.1) := by
  have lab_69 : ∀ (S : md_S) (y0 : Int32), md_fr [0] [] false false S0 S → dc_pw (mm_together_L69 S y0) (fun q => md_fr [0] [] false false S0 q.1) := by
    intro S y0 hf
    delta mm_together_L69
    exact pw_some hf
  have lab_49 : ∀ (S : md_S) (x1 : Int32) (x2 : Int32) (y0 : Int32), md_fr [0] [] false false S0 S → dc_pw (mm_together_L49 S x1 x2 y0) (fun q => md_fr [0] [] false false S0 q.1) := by
    intro S x1 x2 y0 hf
    delta mm_together_L49
    refine pw_if ?_ ?_
    · refine pw_any ?_
      intro q1
      exact lab_69 S q1 hf
    · exact lab_69 S (-1) hf
  have lab_44 : ∀ (S : md_S) (x1 : Int32) (x2 : Int32), md_fr [0] [] false false S0 S → dc_pw (mm_together_L44 S x1 x2) (fun q => md_fr [0] [] false false S0 q.1) := by
    intro S x1 x2 hf
    delta mm_together_L44
    exact lab_49 S x1 x2 1 hf
  have hf : md_fr [0] [] false false S0 S0 := md_fr_rf
  delta mm_together
  refine pwS_i (by decide) hf ?_
  intro S2 hf
  refine pw_if ?_ ?_
  · exact lab_44 S2 p1 p2 hf
  · refine pw_if ?_ ?_
    · exact lab_44 S2 p1 p2 hf
    · refine pw_if ?_ ?_
      · refine pw_if ?_ ?_
        · exact lab_44 S2 p1 p2 hf
        · refine pw_if ?_ ?_
          · refine pw_any ?_
            intro q3
            refine pw_if ?_ ?_
            · exact lab_44 S2 p1 p2 hf
            · exact lab_49 S2 p1 p2 0 hf
          · exact lab_44 S2 p1 p2 hf
      · exact lab_44 S2 p1 p2 hf
theorem mm_classes_fr (S0 : md_S) : dc_pw (mm_classes S0) (fun q => md_fr [0] [] false false S0 q.1) := by
  have lab_62 : ∀ (S : md_S) (x1 : Int32), md_fr [0] [] false false S0 S → dc_pw (mm_classes_L62 S x1) (fun q => md_fr [0] [] false false S0 q.1) := by
    intro S x1 hf
    delta mm_classes_L62
    exact pw_some hf
  have lab_26 : ∀ (S : md_S) (x1 : Int32) (x2 : Int32), md_fr [0] [] false false S0 S → dc_pw (mm_classes_L26 S x1 x2) (fun q => md_fr [0] [] false false S0 q.1) := by
    intro S x1 x2 hf
    delta mm_classes_L26
    refine pw_any ?_
    rintro z0
    exact lab_62 S z0 hf
  have lab_13 : ∀ (S : md_S) (y0 : Int32), md_fr [0] [] false false S0 S → dc_pw (mm_classes_L13 S y0) (fun q => md_fr [0] [] false false S0 q.1) := by
    intro S y0 hf
    delta mm_classes_L13
    refine pwS_call (mm_fails_fr S y0 0) (by decide) hf ?_
    intro q4 hf
    refine pw_if ?_ ?_
    · exact lab_26 q4.1 0 0 hf
    · exact pw_some hf
  have hf : md_fr [0] [] false false S0 S0 := md_fr_rf
  delta mm_classes
  refine pw_if ?_ ?_
  · exact lab_13 S0 1 hf
  · exact lab_13 S0 0 hf
theorem mm_alike_fr (S0 : md_S) (p1 : Int32) : dc_pw (mm_alike S0 p1) (fun q => md_fr [0] [] false false S0 q.1) := by
  have lab_25 : ∀ (S : md_S) (y0 : Int32), md_fr [0] [] false false S0 S → dc_pw (mm_alike_L25 S y0) (fun q => md_fr [0] [] false false S0 q.1) := by
    intro S y0 hf
    delta mm_alike_L25
    exact pw_some hf
  have hf : md_fr [0] [] false false S0 S0 := md_fr_rf
  delta mm_alike
  refine pwS_i (by decide) hf ?_
  intro S1 hf
  refine pw_any ?_
  intro q2
  refine pw_if ?_ ?_
  · exact lab_25 S1 (-1) hf
  · refine pw_any ?_
    intro q3
    exact lab_25 S1 q3 hf
theorem mm_tables_fr (S0 : md_S) : dc_pw (mm_tables S0) (fun q => md_fr [] [] false true S0 q) := by
  have lab_264 : ∀ (S : md_S), md_fr [] [] false true S0 S → dc_pw (mm_tables_L264 S) (fun q => md_fr [] [] false true S0 q) := by
    intro S  hf
    delta mm_tables_L264
    exact pw_some hf
  have lab_257 : ∀ (S : md_S) (x1 : Int32) (y0 : Int64) (y1 : Int32), md_fr [] [] false true S0 S → dc_pw (mm_tables_L257 S x1 y0 y1) (Sum.elim (fun (q : md_S × Int32) => md_fr [] [] false true S0 q.1) (fun (q : md_S) => md_fr [] [] false true S0 q)) := by
    intro S x1 y0 y1 hf
    delta mm_tables_L257
    refine pw_any ?_
    intro j1
    refine pwS_t hf ?_
    intro S2 hf
    exact pw_some hf
  have lab_225 : ∀ (S : md_S) (x1 : Int32) (x5 : Int32) (x6 : Int64), md_fr [] [] false true S0 S → dc_pw (mm_tables_L225 S x1 x5 x6) (Sum.elim (fun (q : md_S × Int32) => md_fr [] [] false true S0 q.1) (fun (q : md_S) => md_fr [] [] false true S0 q)) := by
    intro S x1 x5 x6 hf
    delta mm_tables_L225
    refine pw_if ?_ ?_
    · exact lab_257 S x1 (x6 ||| ((1 : Int64) <<< (Int32.toInt64 ((S.1 46) + (S.1 47)) &&& 63))) x1 hf
    · exact lab_257 S x1 x6 x1 hf
  have lab_167 : ∀ (S : md_S) (x1 : Int32) (x5 : Int32) (x6 : Int64) (x8 : Int32), md_fr [] [] false true S0 S → dc_pw (mm_tables_L167 S x1 x5 x6 x8) (Sum.elim (fun (q : md_S × Int32) => md_fr [] [] false true S0 q.1) (fun (q : md_S) => md_fr [] [] false true S0 q)) := by
    intro S x1 x5 x6 x8 hf
    delta mm_tables_L167
    refine pw_any ?_
    rintro z0
    exact lab_225 S x1 x5 z0 hf
  have lab_162 : ∀ (S : md_S) (x1 : Int32) (x5 : Int32) (y0 : Int64), md_fr [] [] false true S0 S → dc_pw (mm_tables_L162 S x1 x5 y0) (Sum.elim (fun (q : md_S × Int32) => md_fr [] [] false true S0 q.1) (fun (q : md_S) => md_fr [] [] false true S0 q)) := by
    intro S x1 x5 y0 hf
    delta mm_tables_L162
    exact lab_167 S x1 x5 y0 0 hf
  have lab_137 : ∀ (S : md_S) (x1 : Int32) (x3 : Int32) (x4 : Int32) (y0 : Int32), md_fr [] [] false true S0 S → dc_pw (mm_tables_L137 S x1 x3 x4 y0) (Sum.elim (fun (q : md_S × Int32) => md_fr [] [] false true S0 q.1) (fun (q : md_S) => md_fr [] [] false true S0 q)) := by
    intro S x1 x3 x4 y0 hf
    delta mm_tables_L137
    refine pw_if ?_ ?_
    · exact lab_162 S x1 y0 0 hf
    · refine pw_any ?_
      intro j4
      exact lab_162 S x1 y0 (Int32.toInt64 (S.2.1 93 j4)) hf
  have lab_121 : ∀ (S : md_S) (x1 : Int32) (x3 : Int32) (x4 : Int32), md_fr [] [] false true S0 S → dc_pw (mm_tables_L121 S x1 x3 x4) (Sum.elim (fun (q : md_S × Int32) => md_fr [] [] false true S0 q.1) (fun (q : md_S) => md_fr [] [] false true S0 q)) := by
    intro S x1 x3 x4 hf
    delta mm_tables_L121
    exact lab_137 S x1 x3 x4 (-1) hf
  have lab_103 : ∀ (S : md_S) (x1 : Int32) (x3 : Int32) (y0 : Int32), md_fr [] [] false true S0 S → dc_pw (mm_tables_L103 S x1 x3 y0) (Sum.elim (fun (q : md_S × Int32) => md_fr [] [] false true S0 q.1) (fun (q : md_S) => md_fr [] [] false true S0 q)) := by
    intro S x1 x3 y0 hf
    delta mm_tables_L103
    refine pw_if ?_ ?_
    · exact lab_121 S x1 x3 y0 hf
    · refine pw_if ?_ ?_
      · refine pw_any ?_
        intro j5
        exact lab_137 S x1 x3 y0 (S.2.1 92 j5) hf
      · exact lab_121 S x1 x3 y0 hf
  have lab_73 : ∀ (S : md_S) (x1 : Int32) (x2 : Int32) (x3 : Int32), md_fr [] [] false true S0 S → dc_pw (mm_tables_L73 S x1 x2 x3) (Sum.elim (fun (q : md_S × Int32) => md_fr [] [] false true S0 q.1) (fun (q : md_S) => md_fr [] [] false true S0 q)) := by
    intro S x1 x2 x3 hf
    delta mm_tables_L73
    refine pw_if ?_ ?_
    · refine pw_any ?_
      intro q6
      exact lab_103 S x1 x3 q6 hf
    · refine pw_if ?_ ?_
      · refine pw_any ?_
        intro q7
        exact lab_103 S x1 x3 q7 hf
      · exact lab_103 S x1 x3 (-1) hf
  have lab_47 : ∀ (S : md_S) (x1 : Int32) (x2 : Int32) (x3 : Int32) (x4 : Int32), md_fr [] [] false true S0 S → dc_pw (mm_tables_L47 S x1 x2 x3 x4) (Sum.elim (fun (q : md_S × Int32) => md_fr [] [] false true S0 q.1) (fun (q : md_S) => md_fr [] [] false true S0 q)) := by
    intro S x1 x2 x3 x4 hf
    delta mm_tables_L47
    refine pw_any ?_
    rintro z0
    exact lab_73 S x1 x2 z0 hf
  have lab_44 : ∀ (S : md_S) (x1 : Int32) (x2 : Int32) (x3 : Int32), md_fr [] [] false true S0 S → dc_pw (mm_tables_L44 S x1 x2 x3) (Sum.elim (fun (q : md_S × Int32) => md_fr [] [] false true S0 q.1) (fun (q : md_S) => md_fr [] [] false true S0 q)) := by
    intro S x1 x2 x3 hf
    delta mm_tables_L44
    exact lab_47 S x1 x2 x3 0 hf
  have lab_16 : ∀ (S : md_S) (x1 : Int32) (x2 : Int32) (x3 : Int32) (x4 : Int32), md_fr [] [] false true S0 S → dc_pw (mm_tables_L16 S x1 x2 x3 x4) (Sum.elim (fun (q : md_S × Int32) => md_fr [] [] false true S0 q.1) (fun (q : md_S) => md_fr [] [] false true S0 q)) := by
    intro S x1 x2 x3 x4 hf
    delta mm_tables_L16
    refine pw_any ?_
    rintro z0
    exact lab_44 S x1 z0 x3 hf
  have body_2 : ∀ (S : md_S) (x1 : Int32), md_fr [] [] false true S0 S → dc_pw (mm_tables_b2 S x1) (Sum.elim (fun (q : md_S × Int32) => md_fr [] [] false true S0 q.1) (fun (q : md_S) => md_fr [] [] false true S0 q)) := by
    intro S x1 hf
    delta mm_tables_b2
    refine pw_if ?_ ?_
    · exact lab_16 S x1 0 0 0 hf
    · exact pw_some hf
  have lab_2 : ∀ (S : md_S) (x1 : Int32), md_fr [] [] false true S0 S → dc_pw (mm_tables_L2 S x1) (fun q => md_fr [] [] false true S0 q) := by
    intro S x1 hf
    delta mm_tables_L2
    refine pw_loop (fun (q : md_S × Int32) => md_fr [] [] false true S0 q.1) (fun (q : md_S) => md_fr [] [] false true S0 q) hf ?_ ?_
    · rintro ⟨S, x1⟩ hf
      exact body_2 S x1 hf
    · rintro Sz hf
      exact lab_264 Sz hf
  have hf : md_fr [] [] false true S0 S0 := md_fr_rf
  delta mm_tables
  exact lab_2 S0 0 hf
theorem mm_multiplexer_fr (S0 : md_S) (p1 : Int32) (p2 : Int32) (p3 : Int32) : dc_pw (mm_multiplexer S0 p1 p2 p3) (fun q => md_fr [106] [101, 102, 103, 104] false false S0 q.1) := by
  have lab_95 : ∀ (S : md_S) (x1 : Int32) (x2 : Int32) (x3 : Int32) (x4 : Int32), md_fr [106] [101, 102, 103, 104] false false S0 S → dc_pw (mm_multiplexer_L95 S x1 x2 x3 x4) (fun q => md_fr [106] [101, 102, 103, 104] false false S0 q.1) := by
    intro S x1 x2 x3 x4 hf
    delta mm_multiplexer_L95
    refine pw_any ?_
    intro j1
    refine pwS_a (by decide) hf ?_
    intro S2 hf
    refine pw_any ?_
    intro j3
    refine pwS_a (by decide) hf ?_
    intro S4 hf
    refine pw_any ?_
    intro j5
    refine pwS_a (by decide) hf ?_
    intro S6 hf
    refine pwS_i (by decide) hf ?_
    intro S7 hf
    refine pw_any ?_
    intro j8
    refine pwS_a (by decide) hf ?_
    intro S9 hf
    exact pw_some hf
  have lab_80 : ∀ (S : md_S) (x5 : Int32), md_fr [106] [101, 102, 103, 104] false false S0 S → dc_pw (mm_multiplexer_L80 S x5) (fun q => md_fr [106] [101, 102, 103, 104] false false S0 q.1) := by
    intro S x5 hf
    delta mm_multiplexer_L80
    exact pw_some hf
  have lab_26 : ∀ (S : md_S) (x1 : Int32) (x2 : Int32) (x3 : Int32) (x4 : Int32), md_fr [106] [101, 102, 103, 104] false false S0 S → dc_pw (mm_multiplexer_L26 S x1 x2 x3 x4) (fun q => md_fr [106] [101, 102, 103, 104] false false S0 q.1) := by
    intro S x1 x2 x3 x4 hf
    delta mm_multiplexer_L26
    refine pw_any ?_
    rintro (z0 | z0)
    · exact lab_80 S z0 hf
    · exact lab_95 S x1 x2 x3 z0 hf
  have hf : md_fr [106] [101, 102, 103, 104] false false S0 S0 := md_fr_rf
  delta mm_multiplexer
  refine pw_let ?_
  intro v17
  exact lab_26 S0 p1 p2 p3 v17 hf
theorem mm_lay_0_fr (S0 : md_S) : dc_pw (mm_lay_0 S0) (fun q => md_fr [0, 86, 106] [99, 100, 101, 102, 103, 104] false true S0 q.1) := by
  have lab_204 : ∀ (S : md_S), md_fr [0, 86, 106] [99, 100, 101, 102, 103, 104] false true S0 S → dc_pw (mm_lay_0_L204 S) (fun q => md_fr [0, 86, 106] [99, 100, 101, 102, 103, 104] false true S0 q.1) := by
    intro S  hf
    delta mm_lay_0_L204
    refine pwS_i (by decide) hf ?_
    intro S1 hf
    exact pw_some hf
  have lab_186 : ∀ (S : md_S) (x1 : Int32), md_fr [0, 86, 106] [99, 100, 101, 102, 103, 104] false true S0 S → dc_pw (mm_lay_0_L186 S x1) (Sum.elim (fun (q : md_S × Int32) => md_fr [0, 86, 106] [99, 100, 101, 102, 103, 104] false true S0 q.1) (fun (q : md_S) => md_fr [0, 86, 106] [99, 100, 101, 102, 103, 104] false true S0 q)) := by
    intro S x1 hf
    delta mm_lay_0_L186
    refine pw_any ?_
    intro j2
    refine pw_any ?_
    intro j3
    refine pwS_a (by decide) hf ?_
    intro S4 hf
    exact pw_some hf
  have lab_180 : ∀ (S : md_S) (x1 : Int32) (x2 : Int32), md_fr [0, 86, 106] [99, 100, 101, 102, 103, 104] false true S0 S → dc_pw (mm_lay_0_L180 S x1 x2) (Sum.elim (fun (q : md_S × Int32) => md_fr [0, 86, 106] [99, 100, 101, 102, 103, 104] false true S0 q.1) (fun (q : md_S) => md_fr [0, 86, 106] [99, 100, 101, 102, 103, 104] false true S0 q)) := by
    intro S x1 x2 hf
    delta mm_lay_0_L180
    exact pw_some hf
  have lab_173 : ∀ (S : md_S) (x1 : Int32) (x2 : Int32) (x3 : Int32) (y0 : Int32) (y1 : Int32), md_fr [0, 86, 106] [99, 100, 101, 102, 103, 104] false true S0 S → dc_pw (mm_lay_0_L173 S x1 x2 x3 y0 y1) (Sum.elim (fun (q : md_S × Int32) => md_fr [0, 86, 106] [99, 100, 101, 102, 103, 104] false true S0 q.1) (fun (q : md_S) => md_fr [0, 86, 106] [99, 100, 101, 102, 103, 104] false true S0 q)) := by
    intro S x1 x2 x3 y0 y1 hf
    delta mm_lay_0_L173
    refine pw_any ?_
    intro j5
    refine pwS_a (by decide) hf ?_
    intro S6 hf
    exact pw_some hf
  have body_118 : ∀ (S : md_S) (x1 : Int32) (x2 : Int32) (x3 : Int32), md_fr [0, 86, 106] [99, 100, 101, 102, 103, 104] false true S0 S → dc_pw (mm_lay_0_b118 S x1 x2 x3) (Sum.elim (fun (q : md_S × Int32) => md_fr [0, 86, 106] [99, 100, 101, 102, 103, 104] false true S0 q.1) (fun (q : md_S) => md_fr [0, 86, 106] [99, 100, 101, 102, 103, 104] false true S0 q)) := by
    intro S x1 x2 x3 hf
    delta mm_lay_0_b118
    refine pw_if ?_ ?_
    · refine pw_any ?_
      intro j7
      refine pw_let ?_
      intro v8
      refine pw_any ?_
      intro j9
      refine pw_let ?_
      intro v10
      refine pw_if ?_ ?_
      · exact lab_173 S x1 x2 x3 v8 x3 hf
      · refine pwS_call (mm_multiplexer_fr S x2 v8 v10) (by decide) hf ?_
        intro q11 hf
        exact lab_173 q11.1 x1 x2 x3 q11.2 x3 hf
    · exact pw_some hf
  have lab_118 : ∀ (S : md_S) (x1 : Int32) (x2 : Int32) (x3 : Int32), md_fr [0, 86, 106] [99, 100, 101, 102, 103, 104] false true S0 S → dc_pw (mm_lay_0_L118 S x1 x2 x3) (Sum.elim (fun (q : md_S × Int32) => md_fr [0, 86, 106] [99, 100, 101, 102, 103, 104] false true S0 q.1) (fun (q : md_S) => md_fr [0, 86, 106] [99, 100, 101, 102, 103, 104] false true S0 q)) := by
    intro S x1 x2 x3 hf
    delta mm_lay_0_L118
    refine pw_loop (fun (q : md_S × Int32) => md_fr [0, 86, 106] [99, 100, 101, 102, 103, 104] false true S0 q.1) (fun (q : md_S) => md_fr [0, 86, 106] [99, 100, 101, 102, 103, 104] false true S0 q) hf ?_ ?_
    · rintro ⟨S, x3⟩ hf
      exact body_118 S x1 x2 x3 hf
    · rintro Sz hf
      exact lab_180 Sz x1 x2 hf
  have body_112 : ∀ (S : md_S) (x1 : Int32) (x2 : Int32), md_fr [0, 86, 106] [99, 100, 101, 102, 103, 104] false true S0 S → dc_pw (mm_lay_0_b112 S x1 x2) (Sum.elim (fun (q : md_S × Int32) => md_fr [0, 86, 106] [99, 100, 101, 102, 103, 104] false true S0 q.1) (fun (q : md_S) => md_fr [0, 86, 106] [99, 100, 101, 102, 103, 104] false true S0 q)) := by
    intro S x1 x2 hf
    delta mm_lay_0_b112
    refine pw_if ?_ ?_
    · exact pw_some hf
    · exact lab_118 S x1 x2 0 hf
  have lab_112 : ∀ (S : md_S) (x1 : Int32) (x2 : Int32), md_fr [0, 86, 106] [99, 100, 101, 102, 103, 104] false true S0 S → dc_pw (mm_lay_0_L112 S x1 x2) (Sum.elim (fun (q : md_S × Int32) => md_fr [0, 86, 106] [99, 100, 101, 102, 103, 104] false true S0 q.1) (fun (q : md_S) => md_fr [0, 86, 106] [99, 100, 101, 102, 103, 104] false true S0 q)) := by
    intro S x1 x2 hf
    delta mm_lay_0_L112
    refine pw_loop (fun (q : md_S × Int32) => md_fr [0, 86, 106] [99, 100, 101, 102, 103, 104] false true S0 q.1) (fun (q : md_S) => md_fr [0, 86, 106] [99, 100, 101, 102, 103, 104] false true S0 q) hf ?_ ?_
    · rintro ⟨S, x2⟩ hf
      exact body_112 S x1 x2 hf
    · rintro Sz hf
      exact lab_186 Sz x1 hf
  have lab_109 : ∀ (S : md_S) (x1 : Int32), md_fr [0, 86, 106] [99, 100, 101, 102, 103, 104] false true S0 S → dc_pw (mm_lay_0_L109 S x1) (Sum.elim (fun (q : md_S × Int32) => md_fr [0, 86, 106] [99, 100, 101, 102, 103, 104] false true S0 q.1) (fun (q : md_S) => md_fr [0, 86, 106] [99, 100, 101, 102, 103, 104] false true S0 q)) := by
    intro S x1 hf
    delta mm_lay_0_L109
    exact lab_112 S x1 12 hf
  have lab_102 : ∀ (S : md_S) (x1 : Int32) (x2 : Int32) (y0 : Int32) (y1 : Int32), md_fr [0, 86, 106] [99, 100, 101, 102, 103, 104] false true S0 S → dc_pw (mm_lay_0_L102 S x1 x2 y0 y1) (Sum.elim (fun (q : md_S × Int32) => md_fr [0, 86, 106] [99, 100, 101, 102, 103, 104] false true S0 q.1) (fun (q : md_S) => md_fr [0, 86, 106] [99, 100, 101, 102, 103, 104] false true S0 q)) := by
    intro S x1 x2 y0 y1 hf
    delta mm_lay_0_L102
    refine pw_any ?_
    intro j12
    refine pwS_a (by decide) hf ?_
    intro S13 hf
    exact pw_some hf
  have body_69 : ∀ (S : md_S) (x1 : Int32) (x2 : Int32), md_fr [0, 86, 106] [99, 100, 101, 102, 103, 104] false true S0 S → dc_pw (mm_lay_0_b69 S x1 x2) (Sum.elim (fun (q : md_S × Int32) => md_fr [0, 86, 106] [99, 100, 101, 102, 103, 104] false true S0 q.1) (fun (q : md_S) => md_fr [0, 86, 106] [99, 100, 101, 102, 103, 104] false true S0 q)) := by
    intro S x1 x2 hf
    delta mm_lay_0_b69
    refine pw_if ?_ ?_
    · refine pw_any ?_
      intro j14
      refine pw_if ?_ ?_
      · exact lab_102 S x1 x2 (-1) x2 hf
      · exact lab_102 S x1 x2 (-2) x2 hf
    · exact pw_some hf
  have lab_69 : ∀ (S : md_S) (x1 : Int32) (x2 : Int32), md_fr [0, 86, 106] [99, 100, 101, 102, 103, 104] false true S0 S → dc_pw (mm_lay_0_L69 S x1 x2) (Sum.elim (fun (q : md_S × Int32) => md_fr [0, 86, 106] [99, 100, 101, 102, 103, 104] false true S0 q.1) (fun (q : md_S) => md_fr [0, 86, 106] [99, 100, 101, 102, 103, 104] false true S0 q)) := by
    intro S x1 x2 hf
    delta mm_lay_0_L69
    refine pw_loop (fun (q : md_S × Int32) => md_fr [0, 86, 106] [99, 100, 101, 102, 103, 104] false true S0 q.1) (fun (q : md_S) => md_fr [0, 86, 106] [99, 100, 101, 102, 103, 104] false true S0 q) hf ?_ ?_
    · rintro ⟨S, x2⟩ hf
      exact body_69 S x1 x2 hf
    · rintro Sz hf
      exact lab_109 Sz x1 hf
  have body_54 : ∀ (S : md_S) (x1 : Int32), md_fr [0, 86, 106] [99, 100, 101, 102, 103, 104] false true S0 S → dc_pw (mm_lay_0_b54 S x1) (Sum.elim (fun (q : md_S × Int32) => md_fr [0, 86, 106] [99, 100, 101, 102, 103, 104] false true S0 q.1) (fun (q : md_S) => md_fr [0, 86, 106] [99, 100, 101, 102, 103, 104] false true S0 q)) := by
    intro S x1 hf
    delta mm_lay_0_b54
    refine pw_if ?_ ?_
    · exact pw_some hf
    · exact lab_69 S x1 0 hf
  have lab_54 : ∀ (S : md_S) (x1 : Int32), md_fr [0, 86, 106] [99, 100, 101, 102, 103, 104] false true S0 S → dc_pw (mm_lay_0_L54 S x1) (fun q => md_fr [0, 86, 106] [99, 100, 101, 102, 103, 104] false true S0 q.1) := by
    intro S x1 hf
    delta mm_lay_0_L54
    refine pw_loop (fun (q : md_S × Int32) => md_fr [0, 86, 106] [99, 100, 101, 102, 103, 104] false true S0 q.1) (fun (q : md_S) => md_fr [0, 86, 106] [99, 100, 101, 102, 103, 104] false true S0 q) hf ?_ ?_
    · rintro ⟨S, x1⟩ hf
      exact body_54 S x1 hf
    · rintro Sz hf
      exact lab_204 Sz hf
  have lab_52 : ∀ (S : md_S), md_fr [0, 86, 106] [99, 100, 101, 102, 103, 104] false true S0 S → dc_pw (mm_lay_0_L52 S) (fun q => md_fr [0, 86, 106] [99, 100, 101, 102, 103, 104] false true S0 q.1) := by
    intro S  hf
    delta mm_lay_0_L52
    exact lab_54 S 0 hf
  have body_33 : ∀ (S : md_S) (x1 : Int32), md_fr [0, 86, 106] [99, 100, 101, 102, 103, 104] false true S0 S → dc_pw (mm_lay_0_b33 S x1) (Sum.elim (fun (q : md_S × Int32) => md_fr [0, 86, 106] [99, 100, 101, 102, 103, 104] false true S0 q.1) (fun (q : md_S) => md_fr [0, 86, 106] [99, 100, 101, 102, 103, 104] false true S0 q)) := by
    intro S x1 hf
    delta mm_lay_0_b33
    refine pw_if ?_ ?_
    · refine pw_any ?_
      intro j15
      refine pwS_a (by decide) hf ?_
      intro S16 hf
      exact pw_some hf
    · exact pw_some hf
  have lab_33 : ∀ (S : md_S) (x1 : Int32), md_fr [0, 86, 106] [99, 100, 101, 102, 103, 104] false true S0 S → dc_pw (mm_lay_0_L33 S x1) (fun q => md_fr [0, 86, 106] [99, 100, 101, 102, 103, 104] false true S0 q.1) := by
    intro S x1 hf
    delta mm_lay_0_L33
    refine pw_loop (fun (q : md_S × Int32) => md_fr [0, 86, 106] [99, 100, 101, 102, 103, 104] false true S0 q.1) (fun (q : md_S) => md_fr [0, 86, 106] [99, 100, 101, 102, 103, 104] false true S0 q) hf ?_ ?_
    · rintro ⟨S, x1⟩ hf
      exact body_33 S x1 hf
    · rintro Sz hf
      exact lab_52 Sz hf
  have lab_13 : ∀ (S : md_S) (y0 : Int32), md_fr [0, 86, 106] [99, 100, 101, 102, 103, 104] false true S0 S → dc_pw (mm_lay_0_L13 S y0) (fun q => md_fr [0, 86, 106] [99, 100, 101, 102, 103, 104] false true S0 q.1) := by
    intro S y0 hf
    delta mm_lay_0_L13
    refine pwS_call (mm_fails_fr S y0 0) (by decide) hf ?_
    intro q17 hf
    refine pw_if ?_ ?_
    · refine pwS_callv (mm_tables_fr q17.1) (by decide) hf ?_
      intro q18 hf
      refine pwS_i (by decide) hf ?_
      intro S19 hf
      exact lab_33 S19 0 hf
    · exact pw_some hf
  have hf : md_fr [0, 86, 106] [99, 100, 101, 102, 103, 104] false true S0 S0 := md_fr_rf
  delta mm_lay_0
  refine pw_if ?_ ?_
  · exact lab_13 S0 1 hf
  · exact lab_13 S0 0 hf
theorem mm_pass_fr (S0 : md_S) (p1 : Int32) : dc_pw (mm_pass S0 p1) (fun q => md_fr [0] [] false false S0 q.1) := by
  have lab_36 : ∀ (S : md_S) (x1 : Int32) (y0 : Int32) (y1 : Int32), md_fr [0] [] false false S0 S → dc_pw (mm_pass_L36 S x1 y0 y1) (fun q => md_fr [0] [] false false S0 q.1) := by
    intro S x1 y0 y1 hf
    delta mm_pass_L36
    refine pwS_call (mm_fails_fr S y1 y0) (by decide) hf ?_
    intro q1 hf
    refine pw_if ?_ ?_
    · refine pw_any ?_
      intro j2
      exact pw_some hf
    · exact pw_some hf
  have lab_35 : ∀ (S : md_S) (x1 : Int32) (y0 : Int32), md_fr [0] [] false false S0 S → dc_pw (mm_pass_L35 S x1 y0) (fun q => md_fr [0] [] false false S0 q.1) := by
    intro S x1 y0 hf
    delta mm_pass_L35
    exact lab_36 S x1 0 y0 hf
  have lab_31 : ∀ (S : md_S) (x1 : Int32) (y0 : Int32), md_fr [0] [] false false S0 S → dc_pw (mm_pass_L31 S x1 y0) (fun q => md_fr [0] [] false false S0 q.1) := by
    intro S x1 y0 hf
    delta mm_pass_L31
    exact lab_36 S x1 1 y0 hf
  have lab_13 : ∀ (S : md_S) (x1 : Int32) (y0 : Int32), md_fr [0] [] false false S0 S → dc_pw (mm_pass_L13 S x1 y0) (fun q => md_fr [0] [] false false S0 q.1) := by
    intro S x1 y0 hf
    delta mm_pass_L13
    refine pw_if ?_ ?_
    · exact lab_35 S x1 y0 hf
    · refine pw_if ?_ ?_
      · exact lab_31 S x1 y0 hf
      · refine pw_if ?_ ?_
        · exact lab_31 S x1 y0 hf
        · exact lab_35 S x1 y0 hf
  have hf : md_fr [0] [] false false S0 S0 := md_fr_rf
  delta mm_pass
  refine pw_if ?_ ?_
  · exact lab_13 S0 p1 1 hf
  · exact lab_13 S0 p1 0 hf
theorem mm_level_fr (S0 : md_S) (p1 : Int32) : dc_pw (mm_level S0 p1) (fun q => md_fr [0] [] false false S0 q.1) := by
  have lab_48 : ∀ (S : md_S) (x2 : Int32), md_fr [0] [] false false S0 S → dc_pw (mm_level_L48 S x2) (fun q => md_fr [0] [] false false S0 q.1) := by
    intro S x2 hf
    delta mm_level_L48
    exact pw_some hf
  have lab_9 : ∀ (S : md_S) (x1 : Int32) (x2 : Int32) (x3 : Int32), md_fr [0] [] false false S0 S → dc_pw (mm_level_L9 S x1 x2 x3) (fun q => md_fr [0] [] false false S0 q.1) := by
    intro S x1 x2 x3 hf
    delta mm_level_L9
    refine pw_any ?_
    rintro z0
    exact lab_48 S z0 hf
  have hf : md_fr [0] [] false false S0 S0 := md_fr_rf
  delta mm_level
  refine pwS_i (by decide) hf ?_
  intro S3 hf
  exact lab_9 S3 p1 0 0 hf
theorem mm_size_fr (S0 : md_S) (p1 : Int32) : dc_pw (mm_size S0 p1) (fun q => md_fr [0] [105] false false S0 q.1) := by
  have lab_144 : ∀ (S : md_S) (x2 : Int32), md_fr [0] [105] false false S0 S → dc_pw (mm_size_L144 S x2) (fun q => md_fr [0] [105] false false S0 q.1) := by
    intro S x2 hf
    delta mm_size_L144
    exact pw_some hf
  have lab_138 : ∀ (S : md_S) (x2 : Int32) (x3 : Int32), md_fr [0] [105] false false S0 S → dc_pw (mm_size_L138 S x2 x3) (Sum.elim (fun (q : md_S × Int32 × Int32) => md_fr [0] [105] false false S0 q.1) (fun (q : md_S × Int32) => md_fr [0] [105] false false S0 q.1)) := by
    intro S x2 x3 hf
    delta mm_size_L138
    exact pw_some hf
  have lab_117 : ∀ (S : md_S) (x2 : Int32) (x3 : Int32), md_fr [0] [105] false false S0 S → dc_pw (mm_size_L117 S x2 x3) (Sum.elim (fun (q : md_S × Int32 × Int32) => md_fr [0] [105] false false S0 q.1) (fun (q : md_S × Int32) => md_fr [0] [105] false false S0 q.1)) := by
    intro S x2 x3 hf
    delta mm_size_L117
    refine pw_any ?_
    intro j1
    refine pw_if ?_ ?_
    · exact lab_138 S x2 x3 hf
    · refine pw_any ?_
      intro j2
      refine pw_any ?_
      intro j3
      refine pwS_a (by decide) hf ?_
      intro S4 hf
      exact lab_138 S4 x2 x3 hf
  have body_77 : ∀ (S : md_S) (x2 : Int32) (x3 : Int32), md_fr [0] [105] false false S0 S → dc_pw (mm_size_b77 S x2 x3) (Sum.elim (fun (q : md_S × Int32 × Int32) => md_fr [0] [105] false false S0 q.1) (fun (q : md_S × Int32) => md_fr [0] [105] false false S0 q.1)) := by
    intro S x2 x3 hf
    delta mm_size_b77
    refine pw_if ?_ ?_
    · exact pw_some hf
    · refine pw_any ?_
      intro j5
      refine pw_if ?_ ?_
      · exact lab_138 S x2 x3 hf
      · refine pw_any ?_
        intro j6
        refine pw_if ?_ ?_
        · exact lab_117 S (x2 + 1) x3 hf
        · refine pw_any ?_
          intro j7
          refine pw_any ?_
          intro j8
          refine pwS_a (by decide) hf ?_
          intro S9 hf
          exact lab_117 S9 (x2 + 1) x3 hf
  have lab_77 : ∀ (S : md_S) (x2 : Int32) (x3 : Int32), md_fr [0] [105] false false S0 S → dc_pw (mm_size_L77 S x2 x3) (fun q => md_fr [0] [105] false false S0 q.1) := by
    intro S x2 x3 hf
    delta mm_size_L77
    refine pw_loop (fun (q : md_S × Int32 × Int32) => md_fr [0] [105] false false S0 q.1) (fun (q : md_S × Int32) => md_fr [0] [105] false false S0 q.1) hf ?_ ?_
    · rintro ⟨S, x2, x3⟩ hf
      exact body_77 S x2 x3 hf
    · rintro ⟨Sz, z0⟩ hf
      exact lab_144 Sz z0 hf
  have lab_68 : ∀ (S : md_S), md_fr [0] [105] false false S0 S → dc_pw (mm_size_L68 S) (fun q => md_fr [0] [105] false false S0 q.1) := by
    intro S  hf
    delta mm_size_L68
    refine pw_let ?_
    intro v10
    exact lab_77 S 0 v10 hf
  have lab_61 : ∀ (S : md_S) (x1 : Int32) (x2 : Int32) (y0 : Int32) (y1 : Int32), md_fr [0] [105] false false S0 S → dc_pw (mm_size_L61 S x1 x2 y0 y1) (Sum.elim (fun (q : md_S × Int32) => md_fr [0] [105] false false S0 q.1) (fun (q : md_S) => md_fr [0] [105] false false S0 q)) := by
    intro S x1 x2 y0 y1 hf
    delta mm_size_L61
    refine pw_any ?_
    intro _
    refine pw_any ?_
    intro j12
    refine pwS_a (by decide) hf ?_
    intro S13 hf
    exact pw_some hf
  have body_33 : ∀ (S : md_S) (x1 : Int32) (x2 : Int32), md_fr [0] [105] false false S0 S → dc_pw (mm_size_b33 S x1 x2) (Sum.elim (fun (q : md_S × Int32) => md_fr [0] [105] false false S0 q.1) (fun (q : md_S) => md_fr [0] [105] false false S0 q)) := by
    intro S x1 x2 hf
    delta mm_size_b33
    refine pw_if ?_ ?_
    · refine pw_any ?_
      intro j14
      refine pw_if ?_ ?_
      · exact lab_61 S x1 x2 1 x2 hf
      · exact lab_61 S x1 x2 0 x2 hf
    · exact pw_some hf
  have lab_33 : ∀ (S : md_S) (x1 : Int32) (x2 : Int32), md_fr [0] [105] false false S0 S → dc_pw (mm_size_L33 S x1 x2) (fun q => md_fr [0] [105] false false S0 q.1) := by
    intro S x1 x2 hf
    delta mm_size_L33
    refine pw_loop (fun (q : md_S × Int32) => md_fr [0] [105] false false S0 q.1) (fun (q : md_S) => md_fr [0] [105] false false S0 q) hf ?_ ?_
    · rintro ⟨S, x2⟩ hf
      exact body_33 S x1 x2 hf
    · rintro Sz hf
      exact lab_68 Sz hf
  have lab_29 : ∀ (S : md_S), md_fr [0] [105] false false S0 S → dc_pw (mm_size_L29 S) (fun q => md_fr [0] [105] false false S0 q.1) := by
    intro S  hf
    delta mm_size_L29
    exact pw_some hf
  have hf : md_fr [0] [105] false false S0 S0 := md_fr_rf
  delta mm_size
  refine pwS_i (by decide) hf ?_
  intro S15 hf
  refine pw_if ?_ ?_
  · exact lab_29 S15 hf
  · refine pw_if ?_ ?_
    · exact lab_29 S15 hf
    · refine pw_if ?_ ?_
      · exact lab_29 S15 hf
      · exact lab_33 S15 p1 0 hf
theorem mm_count_fr (S0 : md_S) (p1 : Int32) : dc_pw (mm_count S0 p1) (fun q => md_fr [0] [] false false S0 q.1) := by
  have lab_278 : ∀ (S : md_S) (y0 : Int32), md_fr [0] [] false false S0 S → dc_pw (mm_count_L278 S y0) (fun q => md_fr [0] [] false false S0 q.1) := by
    intro S y0 hf
    delta mm_count_L278
    exact pw_some hf
  have lab_261 : ∀ (S : md_S) (x2 : Int32), md_fr [0] [] false false S0 S → dc_pw (mm_count_L261 S x2) (fun q => md_fr [0] [] false false S0 q.1) := by
    intro S x2 hf
    delta mm_count_L261
    exact pw_some hf
  have lab_224 : ∀ (S : md_S) (x2 : Int32) (x3 : Int32), md_fr [0] [] false false S0 S → dc_pw (mm_count_L224 S x2 x3) (fun q => md_fr [0] [] false false S0 q.1) := by
    intro S x2 x3 hf
    delta mm_count_L224
    refine pw_any ?_
    rintro z0
    exact lab_261 S z0 hf
  have lab_221 : ∀ (S : md_S) (y0 : Int32), md_fr [0] [] false false S0 S → dc_pw (mm_count_L221 S y0) (fun q => md_fr [0] [] false false S0 q.1) := by
    intro S y0 hf
    delta mm_count_L221
    exact pw_some hf
  have lab_204 : ∀ (S : md_S) (x2 : Int32), md_fr [0] [] false false S0 S → dc_pw (mm_count_L204 S x2) (fun q => md_fr [0] [] false false S0 q.1) := by
    intro S x2 hf
    delta mm_count_L204
    exact pw_some hf
  have lab_173 : ∀ (S : md_S) (x2 : Int32) (x3 : Int32), md_fr [0] [] false false S0 S → dc_pw (mm_count_L173 S x2 x3) (fun q => md_fr [0] [] false false S0 q.1) := by
    intro S x2 x3 hf
    delta mm_count_L173
    refine pw_any ?_
    rintro z0
    exact lab_204 S z0 hf
  have lab_155 : ∀ (S : md_S) (y0 : Int32), md_fr [0] [] false false S0 S → dc_pw (mm_count_L155 S y0) (fun q => md_fr [0] [] false false S0 q.1) := by
    intro S y0 hf
    delta mm_count_L155
    exact pw_some hf
  have hf : md_fr [0] [] false false S0 S0 := md_fr_rf
  delta mm_count
  refine pwS_i (by decide) hf ?_
  intro S5 hf
  refine pw_let ?_
  intro v6
  refine pw_if ?_ ?_
  · exact pw_some hf
  · refine pw_if ?_ ?_
    · exact pw_some hf
    · refine pw_if ?_ ?_
      · exact pw_some hf
      · refine pw_if ?_ ?_
        · exact pw_some hf
        · refine pw_if ?_ ?_
          · exact pw_some hf
          · refine pw_if ?_ ?_
            · exact pw_some hf
            · refine pw_if ?_ ?_
              · exact pw_some hf
              · refine pw_if ?_ ?_
                · exact pw_some hf
                · refine pw_if ?_ ?_
                  · refine pw_if ?_ ?_
                    · exact lab_155 S5 0 hf
                    · refine pw_any ?_
                      intro j15
                      exact lab_155 S5 (S5.2.1 55 j15) hf
                  · refine pw_if ?_ ?_
                    · exact pw_some hf
                    · refine pw_if ?_ ?_
                      · exact pw_some hf
                      · refine pw_if ?_ ?_
                        · exact pw_some hf
                        · refine pw_if ?_ ?_
                          · exact lab_173 S5 0 0 hf
                          · refine pw_if ?_ ?_
                            · refine pw_if ?_ ?_
                              · exact lab_221 S5 0 hf
                              · exact lab_221 S5 (S5.1 87) hf
                            · refine pw_if ?_ ?_
                              · exact lab_224 S5 0 0 hf
                              · refine pw_if ?_ ?_
                                · refine pw_if ?_ ?_
                                  · exact lab_278 S5 0 hf
                                  · exact lab_278 S5 (S5.1 106) hf
                                · exact pw_some hf
