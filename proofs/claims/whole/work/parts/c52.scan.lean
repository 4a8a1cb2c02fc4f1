/-! the reference's look at the bytes -/
theorem fl_new {M : md_S} {w l : Int32} (h : M.1 10 = 0) : mm_fail M w l = some (md_i M 10 (w + 8 * l)) := by
  delta mm_fail
  rw [if_pos h]
  rfl
theorem fl_old {M : md_S} {w l : Int32} (h : ¬ M.1 10 = 0) : mm_fail M w l = some M := by
  delta mm_fail
  rw [if_neg h]
  rfl
theorem okb_iff {c : Int32} : okb c ↔ (31 < c ∧ c < 127) ∨ c = 9 ∨ c = 10 := by
  have k31 : (31 : Int32).toInt = 31 := by decide
  have k32 : (32 : Int32).toInt = 32 := by decide
  have k126 : (126 : Int32).toInt = 126 := by decide
  have k127 : (127 : Int32).toInt = 127 := by decide
  constructor
  · rintro (h | h | ⟨h1, h2⟩)
    · exact Or.inr (Or.inl h)
    · exact Or.inr (Or.inr h)
    · rw [i_lt] at h1 h2
      exact Or.inl ⟨i_lt.mpr (by omega), i_lt.mpr (by omega)⟩
  · rintro (⟨h1, h2⟩ | h | h)
    · rw [i_lt] at h1 h2
      exact Or.inr (Or.inr ⟨fun z => by rw [i_lt] at z; omega, fun z => by rw [i_lt] at z; omega⟩)
    · exact Or.inl h
    · exact Or.inr (Or.inl h)
theorem f18 {b : Int32} (h1 : 1 ≤ b.toInt) (h2 : b.toInt ≤ 40000) : ¬ 1 + 8 * b = 0 := by
  intro h
  have e1 : (8 * b).toInt = 8 * b.toInt := by rw [i_mulS (by rw [il_8]; omega), il_8]
  have e2 : (1 + 8 * b).toInt = 1 + 8 * b.toInt := by rw [i_addS (by rw [il_1, e1]; omega), il_1, e1]
  have := i_eq.mp h
  rw [e2, il_0] at this
  omega
/-- what the look comes to -/
def scP (M M' : md_S) : Prop := (∀ k, ¬ k = 5 → ¬ k = 10 → M'.1 k = M.1 k) ∧ M'.2 = M.2 ∧
  match ob (M.2.1 1) (M.1 2).toInt.toNat (M.1 2).toInt.toNat 0 (M.1 5) with
  | some b => M'.1 10 = 1 + 8 * b ∧ 1 ≤ b.toInt ∧ b.toInt ≤ 40000
  | none => M'.1 10 = 0
theorem sc_w {M : md_S} (h0 : 0 ≤ (M.1 2).toInt) (h2 : (M.1 2).toInt ≤ 32768) (h5 : M.1 5 = 1) (h10 : M.1 10 = 0) : dc_wp (dc_it mm_program_s2 (M, 0)) (scP M) := by
  have ti : ∀ k : Nat, k ≤ 200000 → (Int32.ofNat k).toInt = (k : Int) := fun k hk => Int32.toInt_ofNat_of_lt (by omega)
  generalize hn : (M.1 2).toInt.toNat = n
  generalize hF : M.2.1 1 = F
  have fin : ∀ M' : md_S, (∀ k, ¬ k = 5 → ¬ k = 10 → M'.1 k = M.1 k) → M'.2 = M.2 → ((M'.1 10 = 0 ∧ ob F n n 0 (M.1 5) = none) ∨ (∃ b, ob F n n 0 (M.1 5) = some b ∧ M'.1 10 = 1 + 8 * b ∧ 1 ≤ b.toInt ∧ b.toInt ≤ 40000)) → scP M M' := by
    intro M' a1 a2 a3
    refine ⟨a1, a2, ?_⟩
    rw [hn, hF]
    rcases a3 with ⟨a3, a4⟩ | ⟨b, a3, a4⟩
    · rw [a4]; exact a3
    · rw [a3]; exact a4
  refine dc_itK (fun k (q : md_S × Int32) => ∃ i l, i ≤ n ∧ q.2 = Int32.ofNat i ∧ k = n - i ∧ q.1.1 5 = l ∧ (1 ≤ l.toInt ∧ l.toInt ≤ 1 + (i : Int)) ∧ (∀ k, ¬ k = 5 → ¬ k = 10 → q.1.1 k = M.1 k) ∧ q.1.2 = M.2 ∧ ((q.1.1 10 = 0 ∧ ob F n n 0 (M.1 5) = ob F n (n - i) i l) ∨ (∃ b, ob F n n 0 (M.1 5) = some b ∧ q.1.1 10 = 1 + 8 * b ∧ 1 ≤ b.toInt ∧ b.toInt ≤ 40000))) ?_ n (M, 0) ⟨0, 1, by omega, rfl, rfl, h5, ⟨by decide, by rw [il_1]; omega⟩, fun _ _ _ => rfl, rfl, Or.inl ⟨h10, by rw [h5]; rfl⟩⟩
  rintro k ⟨Q, x⟩ ⟨i, l, b1, hx, hk, ql, ⟨l1, l2⟩, q1, q2, q3⟩
  have hx : x = Int32.ofNat i := hx
  subst hx
  have ql : Q.1 5 = l := ql
  have q1 : ∀ k, ¬ k = 5 → ¬ k = 10 → Q.1 k = M.1 k := q1
  have q2 : Q.2 = M.2 := q2
  have q3 : (Q.1 10 = 0 ∧ ob F n n 0 (M.1 5) = ob F n (n - i) i l) ∨ (∃ b, ob F n n 0 (M.1 5) = some b ∧ Q.1 10 = 1 + 8 * b ∧ 1 ≤ b.toInt ∧ b.toInt ≤ 40000) := q3
  have tI := ti i (by omega)
  have fQ : Q.2.1 1 = F := by rw [q2]; exact hF
  have e2 : Q.1 2 = M.1 2 := q1 2 (by decide) (by decide)
  show dc_wp (mm_program_b2 Q (Int32.ofNat i)) _
  delta mm_program_b2
  rw [e2]
  refine wq_if (fun c1 => ?_) (fun c1 => ?_)
  · have c2 := i_lt.mp c1
    rw [tI] at c2
    have hi : i < n := by omega
    have a1 : Int32.ofNat i + 1 = Int32.ofNat (i + 1) := by
      rw [i_eq, i_addS (by rw [tI, il_1]; omega), tI, il_1, ti (i + 1) (by omega)]
      omega
    have al : (l + 1).toInt = l.toInt + 1 := by rw [i_addS (by rw [il_1]; omega), il_1]
    have z0 : l + 0 = l := by rw [i_eq, i_addS (by rw [il_0]; omega), il_0]; omega
    have hgo := ob_go (f := F) (l := l) hi
    have ix : dc_ix (Int32.ofNat i) 32768 = some i := by
      rw [vq_ix (by omega) (by omega), tI]
      rfl
    -- the step's second half, from a state like Q but for the fault
    have stp : ∀ Y : md_S, Y.1 5 = l → (∀ k, ¬ k = 5 → ¬ k = 10 → Y.1 k = M.1 k) → Y.2 = M.2 → ((Y.1 10 = 0 ∧ ob F n n 0 (M.1 5) = ob F n (n - (i + 1)) (i + 1) (if F i = 10 then l + 1 else l)) ∨ (∃ b, ob F n n 0 (M.1 5) = some b ∧ Y.1 10 = 1 + 8 * b ∧ 1 ≤ b.toInt ∧ b.toInt ≤ 40000)) → dc_wp (mm_program_L73 Y (Int32.ofNat i)) (Sum.elim (fun y : md_S × Int32 => ∃ k', k' < k ∧ ∃ i l, i ≤ n ∧ y.2 = Int32.ofNat i ∧ k' = n - i ∧ y.1.1 5 = l ∧ (1 ≤ l.toInt ∧ l.toInt ≤ 1 + (i : Int)) ∧ (∀ k, ¬ k = 5 → ¬ k = 10 → y.1.1 k = M.1 k) ∧ y.1.2 = M.2 ∧ ((y.1.1 10 = 0 ∧ ob F n n 0 (M.1 5) = ob F n (n - i) i l) ∨ (∃ b, ob F n n 0 (M.1 5) = some b ∧ y.1.1 10 = 1 + 8 * b ∧ 1 ≤ b.toInt ∧ b.toInt ≤ 40000))) (scP M)) := by
      intro Y y1 y2 y3 y4
      have fY : Y.2.1 1 = F := by rw [y3]; exact hF
      have one : ∀ d l' : Int32, l + d = l' → (1 ≤ l'.toInt ∧ l'.toInt ≤ 1 + ((i + 1 : Nat) : Int)) → (if F i = 10 then l + 1 else l) = l' → dc_wp (mm_program_L94 Y (Int32.ofNat i) d (Y.1 5)) (Sum.elim (fun y : md_S × Int32 => ∃ k', k' < k ∧ ∃ i l, i ≤ n ∧ y.2 = Int32.ofNat i ∧ k' = n - i ∧ y.1.1 5 = l ∧ (1 ≤ l.toInt ∧ l.toInt ≤ 1 + (i : Int)) ∧ (∀ k, ¬ k = 5 → ¬ k = 10 → y.1.1 k = M.1 k) ∧ y.1.2 = M.2 ∧ ((y.1.1 10 = 0 ∧ ob F n n 0 (M.1 5) = ob F n (n - i) i l) ∨ (∃ b, ob F n n 0 (M.1 5) = some b ∧ y.1.1 10 = 1 + 8 * b ∧ 1 ≤ b.toInt ∧ b.toInt ≤ 40000))) (scP M)) := by
        intro d l' g1 g2 g3
        rw [g3] at y4
        delta mm_program_L94
        refine wq_let (fun Z hZ => ?_)
        subst hZ
        refine ⟨_, rfl, n - (i + 1), by omega, i + 1, l', by omega, a1, rfl, ?_, g2, fun k k5 k10 => ?_, y3, ?_⟩
        · show Y.1 5 + d = l'
          rw [y1]; exact g1
        · show upd Y.1 5 _ k = _
          unfold upd
          rw [if_neg k5]
          exact y2 k k5 k10
        · exact y4
      delta mm_program_L73
      rw [ix, Option.bind_some, fY]
      refine wq_if (fun g1 => ?_) (fun g1 => ?_)
      · exact one 1 (l + 1) rfl (by rw [al]; omega) (if_pos g1)
      · exact one 0 l z0 (by omega) (if_neg g1)
    -- good and bad bytes
    have good : okb (F i) → dc_wp (mm_program_L54 Q (Int32.ofNat i)) (Sum.elim (fun y : md_S × Int32 => ∃ k', k' < k ∧ ∃ i l, i ≤ n ∧ y.2 = Int32.ofNat i ∧ k' = n - i ∧ y.1.1 5 = l ∧ (1 ≤ l.toInt ∧ l.toInt ≤ 1 + (i : Int)) ∧ (∀ k, ¬ k = 5 → ¬ k = 10 → y.1.1 k = M.1 k) ∧ y.1.2 = M.2 ∧ ((y.1.1 10 = 0 ∧ ob F n n 0 (M.1 5) = ob F n (n - i) i l) ∨ (∃ b, ob F n n 0 (M.1 5) = some b ∧ y.1.1 10 = 1 + 8 * b ∧ 1 ≤ b.toInt ∧ b.toInt ≤ 40000))) (scP M)) := by
      intro g1
      rw [if_pos g1] at hgo
      show dc_wp (mm_program_L59 Q (Int32.ofNat i) 1) _
      delta mm_program_L59
      refine wq_if (fun z => absurd z (by decide)) (fun _ => ?_)
      refine stp Q ql q1 q2 ?_
      rcases q3 with ⟨a, b⟩ | a
      · exact Or.inl ⟨a, b.trans hgo⟩
      · exact Or.inr a
    have evil : ¬ okb (F i) → dc_wp (mm_program_L59 Q (Int32.ofNat i) 0) (Sum.elim (fun y : md_S × Int32 => ∃ k', k' < k ∧ ∃ i l, i ≤ n ∧ y.2 = Int32.ofNat i ∧ k' = n - i ∧ y.1.1 5 = l ∧ (1 ≤ l.toInt ∧ l.toInt ≤ 1 + (i : Int)) ∧ (∀ k, ¬ k = 5 → ¬ k = 10 → y.1.1 k = M.1 k) ∧ y.1.2 = M.2 ∧ ((y.1.1 10 = 0 ∧ ob F n n 0 (M.1 5) = ob F n (n - i) i l) ∨ (∃ b, ob F n n 0 (M.1 5) = some b ∧ y.1.1 10 = 1 + 8 * b ∧ 1 ≤ b.toInt ∧ b.toInt ≤ 40000))) (scP M)) := by
      intro g1
      rw [if_neg g1] at hgo
      delta mm_program_L59
      refine wq_if (fun _ => ?_) (fun z => absurd rfl z)
      rcases q3 with ⟨a, b⟩ | ⟨b, g2, g3, g4, g5⟩
      · rw [fl_new a, Option.bind_some]
        refine stp _ ql (fun k k5 k10 => ?_) q2 (Or.inr ⟨l, b.trans hgo, ?_, by omega, by omega⟩)
        · show upd Q.1 10 _ k = _
          unfold upd
          rw [if_neg k10]
          exact q1 k k5 k10
        · show 1 + 8 * Q.1 5 = _
          rw [ql]
      · rw [fl_old (by rw [g3]; exact f18 g4 g5), Option.bind_some]
        exact stp Q ql q1 q2 (Or.inr ⟨b, g2, g3, g4, g5⟩)
    have l32 : ¬ (31 < F i ∧ F i < 127) → dc_wp (mm_program_L32 Q (Int32.ofNat i)) (Sum.elim (fun y : md_S × Int32 => ∃ k', k' < k ∧ ∃ i l, i ≤ n ∧ y.2 = Int32.ofNat i ∧ k' = n - i ∧ y.1.1 5 = l ∧ (1 ≤ l.toInt ∧ l.toInt ≤ 1 + (i : Int)) ∧ (∀ k, ¬ k = 5 → ¬ k = 10 → y.1.1 k = M.1 k) ∧ y.1.2 = M.2 ∧ ((y.1.1 10 = 0 ∧ ob F n n 0 (M.1 5) = ob F n (n - i) i l) ∨ (∃ b, ob F n n 0 (M.1 5) = some b ∧ y.1.1 10 = 1 + 8 * b ∧ 1 ≤ b.toInt ∧ b.toInt ≤ 40000))) (scP M)) := by
      intro g1
      delta mm_program_L32
      rw [ix, Option.bind_some, fQ]
      refine wq_if (fun d1 => good (okb_iff.mpr (Or.inr (Or.inl d1)))) (fun d1 => ?_)
      rw [Option.bind_some]
      refine wq_if (fun d2 => good (okb_iff.mpr (Or.inr (Or.inr d2)))) (fun d2 => evil ?_)
      rw [okb_iff]
      rintro (z | z | z)
      · exact g1 z
      · exact d1 z
      · exact d2 z
    rw [ix, Option.bind_some, fQ]
    refine wq_if (fun d1 => ?_) (fun d1 => l32 (fun z => d1 z.1))
    rw [Option.bind_some]
    exact wq_if (fun d2 => good (okb_iff.mpr (Or.inl ⟨d1, d2⟩))) (fun d2 => l32 (fun z => d2 z.2))
  · have c2 : ¬ (Int32.ofNat i).toInt < (M.1 2).toInt := fun z => c1 (i_lt.mpr z)
    rw [tI] at c2
    refine ⟨_, rfl, fin Q q1 q2 ?_⟩
    rcases q3 with ⟨a, b⟩ | a
    · exact Or.inl ⟨a, b.trans (ob_end (by omega) _)⟩
    · exact Or.inr a
