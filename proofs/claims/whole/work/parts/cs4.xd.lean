/-! calls on an engine that has explored: next, shows, go, path -/
section XCB
variable {G : hg_E} {S : hg_S} {M : md_S} {o t oA cnt pa ins : Nat} {bA : Nat → Nat} {nn f st en rn la p1 p2 : Int32} {tn pg rc hd sh : Value} {q : rsT}
/-- the reference's isInput -/
theorem isi_x (h : EXa G S M oA bA q cnt pa ins) {v : Int32} (hv : mm_isInput (md_i M 0 0) p2 = some v) : (v = 1 ∧ ¬ p2 < 0 ∧ p2 < q.2 8) ∨ (v = 0 ∧ ¬ (¬ p2 < 0 ∧ p2 < q.2 8)) := by
  obtain ⟨-, -, ⟨h8, h45, i4, -⟩, -⟩ := h
  obtain ⟨sh1, sh2, sh3⟩ := sh_ins ins i4
  have e45 : (md_i M 0 0).1 45 = Int32.ofNat ins := by rw [md_i1, if_neg (by decide)]; exact h45
  have one : mm_isInput_L26 (md_i M 0 0) = some 1 := rfl
  have zro : mm_isInput_L30 (md_i M 0 0) = some 0 := rfl
  have n31 : ¬ Int32.ofNat ins = 31 := fun e => by
    have t : (Int32.ofNat ins).toInt = (ins : Int) := Int32.toInt_ofNat_of_lt (by omega)
    rw [e, il_31] at t
    omega
  delta mm_isInput at hv
  rw [e45, sh1, if_neg n31, one, zro] at hv
  rw [h8]
  rcases iv_if hv with ⟨c, hv⟩ | ⟨c, hv⟩
  · exact Or.inr ⟨(Option.some.inj hv).symm, fun z => z.1 c⟩
  · rcases iv_if hv with ⟨d, hv⟩ | ⟨d, hv⟩
    · exact Or.inl ⟨(Option.some.inj hv).symm, c, d⟩
    · exact Or.inr ⟨(Option.some.inj hv).symm, fun z => d z.2⟩
/-- inputs as a number -/
theorem inp_n (h : EXa G S M oA bA q cnt pa ins) (a : ¬ p2 < 0) (b : p2 < q.2 8) : ∃ i, p2 = Int32.ofNat i ∧ i < 2 ^ ins ∧ i < 16 := by
  obtain ⟨-, -, ⟨h8, h45, i4, -⟩, -⟩ := h
  obtain ⟨sh1, sh2, sh3⟩ := sh_ins ins i4
  have tW : (Int32.ofNat (2 ^ ins)).toInt = ((2 ^ ins : Nat) : Int) := Int32.toInt_ofNat_of_lt (by omega)
  have a1 : 0 ≤ p2.toInt := by
    have : ¬ p2.toInt < (0 : Int32).toInt := fun z => a (i_lt.mpr z)
    rw [il_0] at this
    omega
  have b1 := i_lt.mp b
  rw [h8, tW] at b1
  exact ⟨p2.toInt.toNat, (ofN_t a1 (by omega)).symm, by omega, by omega⟩
theorem xd_next (he : hg_at S.1 o = some (.inr (0, enL t nn f pg rc hd sh st en rn (.ref oA) tn 1 la))) (h : EXa G S M oA bA q cnt pa ins) (h0 : hw S) (h85 : M.1 85 = 1) {r : md_S × Int32} (hq : mm_next M p1 p2 = some r) : r.1 = md_i M 0 0 ∧ dc_wp (hm_SE_next G S o p1 p2) (fun z => z = .inl (S, r.2)) := by
  have aw := EXa_w h0 h
  have hS := h.2.1.1
  have hC := h.2.1.2.1
  have c257 := hS.1.2.2
  delta mm_next mm_next_L13 at hq
  rw [if_neg (by rw [h85]; decide), f0_0] at hq
  have hq : (if (0 : Int32) = 0 then ((mm_told_to (md_i M 0 0) p1 p2).bind fun q2 => mm_next_L34 (md_i M 0 0) q2) else (mm_next_L34 (md_i M 0 0) 0)) = some r := hq
  rw [if_pos rfl] at hq
  obtain ⟨w, hw', hq⟩ := iv_bind hq
  have er : r = (md_i M 0 0, w) := (Option.some.inj hq).symm
  have hw2 : ((awR q p1 ∧ ¬ p2 < 0 ∧ p2 < q.2 8) ∧ ∃ i, p2 = Int32.ofNat i ∧ i < 16 ∧ w = q.1 0 (16 * p1.toInt.toNat + i)) ∨ (¬ (awR q p1 ∧ ¬ p2 < 0 ∧ p2 < q.2 8) ∧ w = -1) := by
    delta mm_told_to mm_told_to_L37 mm_told_to_L50 at hw'
    obtain ⟨v, hv, hw'⟩ := iv_bind hw'
    rcases pl_x h h85 hv with ⟨j, j1, j2, j3, j4⟩ | ⟨e, no⟩
    · rw [if_neg (by rw [j2]; exact nj_1 j1 c257)] at hw'
      obtain ⟨v2, hv2, hw'⟩ := iv_bind hw'
      rcases isi_x h hv2 with ⟨k1, k2⟩ | ⟨k1, k2⟩
      · rw [if_neg (by rw [k1]; decide)] at hw'
        obtain ⟨i, i1, i2, i3⟩ := inp_n h k2.1 k2.2
        rw [j2, i1, cel_m] at hw'
        have c1n : (Int32.ofNat (16 * j + i)).toInt.toNat = 16 * j + i := by rw [Int32.toInt_ofNat_of_lt (by omega)]; omega
        obtain ⟨-, -, hw'⟩ := iv_ix hw'
        rw [c1n] at hw'
        have cc := (hC j i (Or.inl ⟨j1, i2⟩)).1
        refine Or.inl ⟨⟨j4, k2⟩, i, i1, i3, ?_⟩
        rw [← j3, cc]
        rcases iv_if hw' with ⟨d, hw'⟩ | ⟨d, hw'⟩
        · have d : M.2.1 92 (16 * j + i) = -1 := d
          rw [d]; exact (Option.some.inj hw').symm
        · obtain ⟨-, -, hw'⟩ := iv_ix hw'
          rw [c1n] at hw'
          exact (Option.some.inj hw').symm
      · rw [if_pos k1] at hw'
        exact Or.inr ⟨fun z => k2 z.2, (Option.some.inj hw').symm⟩
    · rw [if_pos e] at hw'
      exact Or.inr ⟨fun z => no z.1, (Option.some.inj hw').symm⟩
  refine ⟨by rw [er], ?_⟩
  rw [er]
  delta hm_SE_next
  refine wq_gi (x := 1) he rfl ?_
  rw [if_neg (by decide)]
  refine wq_gr (x := some oA) he rfl ?_
  refine wq_chk h.1.1.1 ?_
  refine wq_call (has_w aw) (fun v hv => ?_)
  delta hm_SE_next_L44
  rcases hv with ⟨v1, v2⟩ | ⟨v1, v2⟩
  · rw [if_neg (by rw [v1]; decide)]
    rcases hw2 with ⟨-, i, i1, i3, ew⟩ | ⟨no, -⟩
    · refine wq_gr (x := some oA) he rfl ?_
      refine aw_g aw (i := 0) (by decide) ?_
      have rp := v2.1
      have px := ofN_t rp.1 (by have := rp.2.1; omega)
      delta hm_AT_cell
      have ec : p1 * 16 + p2 = Int32.ofNat (16 * p1.toInt.toNat + i) := by rw [i1, ← cel_n, px]
      rw [ec]
      have c1 : (Int32.ofNat (16 * p1.toInt.toNat + i)).toInt = ((16 * p1.toInt.toNat + i : Nat) : Int) := Int32.toInt_ofNat_of_lt (by have := rp.2.1; omega)
      refine (show dc_wp ((hg_ld S (some (wB (S, oA, bA) 0)) (G.1 0) (Int32.ofNat (16 * p1.toInt.toNat + i))).bind _) _ from ?_)
      refine aw_l aw (i := 0) (by decide) (by omega) (by have := rp.2.1; show (Int32.ofNat (16 * p1.toInt.toNat + i)).toInt < ((4112 : Nat) : Int); omega) ?_
      rw [show (Int32.ofNat (16 * p1.toInt.toNat + i)).toInt.toNat = 16 * p1.toInt.toNat + i by omega]
      exact ⟨_, rfl, by rw [ew]⟩
    · exact absurd v2 no
  · rw [if_pos v1]
    rcases hw2 with ⟨yes, -⟩ | ⟨-, e⟩
    · exact absurd yes v2
    · exact ⟨_, rfl, by rw [e]⟩
theorem xd_shows (he : hg_at S.1 o = some (.inr (0, enL t nn f pg rc hd sh st en rn (.ref oA) tn 1 la))) (h : EXa G S M oA bA q cnt pa ins) (h0 : hw S) (h85 : M.1 85 = 1) {r : md_S × Int32} (hq : mm_shows M p1 p2 = some r) : r.1 = md_i M 0 0 ∧ dc_wp (hm_SE_shows G S o p1 p2) (fun z => z = .inl (S, r.2)) := by
  have aw := EXa_w h0 h
  have hS := h.2.1.1
  have hC := h.2.1.2.1
  have c257 := hS.1.2.2
  delta mm_shows mm_shows_L13 at hq
  rw [if_neg (by rw [h85]; decide), f0_0] at hq
  have hq : (if (0 : Int32) = 0 then ((mm_told_shows (md_i M 0 0) p1 p2).bind fun q2 => mm_shows_L34 (md_i M 0 0) q2) else (mm_shows_L34 (md_i M 0 0) 0)) = some r := hq
  rw [if_pos rfl] at hq
  obtain ⟨w, hw', hq⟩ := iv_bind hq
  have er : r = (md_i M 0 0, w) := (Option.some.inj hq).symm
  have hw2 : ((awR q p1 ∧ ¬ p2 < 0 ∧ p2 < q.2 8) ∧ ∃ i, p2 = Int32.ofNat i ∧ i < 16 ∧ w = q.1 1 (16 * p1.toInt.toNat + i)) ∨ (¬ (awR q p1 ∧ ¬ p2 < 0 ∧ p2 < q.2 8) ∧ w = -1) := by
    delta mm_told_shows mm_told_shows_L37 mm_told_shows_L50 at hw'
    obtain ⟨v, hv, hw'⟩ := iv_bind hw'
    rcases pl_x h h85 hv with ⟨j, j1, j2, j3, j4⟩ | ⟨e, no⟩
    · rw [if_neg (by rw [j2]; exact nj_1 j1 c257)] at hw'
      obtain ⟨v2, hv2, hw'⟩ := iv_bind hw'
      rcases isi_x h hv2 with ⟨k1, k2⟩ | ⟨k1, k2⟩
      · rw [if_neg (by rw [k1]; decide)] at hw'
        obtain ⟨i, i1, i2, i3⟩ := inp_n h k2.1 k2.2
        rw [j2, i1, cel_m] at hw'
        have c1n : (Int32.ofNat (16 * j + i)).toInt.toNat = 16 * j + i := by rw [Int32.toInt_ofNat_of_lt (by omega)]; omega
        obtain ⟨-, -, hw'⟩ := iv_ix hw'
        rw [c1n] at hw'
        have cc := (hC j i (Or.inl ⟨j1, i2⟩)).2.1
        refine Or.inl ⟨⟨j4, k2⟩, i, i1, i3, ?_⟩
        rw [← j3, cc]
        rcases iv_if hw' with ⟨d, hw'⟩ | ⟨d, hw'⟩
        · have d : M.2.1 92 (16 * j + i) = -1 := d
          rw [if_pos d]; exact (Option.some.inj hw').symm
        · have d : ¬ M.2.1 92 (16 * j + i) = -1 := d
          obtain ⟨-, -, hw'⟩ := iv_ix hw'
          rw [c1n] at hw'
          rw [if_neg d]
          exact (Option.some.inj hw').symm
      · rw [if_pos k1] at hw'
        exact Or.inr ⟨fun z => k2 z.2, (Option.some.inj hw').symm⟩
    · rw [if_pos e] at hw'
      exact Or.inr ⟨fun z => no z.1, (Option.some.inj hw').symm⟩
  refine ⟨by rw [er], ?_⟩
  rw [er]
  delta hm_SE_shows
  refine wq_gi (x := 1) he rfl ?_
  rw [if_neg (by decide)]
  refine wq_gr (x := some oA) he rfl ?_
  refine wq_chk h.1.1.1 ?_
  refine wq_call (has_w aw) (fun v hv => ?_)
  delta hm_SE_shows_L44
  rcases hv with ⟨v1, v2⟩ | ⟨v1, v2⟩
  · rw [if_neg (by rw [v1]; decide)]
    rcases hw2 with ⟨-, i, i1, i3, ew⟩ | ⟨no, -⟩
    · refine wq_gr (x := some oA) he rfl ?_
      refine aw_g aw (i := 1) (by decide) ?_
      have rp := v2.1
      have px := ofN_t rp.1 (by have := rp.2.1; omega)
      delta hm_AT_cell
      have ec : p1 * 16 + p2 = Int32.ofNat (16 * p1.toInt.toNat + i) := by rw [i1, ← cel_n, px]
      rw [ec]
      have c1 : (Int32.ofNat (16 * p1.toInt.toNat + i)).toInt = ((16 * p1.toInt.toNat + i : Nat) : Int) := Int32.toInt_ofNat_of_lt (by have := rp.2.1; omega)
      refine (show dc_wp ((hg_ld S (some (wB (S, oA, bA) 1)) (G.1 0) (Int32.ofNat (16 * p1.toInt.toNat + i))).bind _) _ from ?_)
      refine aw_l aw (i := 1) (by decide) (by omega) (by have := rp.2.1; show (Int32.ofNat (16 * p1.toInt.toNat + i)).toInt < ((4112 : Nat) : Int); omega) ?_
      rw [show (Int32.ofNat (16 * p1.toInt.toNat + i)).toInt.toNat = 16 * p1.toInt.toNat + i by omega]
      exact ⟨_, rfl, by rw [ew]⟩
    · exact absurd v2 no
  · rw [if_pos v1]
    rcases hw2 with ⟨yes, -⟩ | ⟨-, e⟩
    · exact absurd yes v2
    · exact ⟨_, rfl, by rw [e]⟩
/-- go -/
theorem f0_2 (M : md_S) : mm_fails M 0 1 = some (md_i M 0 2, 1) := by
  delta mm_fails mm_fails_L18 mm_fails_L33
  rw [if_pos rfl, if_neg (by decide)]
  rfl
theorem xd_go {u t0 n ps sg io : Nat} {T : tT} {R : Nat → Nat → Int32} {c : Nat → Int32} {X : Nat → Nat → Int32} {cn hf sf : Nat → Int32} (he : hg_at S.1 o = some (.inr (0, enL t nn f (.ref u) (.ref (u + 18)) (.ref (u + 30)) (.ref (u + 31)) st en rn (.ref oA) tn 1 la))) (h : EXa G S M oA bA q cnt pa ins) (h0 : hw S) (hl : LDp G S M u t0 T n ps sg io pa R c X cn hf sf) (ho : o < t0 ∧ t0 ≤ u) (h85 : M.1 85 = 1) (rm : 1 ≤ S.2.2.1 ∧ 6 ≤ S.2.2.2) {r : md_S} (hq : mm_go M p1 = some r) : dc_wp (hm_SE_go G S o p1) (fun z => (∃ S', z = .inl S' ∧ inL G S S' M r u t0 o t T n ps sg io pa R c nn f (.ref oA) tn 1 la) ∨ (z = .inr ((S.1, S.2.1 + 1, S.2.2.1 - 1, S.2.2.2 - 6), S.2.1, true) ∧ r = md_i M 0 2)) := by
  have aw := EXa_w h0 h
  have hS := h.2.1.1
  have c257 := hS.1.2.2
  delta mm_go mm_go_L13 at hq
  rw [if_neg (by rw [h85]; decide), if_neg (by rw [h85]; decide)] at hq
  obtain ⟨v, hv, hq⟩ := iv_bind hq
  have k := fnd_r (S := M) (cnt := cnt) hS.1.2.2 hS.1.2.1 hv
  delta hm_SE_go
  refine wq_gi (x := 1) he rfl ?_
  rw [if_neg (by decide)]
  refine wq_gr (x := some oA) he rfl ?_
  refine wq_chk h.1.1.1 ?_
  refine wq_call (rch_w aw) (fun v' hv' => ?_)
  rcases k with ⟨j, j1, j2, j3, -⟩ | ⟨e, no⟩
  · have rg := (hS.2.1 j j1).1
    rw [j3] at rg
    have yes : awR q p1 := (axS_r hS rg).mpr ⟨j, j1, j3⟩
    rcases hv' with ⟨v1, -⟩ | ⟨-, v2⟩
    case inr => exact absurd yes v2
    rw [if_neg (by rw [v1]; decide)]
    rw [if_neg (by rw [j2]; exact nj_1 j1 c257)] at hq
    delta mm_go_L33 mm_go_L34 at hq
    rw [f0_0] at hq
    have hq : (if (0 : Int32) = 0 then ((mm_rest (md_i M 0 0)).bind fun q2 => (mm_place q2 p1).bind fun q3 => some (md_i q3 82 1)) else some (md_i M 0 0)) = some r := hq
    rw [if_pos rfl] at hq
    obtain ⟨a, e1, hq⟩ := iv_bind hq
    obtain ⟨b, e2, hq⟩ := iv_bind hq
    have er : md_i b 82 1 = r := Option.some.inj hq
    refine wq_chk he ?_
    have sb := (hS.2.1 j j1).2.1
    rw [j3] at sb
    refine wq_call (std_l h0 he hl ho e1 e2 (by
      by_cases e : p1 = 256
      · exact Or.inl e
      · rcases sb with sb | sb
        · exact Or.inl sb
        · exact Or.inr ⟨e, h.2.2.1.2.2.2, sb.1⟩)) (fun S' hS' => ?_)
    rw [er] at hS'
    exact ⟨_, rfl, Or.inl ⟨S', rfl, hS'⟩⟩
  · have nr : ¬ awR q p1 := fun z => by
      obtain ⟨j, j1, j2⟩ := (axS_r hS ⟨z.1, z.2.1⟩).mp z
      exact no j j1 j2
    rcases hv' with ⟨-, v2⟩ | ⟨v1, -⟩
    · exact absurd v2 nr
    rw [if_pos v1, if_pos rm]
    rw [if_pos e] at hq
    delta mm_go_L34 at hq
    rw [f0_2] at hq
    have hq : (if (1 : Int32) = 0 then ((mm_rest (md_i M 0 2)).bind fun q2 => (mm_place q2 p1).bind fun q3 => some (md_i q3 82 1)) else some (md_i M 0 2)) = some r := hq
    rw [if_neg (by decide)] at hq
    exact ⟨_, rfl, Or.inr ⟨rfl, (Option.some.inj hq).symm⟩⟩
theorem it_1 {α β : Type} {step : α → Option (α ⊕ β)} {x : α} {F : β → Prop} (h : dc_wp (step x) (Sum.elim (fun y => dc_wp (dc_it step y) F) F)) : dc_wp (dc_it step x) F := by
  rw [dc_it_eq]
  obtain ⟨y, e, hy⟩ := h
  rw [e]
  cases y with
  | inl y => exact hy
  | inr y => exact ⟨_, rfl, hy⟩
/-- path: the reference comes to its end, and the class with it -/
theorem xd_path (he : hg_at S.1 o = some (.inr (0, enL t nn f pg rc hd sh st en rn (.ref oA) tn 1 la))) (h : EXa G S M oA bA q cnt pa ins) (h0 : hw S) (h85 : M.1 85 = 1) : dc_wp (mm_path M p1 p2) (fun r => r.1 = md_i M 0 0 ∧ dc_wp (hm_SE_path G S o p1 p2) (fun v => v = r.2)) := by
  have aw := EXa_w h0 h
  have hS := h.2.1.1
  have c257 := hS.1.2.2
  have w2 : (wN 2 : Int) = 257 := rfl
  have w3 : (wN 3 : Int) = 257 := rfl
  have w4 : (wN 4 : Int) = 257 := rfl
  -- the class, up to the loop
  have cls : ∀ w : Int32, (awR q p1 → ¬ p2 < 0 → p2 < q.1 2 p1.toInt.toNat → dc_wp (hm_AT_inputsOnWay_L28 G S oA p2 p1 (q.1 2 p1.toInt.toNat - 1)) (fun v => v = w)) → ((¬ awR q p1 ∨ p2 < 0 ∨ ¬ p2 < q.1 2 p1.toInt.toNat) → w = -1) → dc_wp (hm_SE_path G S o p1 p2) (fun v => v = w) := by
    intro w k1 k2
    delta hm_SE_path
    refine wq_gi (x := 1) he rfl ?_
    rw [if_neg (by decide)]
    refine wq_gr (x := some oA) he rfl ?_
    refine wq_chk h.1.1.1 ?_
    refine wq_call (rch_w aw) (fun v' hv' => ?_)
    rcases hv' with ⟨v1, v2⟩ | ⟨v1, v2⟩
    · rw [if_neg (by rw [v1]; decide)]
      refine wq_gr (x := some oA) he rfl ?_
      refine wq_chk h.1.1.1 ?_
      have core : dc_wp (hm_AT_inputsOnWay G S oA p1 p2) (fun v => v = w) := by
        delta hm_AT_inputsOnWay
        refine wq_if (fun a => ⟨_, rfl, (k2 (Or.inr (Or.inl a))).symm⟩) (fun a => ?_)
        refine aw_g aw (i := 2) (by decide) ?_
        refine aw_l aw (i := 2) (by decide) v2.1 (by rw [w2]; exact v2.2.1) ?_
        refine wq_if (fun b => ?_) (fun b => ⟨_, rfl, (k2 (Or.inr (Or.inr b))).symm⟩)
        refine aw_g aw (i := 2) (by decide) ?_
        refine aw_l aw (i := 2) (by decide) v2.1 (by rw [w2]; exact v2.2.1) ?_
        exact k1 v2 a b
      refine wq_call core (fun v hv => ?_)
      exact ⟨_, rfl, hv⟩
    · rw [if_pos v1]
      exact ⟨_, rfl, (k2 (Or.inl v2)).symm⟩
  have e87 : (md_i M 0 0).1 87 = Int32.ofNat cnt := by rw [md_i1, if_neg (by decide)]; exact hS.1.2.1
  delta mm_path
  refine wq_let (fun Y eY => ?_)
  subst eY
  have pl : dc_wp (mm_placeOf (md_i M 0 0) p1) (fun v => (∃ j, j < cnt ∧ v = Int32.ofNat j ∧ M.2.1 88 j = p1 ∧ awR q p1) ∨ (v = -1 ∧ ¬ awR q p1)) := by
    have tot : dc_wp (mm_placeOf (md_i M 0 0) p1) (fun _ => True) := by
      delta mm_placeOf mm_placeOf_L16
      rw [if_neg (by rw [md_i1, if_neg (by decide), h85]; decide)]
      refine wq_call (fnd_t c257 e87) (fun v _ => ⟨_, rfl, trivial⟩)
    obtain ⟨v, hv, -⟩ := tot
    exact ⟨v, hv, pl_x h h85 hv⟩
  refine wq_call pl (fun v hv => ?_)
  rcases hv with ⟨j, j1, j2, j3, j4⟩ | ⟨e, no⟩
  · rw [if_neg (by rw [j2]; exact nj_1 j1 c257)]
    have dj : q.1 2 p1.toInt.toNat = M.2.1 89 j := by rw [← j3]; exact (hS.2.1 j j1).2.2.2.1
    delta mm_path_L30
    refine wq_if (fun a => ⟨_, rfl, rfl, cls _ (fun _ b => absurd a b) (fun _ => rfl)⟩) (fun a => ?_)
    rw [j2]
    have tj : (Int32.ofNat j).toInt = (j : Int) := Int32.toInt_ofNat_of_lt (by omega)
    refine wq_ix (by omega) (by omega) ?_
    rw [tj_n j1 c257]
    refine wq_if (fun b => ?_) (fun b => ⟨_, rfl, rfl, cls _ (fun _ _ d => absurd (show p2 < M.2.1 89 j by rw [← dj]; exact d) b) (fun _ => rfl)⟩)
    have b : p2 < M.2.1 89 j := b
    have a1 : 0 ≤ p2.toInt := by
      have : ¬ p2.toInt < (0 : Int32).toInt := fun z => a (i_lt.mpr z)
      rw [il_0] at this
      omega
    have b1 := i_lt.mp b
    -- where the way is met: the last state that is farther than p2 by one
    have far := (hS.2.2.1 j j1).1
    have hds0 := h.2.1.2.2.2.2.2.2.2.2
    delta mm_path_L32
    have key := dc_itK (step := mm_path_s32 (md_i M 0 0) p2) (fun d (y : Int32) => ∃ k, y = Int32.ofNat k ∧ k < cnt ∧ d = k ∧ p2.toInt < (M.2.1 89 k).toInt ∧ ∀ w : Int32, dc_wp (dc_it (hm_AT_inputsOnWay_s28 G S oA p2) (M.2.1 88 k, M.2.1 89 k - 1)) (fun v => v = w) → dc_wp (dc_it (hm_AT_inputsOnWay_s28 G S oA p2) (p1, q.1 2 p1.toInt.toNat - 1)) (fun v => v = w)) (F := fun y => ∃ k, y = Int32.ofNat k ∧ k < cnt ∧ 0 < k ∧ dc_wp (dc_it (hm_AT_inputsOnWay_s28 G S oA p2) (p1, q.1 2 p1.toInt.toNat - 1)) (fun v => v = M.2.1 88 k)) (by
      rintro d y ⟨k, ey, k1, ed, k2, k3⟩
      subst ey
      have tk : (Int32.ofNat k).toInt = (k : Int) := Int32.toInt_ofNat_of_lt (by omega)
      obtain ⟨fk, fk0⟩ := hS.2.2.1 k k1
      have f1 : (M.2.1 89 k - 1).toInt = (M.2.1 89 k).toInt - 1 := by
        rw [Int32.toInt_sub, bm32, il_1]
        omega
      have p21 : (p2 + 1).toInt = p2.toInt + 1 := inc_1 a1 (by omega)
      show dc_wp (mm_path_b32 (md_i M 0 0) p2 (Int32.ofNat k)) _
      delta mm_path_b32
      refine wq_ix (by omega) (by omega) ?_
      rw [tj_n k1 c257]
      have k0 : 0 < k := by
        have := fk.2
        omega
      refine wq_if (fun c => ?_) (fun c => ?_)
      · have c : p2 + 1 < M.2.1 89 k := c
        have c1 := i_lt.mp c
        rw [p21] at c1
        refine wq_ix (by omega) (by omega) ?_
        rw [tj_n k1 c257]
        refine wq_let (fun v ev => ?_)
        have ev : v = M.2.1 90 k := ev
        have hfr := (hS.2.1 k k1).2.2.2.2.1
        have hds := hds0 k k1
        have n90 : ¬ M.2.1 90 k = -1 := fun z => by
          rw [if_pos z] at hds
          rw [hds, il_0] at c1
          omega
        obtain ⟨r1, r2⟩ := fk0.elim (fun z => absurd z n90) id
        rw [if_neg n90] at hds hfr
        have k'1 : (M.2.1 90 k).toInt.toNat < cnt := by omega
        have fk' := (hS.2.2.1 _ k'1).1
        have d1 : (M.2.1 89 k).toInt = (M.2.1 89 (M.2.1 90 k).toInt.toNat).toInt + 1 := by rw [hds, inc_1 fk'.1 (by omega)]
        refine ⟨_, rfl, (M.2.1 90 k).toInt.toNat, by omega, (M.2.1 90 k).toInt.toNat, by rw [ev, ofN_t r1 (by omega)], k'1, rfl, by omega, fun w hw' => k3 w ?_⟩
        refine it_1 ?_
        show dc_wp (hm_AT_inputsOnWay_b28 G S oA p2 (M.2.1 88 k) (M.2.1 89 k - 1)) _
        delta hm_AT_inputsOnWay_b28
        rw [if_pos (by rw [i_lt, f1]; omega)]
        have sr := (hS.2.1 k k1).1
        refine aw_g aw (i := 3) (by decide) ?_
        refine aw_l aw (i := 3) (by decide) sr.1 (by rw [w3]; exact sr.2) ?_
        rw [hfr]
        have el : M.2.1 89 k - 1 + (-1) = M.2.1 89 (M.2.1 90 k).toInt.toNat - 1 := by
          rw [hds, Int32.add_sub_cancel, ← Int32.sub_eq_add_neg]
        rw [el]
        exact ⟨_, rfl, hw'⟩
      · have c : ¬ p2 + 1 < M.2.1 89 k := c
        have c1 : ¬ (p2 + 1).toInt < (M.2.1 89 k).toInt := fun z => c (i_lt.mpr z)
        rw [p21] at c1
        refine ⟨_, rfl, k, rfl, k1, k0, k3 _ ?_⟩
        rw [dc_it_eq]
        have st : hm_AT_inputsOnWay_s28 G S oA p2 (M.2.1 88 k, M.2.1 89 k - 1) = some (.inr (M.2.1 88 k)) := by
          show hm_AT_inputsOnWay_b28 G S oA p2 (M.2.1 88 k) (M.2.1 89 k - 1) = _
          delta hm_AT_inputsOnWay_b28
          rw [if_neg (by rw [i_lt, f1]; omega)]
        rw [st]
        exact ⟨_, rfl, rfl⟩)
    refine wq_call (key j (Int32.ofNat j) ⟨j, rfl, j1, rfl, b1, fun w hw' => by rw [← j3, (hS.2.1 j j1).2.2.2.1]; exact hw'⟩) ?_
    rintro y ⟨k, ey, k1, k0, kw⟩
    subst ey
    have tk : (Int32.ofNat k).toInt = (k : Int) := Int32.toInt_ofNat_of_lt (by omega)
    delta mm_path_L54
    refine wq_ix (by omega) (by omega) ?_
    rw [tj_n k1 c257]
    refine ⟨_, rfl, rfl, cls _ (fun _ _ _ => ?_) (fun z => ?_)⟩
    · delta hm_AT_inputsOnWay_L28
      refine wq_call kw (fun v hv => ?_)
      subst hv
      delta hm_AT_inputsOnWay_L47
      have sr := (hS.2.1 k k1).1
      refine aw_g aw (i := 4) (by decide) ?_
      refine aw_l aw (i := 4) (by decide) sr.1 (by rw [w4]; exact sr.2) ?_
      rw [(hS.2.1 k k1).2.2.2.2.2 k0]
      exact ⟨_, rfl, rfl⟩
    · rcases z with z | z | z
      · exact absurd j4 z
      · exact absurd z a
      · rw [dj] at z
        exact absurd b z
  · rw [if_pos e]
    delta mm_path_L30
    exact ⟨_, rfl, rfl, cls _ (fun y => absurd y no) (fun _ => rfl)⟩
end XCB
