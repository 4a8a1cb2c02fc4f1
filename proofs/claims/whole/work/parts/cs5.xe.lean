/-! calls on an engine that has explored: reactions, together, ever -/
/-- a reaction that shows all of b -/
def gsh (M : md_S) (b : Int32) (c : Nat) : Int32 := if M.2.1 92 c = -1 then -1 else if (M.2.1 93 c &&& b) = b then 0 else -1
section XCC
variable {G : hg_E} {S : hg_S} {M : md_S} {o t oA cnt pa ins : Nat} {bA : Nat → Nat} {nn f st en rn la p1 p2 b : Int32} {tn pg rc hd sh : Value} {q : rsT}
theorem gsh_1 {c : Nat} : gsh M b c = -1 ↔ ¬ (¬ M.2.1 92 c = -1 ∧ (M.2.1 93 c &&& b) = b) := by
  unfold gsh
  by_cases c1 : M.2.1 92 c = -1
  · rw [if_pos c1]; exact ⟨fun _ z => z.1 c1, fun _ => rfl⟩
  · rw [if_neg c1]
    by_cases c2 : (M.2.1 93 c &&& b) = b
    · rw [if_pos c2]; exact ⟨fun z => absurd z (by decide), fun z => absurd ⟨c1, c2⟩ z⟩
    · rw [if_neg c2]; exact ⟨fun _ z => c2 z.2, fun _ => rfl⟩
/-- the reference counts them -/
theorem rea_r (h : EXa G S M oA bA q cnt pa ins) {v : Int32} (hq : mm_reactions (md_i M 0 0) b = some v) : v = Int32.ofNat (rcJ (gsh M b) (2 ^ ins) cnt) := by
  obtain ⟨-, ⟨hS, -, -⟩, ⟨-, h45, i4, -⟩, -⟩ := h
  have c257 := hS.1.2.2
  obtain ⟨sh1, sh2, sh3⟩ := sh_ins ins i4
  have tW : (Int32.ofNat (2 ^ ins)).toInt = ((2 ^ ins : Nat) : Int) := Int32.toInt_ofNat_of_lt (by omega)
  have tc : (Int32.ofNat cnt).toInt = (cnt : Int) := Int32.toInt_ofNat_of_lt (by omega)
  have e45 : (md_i M 0 0).1 45 = Int32.ofNat ins := by rw [md_i1, if_neg (by decide)]; exact h45
  have e87 : (md_i M 0 0).1 87 = Int32.ofNat cnt := by rw [md_i1, if_neg (by decide)]; exact hS.1.2.1
  have inner : ∀ j, j < cnt → dc_pw (mm_reactions_L15 (md_i M 0 0) b (Int32.ofNat (rcJ (gsh M b) (2 ^ ins) j)) (Int32.ofNat j) 0) (fun z => z = .inl (Int32.ofNat (rcJ (gsh M b) (2 ^ ins) (j + 1)), Int32.ofNat (j + 1))) := by
    intro j hj
    delta mm_reactions_L15
    refine pw_loop (fun (y : Int32 × Int32) => ∃ i, y.2 = Int32.ofNat i ∧ i ≤ 2 ^ ins ∧ y.1 = Int32.ofNat (rcJ (gsh M b) (2 ^ ins) j + rcI (gsh M b) j i)) (fun v => v = Int32.ofNat (rcJ (gsh M b) (2 ^ ins) (j + 1))) ⟨0, rfl, by omega, rfl⟩ ?_ (fun z hz => by
      have hz : z = Int32.ofNat (rcJ (gsh M b) (2 ^ ins) (j + 1)) := hz
      rw [hz]
      delta mm_reactions_L74
      exact pw_some (by rw [ad_m (by omega)]))
    rintro ⟨y1, y2⟩ ⟨i, e1, i1, e2⟩
    have e1 : y2 = Int32.ofNat i := e1
    have e2 : y1 = Int32.ofNat (rcJ (gsh M b) (2 ^ ins) j + rcI (gsh M b) j i) := e2
    have ti : (Int32.ofNat i).toInt = (i : Int) := Int32.toInt_ofNat_of_lt (by omega)
    have b1 := rcJ_le (f := gsh M b) sh3 j
    have b2 := rcI_le (f := gsh M b) (j := j) i
    show dc_pw (mm_reactions_b15 (md_i M 0 0) b y1 (Int32.ofNat j) y2) _
    rw [e1, e2]
    delta mm_reactions_b15
    rw [e45, sh1, cel_m]
    refine pw_ifc (fun c => ?_) (fun c => ?_)
    · have c := i_lt.mp c
      rw [ti, tW] at c
      have c1n : (Int32.ofNat (16 * j + i)).toInt.toNat = 16 * j + i := by rw [Int32.toInt_ofNat_of_lt (by omega)]; omega
      refine pw_ix (fun _ _ => ?_)
      rw [c1n]
      have no : ¬ (¬ M.2.1 92 (16 * j + i) = -1 ∧ (M.2.1 93 (16 * j + i) &&& b) = b) → dc_pw (mm_reactions_L65 (md_i M 0 0) b (Int32.ofNat j) (Int32.ofNat i) (Int32.ofNat (rcJ (gsh M b) (2 ^ ins) j + rcI (gsh M b) j i))) (Sum.elim (fun (y : Int32 × Int32) => ∃ i, y.2 = Int32.ofNat i ∧ i ≤ 2 ^ ins ∧ y.1 = Int32.ofNat (rcJ (gsh M b) (2 ^ ins) j + rcI (gsh M b) j i)) (fun v => v = Int32.ofNat (rcJ (gsh M b) (2 ^ ins) (j + 1)))) := by
        intro hn
        delta mm_reactions_L65 mm_reactions_L66
        refine pw_some ⟨i + 1, ad_m (by omega), by omega, ?_⟩
        show _ + 0 = Int32.ofNat (rcJ (gsh M b) (2 ^ ins) j + (rcI (gsh M b) j i + if gsh M b (16 * j + i) = -1 then 0 else 1))
        rw [if_pos (gsh_1.mpr hn), Int32.add_zero, Nat.add_zero]
      refine pw_ifc (fun d => no (fun z => z.1 d)) (fun d => ?_)
      refine pw_ix (fun _ _ => ?_)
      rw [c1n]
      refine pw_ifc (fun e => ?_) (fun e => no (fun z => e z.2))
      have d : ¬ M.2.1 92 (16 * j + i) = -1 := d
      have e : (M.2.1 93 (16 * j + i) &&& b) = b := e
      delta mm_reactions_L66
      refine pw_some ⟨i + 1, ad_m (by omega), by omega, ?_⟩
      show _ + 1 = Int32.ofNat (rcJ (gsh M b) (2 ^ ins) j + (rcI (gsh M b) j i + if gsh M b (16 * j + i) = -1 then 0 else 1))
      rw [if_neg (fun z => (gsh_1.mp z) ⟨d, e⟩), ad_m (by omega), Nat.add_assoc]
    · have c : ¬ (Int32.ofNat i).toInt < (Int32.ofNat (2 ^ ins)).toInt := fun z => c (i_lt.mpr z)
      rw [ti, tW] at c
      have ei : i = 2 ^ ins := by omega
      rw [ei]
      exact pw_some rfl
  have key : dc_pw (mm_reactions (md_i M 0 0) b) (fun v => v = Int32.ofNat (rcJ (gsh M b) (2 ^ ins) cnt)) := by
    delta mm_reactions mm_reactions_L4
    refine pw_loop (fun (y : Int32 × Int32) => ∃ j, y.2 = Int32.ofNat j ∧ j ≤ cnt ∧ y.1 = Int32.ofNat (rcJ (gsh M b) (2 ^ ins) j)) (fun v => v = Int32.ofNat (rcJ (gsh M b) (2 ^ ins) cnt)) ⟨0, rfl, by omega, rfl⟩ ?_ (fun z hz => pw_some hz)
    rintro ⟨y1, y2⟩ ⟨j, e1, j1, e2⟩
    have e1 : y2 = Int32.ofNat j := e1
    have e2 : y1 = Int32.ofNat (rcJ (gsh M b) (2 ^ ins) j) := e2
    have tj : (Int32.ofNat j).toInt = (j : Int) := Int32.toInt_ofNat_of_lt (by omega)
    show dc_pw (mm_reactions_b4 (md_i M 0 0) b y1 y2) _
    rw [e1, e2]
    delta mm_reactions_b4
    rw [e87]
    refine pw_ifc (fun c => ?_) (fun c => ?_)
    · have c := i_lt.mp c
      rw [tj, tc] at c
      intro z hz0
      have hz := inner j (by omega) z hz0
      rw [hz]
      exact ⟨j + 1, rfl, by omega, rfl⟩
    · have c : ¬ (Int32.ofNat j).toInt < (Int32.ofNat cnt).toInt := fun z => c (i_lt.mpr z)
      rw [tj, tc] at c
      have ej : j = cnt := by omega
      rw [ej]
      exact pw_some rfl
  exact key v hq
theorem gsh_0 (h : EXa G S M oA bA q cnt pa ins) : q.2 10 = Int32.ofNat (rcJ (gsh M 0) (2 ^ ins) cnt) := by
  rw [h.2.1.2.2.1.1]
  have e : rcJ (gsh M 0) (2 ^ ins) cnt = rcJ (M.2.1 92) (2 ^ ins) cnt := rcJ_cg cnt (fun j k _ _ => by
    rw [gsh_1, Int32.and_zero]
    exact ⟨fun z => Classical.byContradiction (fun w => z ⟨w, rfl⟩), fun z w => w.1 z⟩)
  rw [e]
  rfl
/-- the class counts them -/
theorem rea_c (h0 : hw S) (h : EXa G S M oA bA q cnt pa ins) : dc_wp (hm_AT_reactionsWith G S oA b) (fun v => v = Int32.ofNat (rcJ (gsh M b) (2 ^ ins) cnt)) := by
  have aw := EXa_w h0 h
  obtain ⟨-, ⟨hS, hC, -⟩, ⟨h8, h45, i4, -⟩, -⟩ := h
  have c257 := hS.1.2.2
  obtain ⟨sh1, sh2, sh3⟩ := sh_ins ins i4
  have tW : (Int32.ofNat (2 ^ ins)).toInt = ((2 ^ ins : Nat) : Int) := Int32.toInt_ofNat_of_lt (by omega)
  have tc : (Int32.ofNat cnt).toInt = (cnt : Int) := Int32.toInt_ofNat_of_lt (by omega)
  have w0 : (wN 0 : Int) = 4112 := rfl
  have w1 : (wN 1 : Int) = 4112 := rfl
  have w5 : (wN 5 : Int) = 257 := rfl
  have inner : ∀ j, j < cnt → dc_wp (hm_AT_reactionsWith_L15 G S oA b (Int32.ofNat (rcJ (gsh M b) (2 ^ ins) j)) (Int32.ofNat j) 0) (fun z => z = .inl (Int32.ofNat (rcJ (gsh M b) (2 ^ ins) (j + 1)), Int32.ofNat (j + 1))) := by
    intro j hj
    have tj : (Int32.ofNat j).toInt = (j : Int) := Int32.toInt_ofNat_of_lt (by omega)
    have key := dc_itK (step := hm_AT_reactionsWith_s15 G S oA b (Int32.ofNat j)) (fun d (y : Int32 × Int32) => ∃ i, y.2 = Int32.ofNat i ∧ i ≤ 2 ^ ins ∧ d = 2 ^ ins - i ∧ y.1 = Int32.ofNat (rcJ (gsh M b) (2 ^ ins) j + rcI (gsh M b) j i)) (F := fun v => v = Int32.ofNat (rcJ (gsh M b) (2 ^ ins) (j + 1))) (by
      rintro d ⟨y1, y2⟩ ⟨i, e1, i1, ed, e2⟩
      have e1 : y2 = Int32.ofNat i := e1
      have e2 : y1 = Int32.ofNat (rcJ (gsh M b) (2 ^ ins) j + rcI (gsh M b) j i) := e2
      have ti : (Int32.ofNat i).toInt = (i : Int) := Int32.toInt_ofNat_of_lt (by omega)
      have b1 := rcJ_le (f := gsh M b) sh3 j
      have b2 := rcI_le (f := gsh M b) (j := j) i
      show dc_wp (hm_AT_reactionsWith_b15 G S oA b y1 (Int32.ofNat j) y2) _
      rw [e1, e2]
      delta hm_AT_reactionsWith_b15
      refine aw_i aw (i := 8) (by decide) (by decide) ?_
      rw [h8]
      refine wq_if (fun c => ?_) (fun c => ?_)
      · have c := i_lt.mp c
        rw [ti, tW] at c
        refine aw_g aw (i := 5) (by decide) ?_
        refine aw_l aw (i := 5) (by decide) (by omega) (by omega) ?_
        rw [tj_n hj c257, (hS.2.1 j hj).2.2.1]
        have sr := (hS.2.1 j hj).1
        have sx := ofN_t sr.1 (by omega)
        delta hm_AT_cell
        have ec : M.2.1 88 j * 16 + Int32.ofNat i = Int32.ofNat (16 * (M.2.1 88 j).toInt.toNat + i) := by rw [← cel_n, sx]
        rw [ec]
        have c1 : (Int32.ofNat (16 * (M.2.1 88 j).toInt.toNat + i)).toInt = ((16 * (M.2.1 88 j).toInt.toNat + i : Nat) : Int) := Int32.toInt_ofNat_of_lt (by omega)
        have c1n : (Int32.ofNat (16 * (M.2.1 88 j).toInt.toNat + i)).toInt.toNat = 16 * (M.2.1 88 j).toInt.toNat + i := by omega
        refine (show dc_wp ((hg_gr S (some (wO (S, oA, bA))) 11 0).bind _) _ from ?_)
        refine aw_g aw (i := 0) (by decide) ?_
        refine aw_l aw (i := 0) (by decide) (by omega) (by omega) ?_
        obtain ⟨k1, k2, -⟩ := hC j i (Or.inl ⟨hj, by omega⟩)
        rw [c1n, k1]
        have no : ¬ (¬ M.2.1 92 (16 * j + i) = -1 ∧ (M.2.1 93 (16 * j + i) &&& b) = b) → dc_wp (hm_AT_reactionsWith_L64 G S oA b (Int32.ofNat (rcJ (gsh M b) (2 ^ ins) j + rcI (gsh M b) j i)) (Int32.ofNat j) (Int32.ofNat i)) (Sum.elim (fun (y : Int32 × Int32) => ∃ k', k' < d ∧ ∃ i, y.2 = Int32.ofNat i ∧ i ≤ 2 ^ ins ∧ k' = 2 ^ ins - i ∧ y.1 = Int32.ofNat (rcJ (gsh M b) (2 ^ ins) j + rcI (gsh M b) j i)) (fun v => v = Int32.ofNat (rcJ (gsh M b) (2 ^ ins) (j + 1)))) := by
          intro hn
          delta hm_AT_reactionsWith_L64
          refine ⟨_, rfl, 2 ^ ins - (i + 1), by omega, i + 1, ad_m (by omega), by omega, rfl, ?_⟩
          show _ = Int32.ofNat (rcJ (gsh M b) (2 ^ ins) j + (rcI (gsh M b) j i + if gsh M b (16 * j + i) = -1 then 0 else 1))
          rw [if_pos (gsh_1.mpr hn), Nat.add_zero]
        refine wq_if (fun e => no (fun z => z.1 e)) (fun e => ?_)
        refine aw_g aw (i := 1) (by decide) ?_
        refine aw_l aw (i := 1) (by decide) (by omega) (by omega) ?_
        rw [c1n, k2, if_neg e]
        refine wq_if (fun e2 => ?_) (fun e2 => no (fun z => e2 z.2))
        delta hm_AT_reactionsWith_L64
        refine ⟨_, rfl, 2 ^ ins - (i + 1), by omega, i + 1, ad_m (by omega), by omega, rfl, ?_⟩
        show _ + 1 = Int32.ofNat (rcJ (gsh M b) (2 ^ ins) j + (rcI (gsh M b) j i + if gsh M b (16 * j + i) = -1 then 0 else 1))
        rw [if_neg (fun z => (gsh_1.mp z) ⟨e, e2⟩), ad_m (by omega), Nat.add_assoc]
      · have c : ¬ (Int32.ofNat i).toInt < (Int32.ofNat (2 ^ ins)).toInt := fun z => c (i_lt.mpr z)
        rw [ti, tW] at c
        have ei : i = 2 ^ ins := by omega
        rw [ei]
        exact ⟨_, rfl, rfl⟩)
    delta hm_AT_reactionsWith_L15
    refine wq_call (key (2 ^ ins) _ ⟨0, rfl, by omega, rfl, rfl⟩) (fun v hv => ?_)
    delta hm_AT_reactionsWith_L70
    exact ⟨_, rfl, by rw [hv, ad_m (by omega)]⟩
  have key := dc_itK (step := hm_AT_reactionsWith_s4 G S oA b) (fun d (y : Int32 × Int32) => ∃ j, y.2 = Int32.ofNat j ∧ j ≤ cnt ∧ d = cnt - j ∧ y.1 = Int32.ofNat (rcJ (gsh M b) (2 ^ ins) j)) (F := fun v => v = Int32.ofNat (rcJ (gsh M b) (2 ^ ins) cnt)) (by
    rintro d ⟨y1, y2⟩ ⟨j, e1, j1, ed, e2⟩
    have e1 : y2 = Int32.ofNat j := e1
    have e2 : y1 = Int32.ofNat (rcJ (gsh M b) (2 ^ ins) j) := e2
    have tj : (Int32.ofNat j).toInt = (j : Int) := Int32.toInt_ofNat_of_lt (by omega)
    show dc_wp (hm_AT_reactionsWith_b4 G S oA b y1 y2) _
    rw [e1, e2]
    delta hm_AT_reactionsWith_b4
    refine aw_i aw (i := 9) (by decide) (by decide) ?_
    rw [hS.1.1]
    refine wq_if (fun c => ?_) (fun c => ?_)
    · have c := i_lt.mp c
      rw [tj, tc] at c
      refine wq_w (inner j (by omega)) (fun z hz => ?_)
      rw [hz]
      exact ⟨cnt - (j + 1), by omega, j + 1, rfl, by omega, rfl, rfl⟩
    · have c : ¬ (Int32.ofNat j).toInt < (Int32.ofNat cnt).toInt := fun z => c (i_lt.mpr z)
      rw [tj, tc] at c
      have ej : j = cnt := by omega
      rw [ej]
      exact ⟨_, rfl, rfl⟩)
  delta hm_AT_reactionsWith hm_AT_reactionsWith_L4
  refine wq_call (key cnt (0, 0) ⟨0, rfl, by omega, rfl, rfl⟩) (fun v hv => ?_)
  delta hm_AT_reactionsWith_L76
  exact ⟨_, rfl, hv⟩
/-- a number of reactions is no -1 -/
theorem rcJ_n (h : EXa G S M oA bA q cnt pa ins) {g : Nat → Int32} : (Int32.ofNat (rcJ g (2 ^ ins) cnt)).toInt = (rcJ g (2 ^ ins) cnt : Int) := by
  have c257 := h.2.1.1.1.2.2
  have b1 := rcJ_le (f := g) (sh_ins ins h.2.2.1.2.2.1).2.2 cnt
  exact Int32.toInt_ofNat_of_lt (by omega)
variable {u t0 n ps sg io : Nat} {T : tT} {R : Nat → Nat → Int32} {c : Nat → Int32} {X : Nat → Nat → Int32} {cn hf sf : Nat → Int32}
theorem out_c (hl : LDp G S M u t0 T n ps sg io pa R c X cn hf sf) : dc_wp (hm_PG_hasOutput G S u p1) (fun v => (v = 1 ∧ ¬ p1 < 0 ∧ p1 < M.1 46) ∨ (v = 0 ∧ ¬ (¬ p1 < 0 ∧ p1 < M.1 46))) := by
  obtain ⟨⟨nm, hnm, hpv⟩, -, ⟨-, -, -, -, k2, -⟩, -⟩ := hl.1.1
  delta hm_PG_hasOutput hm_PG_hasOutput_L16 hm_PG_hasOutput_L17
  refine wq_if (fun a => zb_s (Or.inl rfl) ⟨_, rfl, Or.inr ⟨rfl, fun z => z.1 a⟩⟩) (fun a => ?_)
  refine wq_gi (x := c 2) hpv.1 rfl ?_
  rw [k2]
  exact wq_if (fun b => zb_s (Or.inr rfl) ⟨_, rfl, Or.inl ⟨rfl, a, b⟩⟩) (fun b => zb_s (Or.inl rfl) ⟨_, rfl, Or.inr ⟨rfl, fun z => b z.2⟩⟩)
/-- together, as both sides see it -/
def tgP (M : md_S) (q : rsT) (p1 p2 : Int32) : Prop := ¬ q.2 10 = 0 ∧ (¬ p1 < 0 ∧ p1 < M.1 46) ∧ ¬ p2 < 0 ∧ p2 < M.1 46
theorem tg_c (he : hg_at S.1 o = some (.inr (0, enL t nn f (.ref u) rc hd sh st en rn (.ref oA) tn 1 la))) (h : EXa G S M oA bA q cnt pa ins) (h0 : hw S) (hl : LDp G S M u t0 T n ps sg io pa R c X cn hf sf) : dc_wp (hm_SE_together G S o p1 p2) (fun v => (tgP M q p1 p2 ∧ v = Int32.ofNat (rcJ (gsh M (((1 : Int32) <<< (p1 &&& (31 : Int32))) ||| ((1 : Int32) <<< (p2 &&& (31 : Int32))))) (2 ^ ins) cnt)) ∨ (¬ tgP M q p1 p2 ∧ v = -1)) := by
  obtain ⟨nm, hnm, hpv⟩ := hl.1.1.1
  delta hm_SE_together hm_SE_together_L39
  refine wq_gi (x := 1) he rfl ?_
  rw [if_neg (by decide)]
  refine wq_gr (x := some oA) he rfl ?_
  refine wq_gi (x := q.2 10) h.1.1.1 rfl ?_
  refine wq_if (fun a => ⟨_, rfl, Or.inr ⟨fun z => z.1 a, rfl⟩⟩) (fun a => ?_)
  refine wq_gr (x := some u) he rfl ?_
  refine wq_chk hpv.1 ?_
  refine wq_call (out_c hl) (fun v hv => ?_)
  rcases hv with ⟨v1, v2⟩ | ⟨v1, v2⟩
  · rw [if_neg (by rw [v1]; decide)]
    refine wq_gr (x := some u) he rfl ?_
    refine wq_chk hpv.1 ?_
    refine wq_call (out_c hl) (fun v' hv' => ?_)
    rcases hv' with ⟨v3, v4⟩ | ⟨v3, v4⟩
    · rw [if_neg (by rw [v3]; decide)]
      refine wq_gr (x := some oA) he rfl ?_
      refine wq_chk h.1.1.1 ?_
      refine wq_call (rea_c h0 h) (fun w hw' => ?_)
      exact ⟨_, rfl, Or.inl ⟨⟨a, v2, v4⟩, hw'⟩⟩
    · rw [if_pos v3]
      exact ⟨_, rfl, Or.inr ⟨fun z => v4 z.2.2, rfl⟩⟩
  · rw [if_pos v1]
    exact ⟨_, rfl, Or.inr ⟨fun z => v2 z.2.1, rfl⟩⟩
theorem xd_together (he : hg_at S.1 o = some (.inr (0, enL t nn f (.ref u) rc hd sh st en rn (.ref oA) tn 1 la))) (h : EXa G S M oA bA q cnt pa ins) (h0 : hw S) (hl : LDp G S M u t0 T n ps sg io pa R c X cn hf sf) (h85 : M.1 85 = 1) {r : md_S × Int32} (hq : mm_together M p1 p2 = some r) : r.1 = md_i M 0 0 ∧ dc_wp (hm_SE_together G S o p1 p2) (fun v => v = r.2) := by
  have mi : ∀ i, ¬ i = 0 → (md_i M 0 0).1 i = M.1 i := fun i hi => by rw [md_i1, if_neg hi]
  have ref : r.1 = md_i M 0 0 ∧ ((tgP M q p1 p2 ∧ r.2 = Int32.ofNat (rcJ (gsh M (((1 : Int32) <<< (p1 &&& (31 : Int32))) ||| ((1 : Int32) <<< (p2 &&& (31 : Int32))))) (2 ^ ins) cnt)) ∨ (¬ tgP M q p1 p2 ∧ r.2 = -1)) := by
    have no : ¬ tgP M q p1 p2 → mm_together_L44 (md_i M 0 0) p1 p2 = some r → r.1 = md_i M 0 0 ∧ ((tgP M q p1 p2 ∧ r.2 = Int32.ofNat (rcJ (gsh M (((1 : Int32) <<< (p1 &&& (31 : Int32))) ||| ((1 : Int32) <<< (p2 &&& (31 : Int32))))) (2 ^ ins) cnt)) ∨ (¬ tgP M q p1 p2 ∧ r.2 = -1)) := by
      intro hn e
      delta mm_together_L44 mm_together_L49 mm_together_L69 at e
      rw [if_neg (by decide)] at e
      have er : r = (md_i M 0 0, -1) := (Option.some.inj e).symm
      rw [er]
      exact ⟨rfl, Or.inr ⟨hn, rfl⟩⟩
    delta mm_together dc_let at hq
    dsimp only at hq
    rw [mi 85 (by decide), mi 46 (by decide), if_neg (by rw [h85]; decide)] at hq
    rcases iv_if hq with ⟨a, hq⟩ | ⟨a, hq⟩
    · exact no (fun z => z.2.1.1 a) hq
    rcases iv_if hq with ⟨b1, hq⟩ | ⟨b1, hq⟩
    case inr => exact no (fun z => b1 z.2.1.2) hq
    rcases iv_if hq with ⟨c1, hq⟩ | ⟨c1, hq⟩
    · exact no (fun z => z.2.2.1 c1) hq
    rcases iv_if hq with ⟨d1, hq⟩ | ⟨d1, hq⟩
    case inr => exact no (fun z => d1 z.2.2.2) hq
    obtain ⟨w, hw', hq⟩ := iv_bind hq
    have ew := rea_r h hw'
    rw [← gsh_0 h] at ew
    rcases iv_if hq with ⟨e1, hq⟩ | ⟨e1, hq⟩
    · exact no (fun z => z.1 (by rw [← ew]; exact e1)) hq
    delta mm_together_L49 mm_together_L69 at hq
    rw [if_pos rfl] at hq
    obtain ⟨w2, hw2, hq⟩ := iv_bind hq
    have er : r = (md_i M 0 0, w2) := (Option.some.inj hq).symm
    rw [er]
    exact ⟨rfl, Or.inl ⟨⟨by rw [← ew]; exact e1, ⟨a, b1⟩, c1, d1⟩, rea_r h hw2⟩⟩
  refine ⟨ref.1, ?_⟩
  refine wq_w (tg_c he h h0 hl) (fun v hv => ?_)
  rcases hv with ⟨v1, v2⟩ | ⟨v1, v2⟩
  · rcases ref.2 with ⟨-, e⟩ | ⟨e, -⟩
    · rw [v2, e]
    · exact absurd v1 e
  · rcases ref.2 with ⟨e, -⟩ | ⟨-, e⟩
    · exact absurd e v1
    · rw [v2, e]
theorem xd_ever (he : hg_at S.1 o = some (.inr (0, enL t nn f (.ref u) rc hd sh st en rn (.ref oA) tn 1 la))) (h : EXa G S M oA bA q cnt pa ins) (h0 : hw S) (hl : LDp G S M u t0 T n ps sg io pa R c X cn hf sf) (h85 : M.1 85 = 1) {r : md_S × Int32} (hq : mm_ever M p1 = some r) : r.1 = md_i M 0 0 ∧ dc_wp (hm_SE_ever G S o p1) (fun v => v = r.2) := by
  have mi : ∀ i, ¬ i = 0 → (md_i M 0 0).1 i = M.1 i := fun i hi => by rw [md_i1, if_neg hi]
  have tn1 := rcJ_n h (g := gsh M ((1 : Int32) <<< (p1 &&& (31 : Int32))))
  generalize hN : Int32.ofNat (rcJ (gsh M ((1 : Int32) <<< (p1 &&& (31 : Int32)))) (2 ^ ins) cnt) = N at tn1
  have nN : ¬ N = -1 := fun z => by rw [z, il_m1] at tn1; omega
  have ref : r.1 = md_i M 0 0 ∧ ((tgP M q p1 p1 ∧ r.2 = if N = 0 then 0 else if N = q.2 10 then 2 else 1) ∨ (¬ tgP M q p1 p1 ∧ r.2 = -1)) := by
    have no : ¬ tgP M q p1 p1 → mm_ever_L32 (md_i M 0 0) = some r → r.1 = md_i M 0 0 ∧ ((tgP M q p1 p1 ∧ r.2 = if N = 0 then 0 else if N = q.2 10 then 2 else 1) ∨ (¬ tgP M q p1 p1 ∧ r.2 = -1)) := by
      intro hn e
      have er : r = (md_i M 0 0, -1) := (Option.some.inj e).symm
      rw [er]
      exact ⟨rfl, Or.inr ⟨hn, rfl⟩⟩
    delta mm_ever dc_let at hq
    dsimp only at hq
    rw [mi 85 (by decide), mi 46 (by decide), if_neg (by rw [h85]; decide)] at hq
    rcases iv_if hq with ⟨a, hq⟩ | ⟨a, hq⟩
    · exact no (fun z => z.2.1.1 a) hq
    rcases iv_if hq with ⟨b1, hq⟩ | ⟨b1, hq⟩
    case inr => exact no (fun z => b1 z.2.1.2) hq
    obtain ⟨w, hw', hq⟩ := iv_bind hq
    have ew := rea_r h hw'
    rw [← gsh_0 h] at ew
    rcases iv_if hq with ⟨e1, hq⟩ | ⟨e1, hq⟩
    · exact no (fun z => z.1 (by rw [← ew]; exact e1)) hq
    have tg : tgP M q p1 p1 := ⟨by rw [← ew]; exact e1, ⟨a, b1⟩, a, b1⟩
    obtain ⟨w2, hw2, hq⟩ := iv_bind hq
    have ew2 := rea_r h hw2
    rw [hN] at ew2
    subst ew2
    delta mm_ever_L64 at hq
    rcases iv_if hq with ⟨f1, hq⟩ | ⟨f1, hq⟩
    · have er : r = (md_i M 0 0, 0) := (Option.some.inj hq).symm
      rw [er]
      exact ⟨rfl, Or.inl ⟨tg, by rw [if_pos f1]⟩⟩
    obtain ⟨w3, hw3, hq⟩ := iv_bind hq
    have ew3 := rea_r h hw3
    rw [← gsh_0 h] at ew3
    subst ew3
    rcases iv_if hq with ⟨g1, hq⟩ | ⟨g1, hq⟩
    · have er : r = (md_i M 0 0, 2) := (Option.some.inj hq).symm
      rw [er]
      exact ⟨rfl, Or.inl ⟨tg, by rw [if_neg f1, if_pos g1]⟩⟩
    · have er : r = (md_i M 0 0, 1) := (Option.some.inj hq).symm
      rw [er]
      exact ⟨rfl, Or.inl ⟨tg, by rw [if_neg f1, if_neg g1]⟩⟩
  refine ⟨ref.1, ?_⟩
  delta hm_SE_ever hm_SE_ever_L16 hm_SE_ever_L34
  refine wq_chk he ?_
  refine wq_call (tg_c he h h0 hl) (fun v hv => ?_)
  rw [Int32.or_self, hN] at hv
  rcases hv with ⟨v1, v2⟩ | ⟨v1, v2⟩
  · rcases ref.2 with ⟨-, e⟩ | ⟨e, -⟩
    case inr => exact absurd v1 e
    subst v2
    rw [if_neg nN, e]
    refine wq_if (fun z => ⟨_, rfl, by rw [if_pos z, z]⟩) (fun z => ?_)
    refine wq_gr (x := some oA) he rfl ?_
    refine wq_gi (x := q.2 10) h.1.1.1 rfl ?_
    rw [if_neg z]
    exact wq_if (fun y => ⟨_, rfl, by rw [if_pos y]⟩) (fun y => ⟨_, rfl, by rw [if_neg y]⟩)
  · rcases ref.2 with ⟨e, -⟩ | ⟨-, e⟩
    · exact absurd e v1
    rw [if_pos v2]
    exact ⟨_, rfl, by rw [v2, e]⟩
end XCC
