/-! skip, take, enter of the parser beside the reference's reader -/
theorem iv_bind {α β : Type} {E : Option α} {g : α → Option β} {q : β} (h : E.bind g = some q) : ∃ a, E = some a ∧ g a = some q := by
  cases E with
  | none => cases h
  | some a => exact ⟨a, rfl, h⟩
theorem iv_if {β : Type} {c : Prop} [Decidable c] {E1 E2 : Option β} {q : β} (h : (if c then E1 else E2) = some q) : (c ∧ E1 = some q) ∨ (¬ c ∧ E2 = some q) := by
  by_cases hc : c
  · rw [if_pos hc] at h; exact Or.inl ⟨hc, h⟩
  · rw [if_neg hc] at h; exact Or.inr ⟨hc, h⟩
theorem iv_ix {β : Type} {i : Int32} {m : Nat} {g : Nat → Option β} {q : β} (h : (dc_ix i m).bind g = some q) : 0 ≤ i.toInt ∧ i.toInt < (m : Int) ∧ g i.toInt.toNat = some q := by
  obtain ⟨a, e, h⟩ := iv_bind h
  unfold dc_ix at e
  split at e
  · cases e
  · rename_i c
    cases e
    have c3 : 0 ≤ i.toInt := by
      have c4 : ¬ i.toInt < (0 : Int32).toInt := fun z => c (Or.inl (i_lt.mpr z))
      rw [il_0] at c4
      omega
    have e1 : i.toNatClampNeg = i.toInt.toNat := rfl
    rw [e1] at c h
    exact ⟨c3, by have c5 : ¬ m ≤ i.toInt.toNat := fun z => c (Or.inr z); omega, h⟩
theorem lt00 : ¬ (0 : Int32) < 0 := by decide
section TKL
variable {j i : Nat} {M M' : md_S}
theorem meetsW_i {q : md_S × Int32} {w : Int64} (ht : tokS (some j) (M.1 6) M.2.2.1) (h0 : M.1 10 = 0) (hi : i < 26) (hw : w = kw.getD i 0) (hq : mm_meetsWord M w = some q) : (j = i ∧ q.2 = 1 ∧ mm_advance M = some q.1) ∨ (¬ j = i ∧ q = (M, 0)) := by
  subst hw
  delta mm_meetsWord at hq
  rw [h0, if_neg lt00, isWord_e, kstep] at hq
  have e := tk_word ht hi
  rcases iv_if hq with ⟨c, g⟩ | ⟨c, g⟩
  · obtain ⟨a, ea, ga⟩ := iv_bind g
    cases ga
    exact Or.inl ⟨e.mp c, rfl, ea⟩
  · cases g
    exact Or.inr ⟨fun z => c (e.mpr z), rfl⟩
theorem meetsS_i {q : md_S × Int32} {p : Int32} (ht : tokS (some j) (M.1 6) M.2.2.1) (h0 : M.1 10 = 0) (hi : i < 5) (hw : Int32.toInt64 p = sg.getD i 0) (hq : mm_meetsSign M p = some q) : (j = 26 + i ∧ q.2 = 1 ∧ mm_advance M = some q.1) ∨ (¬ j = 26 + i ∧ q = (M, 0)) := by
  delta mm_meetsSign at hq
  rw [h0, if_neg lt00, isSign_e, kstep, hw] at hq
  have e := tk_sign ht hi
  rcases iv_if hq with ⟨c, g⟩ | ⟨c, g⟩
  · obtain ⟨a, ea, ga⟩ := iv_bind g
    cases ga
    exact Or.inl ⟨e.mp c, rfl, ea⟩
  · cases g
    exact Or.inr ⟨fun z => c (e.mpr z), rfl⟩
theorem fail_i {p1 p2 : Int32} (h0 : M.1 10 = 0) (hq : mm_fail M p1 p2 = some M') : M' = md_i M 10 (p1 + 8 * p2) := by
  delta mm_fail at hq
  rw [if_pos h0] at hq
  cases hq
  rfl
theorem fail_f {p1 p2 : Int32} (h0 : M.1 10 = 0) (hq : mm_fail M p1 p2 = some M') : M'.1 10 = p1 + 8 * p2 := by
  rw [fail_i h0 hq]; exact md_ii
theorem must_i {w : Int64} (ht : tokS (some j) (M.1 6) M.2.2.1) (h0 : M.1 10 = 0) (hi : i < 26) (hw : w = kw.getD i 0) (hq : mm_mustWord M w = some M') : (j = i ∧ mm_advance M = some M') ∨ (¬ j = i ∧ M'.1 10 = 1 + 8 * M.1 8) := by
  delta mm_mustWord at hq
  obtain ⟨q, e1, h1⟩ := iv_bind hq
  rcases meetsW_i ht h0 hi hw e1 with ⟨a, b, c⟩ | ⟨a, rfl⟩
  · rw [if_neg (by rw [b]; decide)] at h1
    cases h1
    exact Or.inl ⟨a, c⟩
  · rw [if_pos rfl] at h1
    obtain ⟨q2, e2, h2⟩ := iv_bind h1
    cases h2
    exact Or.inr ⟨a, fail_f h0 e2⟩
theorem deeper_i (h0 : M.1 10 = 0) (hq : mm_deeper M = some M') : (¬ M.1 11 = 24 ∧ M' = md_i M 11 (M.1 11 + 1)) ∨ (M.1 11 = 24 ∧ M'.1 10 = 5 + 8 * M.1 8) := by
  delta mm_deeper at hq
  rcases iv_if hq with ⟨c, g⟩ | ⟨c, g⟩
  · obtain ⟨q2, e2, h2⟩ := iv_bind g
    have := fail_f h0 e2
    delta mm_deeper_L18 at h2
    have h2 : some (md_i q2 11 (q2.1 11 + 1)) = some M' := h2
    cases h2
    exact Or.inr ⟨c, (md_ij (by omega)).trans this⟩
  · delta mm_deeper_L18 at g
    have g : some (md_i M 11 (M.1 11 + 1)) = some M' := g
    cases g
    exact Or.inl ⟨c, rfl⟩
end TKL
section TKW
variable {G : hg_E} {sz t0 : Nat} {H0 : Nat → Option va_E} {K1 K2 n : Nat} {f : Nat → Int32} {S S' : hg_S} {A C : Nat → Nat} {B : Nat → Nat → Int32} {Q : Nat → Int32} {i j : Nat} {el : Nat → Option Nat} {P : Nat → Nat} {ND : Nat → ndT} {M M' : md_S} {b u w : Int}
theorem tok_eq (hok : lw_ok G sz) (hj : j < 33) (hi : i < 33) : (some (G.2.1 j) = some (G.2.1 i)) ↔ j = i := ⟨fun e => hok.1 _ _ hj hi (Option.some.inj e), fun e => by rw [e]⟩
theorem skip_l (hok : lw_ok G sz) (h : PV G t0 H0 K1 K2 n f S A C B Q j el P ND) (r : RM M C B n f Q j b u w) (hK : 40 * n + 70 ≤ K1 ∧ 200 * n + 400 ≤ K2) (hi : i < 33) (hm : (j = i ∧ mm_advance M = some M') ∨ (¬ j = i ∧ M' = M)) : dc_wp (hm_PA_skip G S (A 0) (some (G.2.1 i))) (fun z => (j = i ∧ ∃ S', z = .inl (S', 1) ∧ okA G t0 H0 K1 K2 n f S A C B Q el P ND M u w S' M') ∨ (¬ j = i ∧ z = .inl (S, 0) ∧ M' = M) ∨ (j = i ∧ ∃ X : hg_X, z = .inr X ∧ thr t0 H0 K1 K2 n (A 0) (A 1) X M')) := by
  have k1 : ∀ S2, hm_PA_skip_L28 G S2 (A 0) 1 = some (.inl (S2, 1)) := by
    intro S2
    show (dc_zb 1).bind (fun _ => _) = _
    rw [zb1]; rfl
  have k0 : ∀ S2, hm_PA_skip_L28 G S2 (A 0) 0 = some (.inl (S2, 0)) := by
    intro S2
    show (dc_zb 0).bind (fun _ => _) = _
    rw [zb0]; rfl
  delta hm_PA_skip
  refine wq_gr (x := some (A 1)) h.pa rfl ?_
  refine wq_gr (x := some (G.2.1 j)) h.lx.1 rfl ?_
  rcases hm with ⟨e, ha⟩ | ⟨e, ha⟩
  · rw [if_pos ((tok_eq hok r.2.1.1 hi).mpr e)]
    delta hm_PA_skip_L16
    rw [if_neg (by decide)]
    refine wq_gr (x := some (A 1)) h.pa rfl ?_
    refine wq_chk h.lx.1 ?_
    refine wq_call (adv_l hok h r hK ha) ?_
    rintro z (⟨S2, rfl, g⟩ | ⟨X, rfl, g⟩)
    · show dc_wp (hm_PA_skip_L28 G S2 (A 0) 1) _
      rw [k1]
      exact ⟨_, rfl, Or.inl ⟨e, S2, rfl, g⟩⟩
    · exact ⟨_, rfl, Or.inr (Or.inr ⟨e, X, rfl, g⟩)⟩
  · rw [if_neg (fun z => e ((tok_eq hok r.2.1.1 hi).mp z))]
    delta hm_PA_skip_L16
    rw [if_pos rfl, k0]
    exact ⟨_, rfl, Or.inr (Or.inl ⟨e, rfl, ha⟩)⟩
theorem take_l (hok : lw_ok G sz) (h : PV G t0 H0 K1 K2 n f S A C B Q j el P ND) (r : RM M C B n f Q j b u w) (hK : 40 * n + 70 ≤ K1 ∧ 200 * n + 400 ≤ K2) (hi : i < 33) (hm : (j = i ∧ mm_advance M = some M') ∨ (¬ j = i ∧ M'.1 10 = 1 + 8 * M.1 8)) : dc_wp (hm_PA_take G S (A 0) (some (G.2.1 i))) (fun z => (j = i ∧ ∃ S', z = .inl S' ∧ okA G t0 H0 K1 K2 n f S A C B Q el P ND M u w S' M') ∨ ∃ X : hg_X, z = .inr X ∧ thr t0 H0 K1 K2 n (A 0) (A 1) X M') := by
  have hn : n ≤ 32768 := by have := r.1.1; omega
  delta hm_PA_take
  refine wq_gr (x := some (A 1)) h.pa rfl ?_
  refine wq_gr (x := some (A 1)) h.pa rfl ?_
  refine wq_gr (x := some (G.2.1 j)) h.lx.1 rfl ?_
  rcases hm with ⟨e, ha⟩ | ⟨e, ha⟩
  · rw [if_pos ((tok_eq hok r.2.1.1 hi).mpr e)]
    delta hm_PA_take_L20 hm_LX_require
    refine wq_chk h.lx.1 ?_
    rw [if_neg (by decide)]
    show dc_wp ((hg_gr S (some (A 0)) 4 0).bind _) _
    refine wq_gr (x := some (A 1)) h.pa rfl ?_
    refine wq_chk h.lx.1 ?_
    refine wq_call (adv_l hok h r hK ha) ?_
    rintro z (⟨S2, rfl, g⟩ | ⟨X, rfl, g⟩)
    · exact ⟨_, rfl, Or.inl ⟨e, S2, rfl, g⟩⟩
    · exact ⟨_, rfl, Or.inr ⟨X, rfl, g⟩⟩
  · rw [if_neg (fun z => e ((tok_eq hok r.2.1.1 hi).mp z))]
    delta hm_PA_take_L20 hm_LX_require
    refine wq_chk h.lx.1 ?_
    rw [if_pos rfl]
    refine wq_call (P := fun z => ∃ X : hg_X, z = .inr X ∧ thr t0 H0 K1 K2 n (A 0) (A 1) X M') ?_ ?_
    · refine wq_chk h.lx.1 ?_
      refine wq_call (rf_l h r hK (k := 1) (by decide) hn (Or.inl ha)) ?_
      rintro z ⟨X, rfl, g⟩
      exact ⟨_, rfl, X, rfl, g⟩
    · rintro z ⟨X, rfl, g⟩
      exact ⟨_, rfl, Or.inr ⟨X, rfl, g⟩⟩
/-- the token is not the one that is due -/
theorem req_no (h : PV G t0 H0 K1 K2 n f S A C B Q j el P ND) (r : RM M C B n f Q j b u w) (hK : 40 * n + 70 ≤ K1 ∧ 200 * n + 400 ≤ K2) (ha : stk (1 + 8 * M.1 8) M') : dc_wp (hm_LX_require G S (A 1) 0) (fun z => ∃ X : hg_X, z = .inr X ∧ thr t0 H0 K1 K2 n (A 0) (A 1) X M') := by
  have hn : n ≤ 32768 := by have := r.1.1; omega
  delta hm_LX_require
  rw [if_pos rfl]
  refine wq_chk h.lx.1 ?_
  refine wq_call (rf_l h r hK (k := 1) (by decide) hn ha) ?_
  rintro z ⟨X, rfl, g⟩
  exact ⟨_, rfl, X, rfl, g⟩
theorem req_ok {o : Nat} {x : Int32} (hx : ¬ x = 0) : hm_LX_require G S o x = some (.inl S) := by
  delta hm_LX_require
  rw [if_neg hx]
  rfl
/-- one more, one less open -/
theorem RM_op (r : RM M C B n f Q j b u w) {v : Int32} (v0 : 0 ≤ v.toInt) (v1 : v.toInt ≤ 24) (v2 : (M.1 19).toInt ≤ v.toInt) : RM (md_i M 11 v) C B n f (q1 Q 2 v) j b u w := by
  obtain ⟨r1, r2, r3, r4, r5, nm, ⟨tr0, ⟨tr1, tr2, tr3, tr4⟩, tr5⟩, op, pi, bb⟩ := r
  exact ⟨r1, r2, r3, r4, r5, nm, ⟨tr0, ⟨tr1, v2, tr3, tr4⟩, tr5⟩, ⟨rfl, v0, v1⟩, pi, bb⟩
theorem enter_l (h : PV G t0 H0 K1 K2 n f S A C B Q j el P ND) (r : RM M C B n f Q j b u w) (hK : 40 * n + 70 ≤ K1 ∧ 200 * n + 400 ≤ K2) (hm : (¬ M.1 11 = 24 ∧ M' = md_i M 11 (M.1 11 + 1)) ∨ (M.1 11 = 24 ∧ M'.1 10 = 5 + 8 * M.1 8)) : dc_wp (hm_PA_enter G S (A 0)) (fun z => (M' = md_i M 11 (M.1 11 + 1) ∧ (M.1 11).toInt < 24 ∧ ∃ S', z = .inl S' ∧ PV G t0 H0 K1 K2 n f S' A C B (q1 Q 2 (M.1 11 + 1)) j el P ND ∧ RM M' C B n f (q1 Q 2 (M.1 11 + 1)) j b u w) ∨ (M'.1 10 = 5 + 8 * M.1 8 ∧ ∃ X : hg_X, z = .inr X ∧ thr t0 H0 K1 K2 n (A 0) (A 1) X M')) := by
  have hn : n ≤ 32768 := by have := r.1.1; omega
  have q2 := r.2.2.2.2.2.2.2.1
  have t := r.2.2.2.2.2.2.1.2.1
  have i24 : (24 : Int32).toInt = 24 := by decide
  delta hm_PA_enter
  refine wq_gi (x := Q 2) h.pa rfl ?_
  rcases hm with ⟨e, ha⟩ | ⟨e, ha⟩
  · have lt : (M.1 11).toInt < 24 := by
      have : ¬ (M.1 11).toInt = 24 := fun z => e (i_eq.mpr (z.trans i24.symm))
      omega
    have ad : (M.1 11 + 1).toInt = (M.1 11).toInt + 1 := by rw [i_addS (by rw [il_1]; omega), il_1]
    rw [if_pos (i_lt.mpr (by rw [q2.1, i24]; exact lt))]
    delta hm_PA_enter_L17
    refine wq_gi (x := Q 2) h.pa rfl ?_
    refine wq_pf h.pa (Nat.le_of_ble_eq_true rfl) ?_
    refine ⟨_, rfl, Or.inl ⟨ha, lt, _, rfl, ?_, ?_⟩⟩
    · rw [← q2.1]
      exact PV_pa (i := 2) h (by omega)
    · rw [ha]
      exact RM_op r (by omega) (by omega) (by omega)
  · rw [if_neg (fun z => by have := i_lt.mp z; rw [q2.1, e] at this; omega)]
    refine wq_gr (x := some (A 1)) h.pa rfl ?_
    refine wq_chk h.lx.1 ?_
    refine wq_call (rf_l h r hK (k := 5) (by decide) hn (Or.inl ha)) ?_
    rintro z ⟨X, rfl, g⟩
    exact ⟨_, rfl, Or.inr ⟨ha, X, rfl, g⟩⟩
end TKW
