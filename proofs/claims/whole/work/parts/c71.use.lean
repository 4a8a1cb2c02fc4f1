/-! a list of names whole; the use of a signal -/
section NML2
variable {G : hg_E} {sz t0 : Nat} {H0 : Nat → Option va_E} {K1 K2 n : Nat} {f : Nat → Int32} {S S' : hg_S} {A C : Nat → Nat} {B : Nat → Nat → Int32} {Q : Nat → Int32} {j : Nat} {el : Nat → Option Nat} {P : Nat → Nat} {ND : Nat → ndT} {M M' : md_S} {b u w : Int}
/-- what a list comes to -/
def nmO (G : hg_E) (t0 : Nat) (H0 : Nat → Option va_E) (K1 K2 n : Nat) (f : Nat → Int32) (A C : Nat → Nat) (B : Nat → Nat → Int32) (Q : Nat → Int32) (el : Nat → Option Nat) (P : Nat → Nat) (ND : Nat → ndT) (M : md_S) (u w : Int) (st low : Int32) (S' : hg_S) (M' : md_S) : Prop :=
  ∃ A' C' B' Q' j', PV G t0 H0 K1 K2 n f S' A' C' B' Q' j' el P ND ∧ RM M' C' B' n f Q' j' (M'.1 7).toInt u w ∧ LR st low (M'.1 15) (M'.1 18) (B' 2) ∧ evN A C B Q M A' C' B' Q' M' ∧ (M.1 7).toInt < (M'.1 7).toInt ∧ (M.1 15).toInt < (M'.1 15).toInt ∧ (M'.1 15).toInt - (M.1 15).toInt ≤ (M'.1 7).toInt - (M.1 7).toInt
theorem RM_b (r : RM M C B n f Q j b u w) (hb : b ≤ (M.1 7).toInt) : RM M C B n f Q j (M.1 7).toInt u w := by
  obtain ⟨r1, r2, r3, r4, r5, r6, r7, r8, r9, ⟨⟨b1, b2, b3⟩, b4⟩, r10⟩ := r
  exact ⟨r1, r2, r3, r4, r5, r6, r7, r8, r9, ⟨⟨r5.1.2.1, by omega, by omega⟩, b4⟩, r10⟩
theorem names_l (hok : lw_ok G sz) (h : PV G t0 H0 K1 K2 n f S A C B Q j el P ND) (r : RM M C B n f Q j b u w) (hb : b ≤ (M.1 7).toInt) (hK : 40 * n + 70 ≤ K1 ∧ 200 * n + 400 ≤ K2) {st low : Int32} (hl : LR st low (M.1 15) (M.1 18) (B 2)) (h2 : 2 * (M.1 15).toInt ≤ (M.1 7).toInt) (hq : mm_list M low = some M') : dc_wp (hm_PA_takeNames G S (A 0) st) (fun z => (∃ S', z = .inl S' ∧ nmO G t0 H0 K1 K2 n f A C B Q el P ND M u w st low S' M') ∨ ∃ X : hg_X, z = .inr X ∧ thr t0 H0 K1 K2 n (A 0) (A 1) X M') := by
  delta mm_list mm_list_L2 at hq
  obtain ⟨z', ez, hz⟩ := iv_bind hq
  have eM : M' = Sum.elim id id z' := by
    rcases z' with m | m
    · exact (Option.some.inj hz).symm
    · exact (Option.some.inj hz).symm
  have hn : (n : Int) ≤ 32768 := by have := r.1.1; omega
  delta hm_PA_takeNames hm_PA_takeNames_L4
  have main : dc_wp (dc_it (hm_PA_takeNames_s4 G (A 0) st) (S, 1, 0)) (fun (b : hg_S ⊕ hg_X) => (∃ S', b = .inl S' ∧ nmO G t0 H0 K1 K2 n f A C B Q el P ND M u w st low S' (Sum.elim id id z')) ∨ ∃ X : hg_X, b = .inr X ∧ thr t0 H0 K1 K2 n (A 0) (A 1) X (Sum.elim id id z')) := by
    refine it_both (fun (x : hg_S × Int32 × Int32) (y : md_S × Int32) => ∃ Ax Cx Bx Qx jx bx, y.2 = x.2.1 ∧ ((x.2.1 = 1 ∧ 2 * (y.1.1 15).toInt ≤ (y.1.1 7).toInt) ∨ (x.2.1 = 0 ∧ (M.1 7).toInt < (y.1.1 7).toInt ∧ (M.1 15).toInt < (y.1.1 15).toInt)) ∧ (0 ≤ x.2.2.toInt ∧ x.2.2.toInt ≤ (y.1.1 7).toInt ∧ (M.1 7).toInt ≤ (y.1.1 7).toInt ∧ (y.1.1 15).toInt - (M.1 15).toInt ≤ (y.1.1 7).toInt - (M.1 7).toInt) ∧ PV G t0 H0 K1 K2 n f x.1 Ax Cx Bx Qx jx el P ND ∧ RM y.1 Cx Bx n f Qx jx bx u w ∧ bx ≤ (y.1.1 7).toInt ∧ LR st low (y.1.1 15) (y.1.1 18) (Bx 2) ∧ evN A C B Q M Ax Cx Bx Qx y.1) (fun (b : hg_S ⊕ hg_X) (z' : md_S ⊕ md_S) => (∃ S', b = .inl S' ∧ nmO G t0 H0 K1 K2 n f A C B Q el P ND M u w st low S' (Sum.elim id id z')) ∨ ∃ X : hg_X, b = .inr X ∧ thr t0 H0 K1 K2 n (A 0) (A 1) X (Sum.elim id id z')) ?_ z' (S, 1, 0) (M, 1) ?_ ez
    · rintro ⟨Sx, mx, ix⟩ ⟨My, my⟩ ⟨Ax, Cx, Bx, Qx, jx, bx, e0, e1, ⟨e2, e3, e3', e3c⟩, e4, e5, eb, e6, e7⟩ q hr
      dsimp only at e0 e1 e2 e3 e3' e3c e4 e5 eb e6 e7
      have e0 : my = mx := e0
      subst e0
      have a0 : Ax 0 = A 0 := e7.1 0 (by omega)
      have a1 : Ax 1 = A 1 := e7.1 1 (by omega)
      show dc_wp (hm_PA_takeNames_b4 G Sx (A 0) st my ix) _
      have hr : mm_list_b2 My low my = some q := hr
      rcases e1 with ⟨e8, e9⟩ | ⟨e8, e9, e10⟩
      · have e8 : my = 1 := e8
        subst e8
        have e3 : ix.toInt ≤ (My.1 7).toInt := e3
        have e2 : 0 ≤ ix.toInt := e2
        have hn2 : (My.1 7).toInt ≤ (n : Int) := by have := e5.2.2.2.2.1; omega
        rw [← a0, ← a1]
        obtain ⟨z, ez2, hz2⟩ := names_st hok e4 e5 eb hK e6 e9 e2 e3 hr
        refine ⟨z, ez2, ?_⟩
        rcases hz2 with ⟨S', A', C', B', Q', j', M2, y, rfl, rfl, g1, g2, g3, g4, g5, g6, g7⟩ | ⟨X, rfl, g⟩
        · left
          have xi : (ix + 1).toInt = ix.toInt + 1 := by rw [i_addS (by rw [il_1]; omega), il_1]
          refine ⟨(S', y, ix + 1), (M2, y), rfl, rfl, A', C', B', Q', j', _, rfl, ?_, ⟨?_, ?_, ?_, ?_⟩, g2, g3, Int.le_refl _, g4, evN_tr e7 g5⟩
          · have e12 := e7.2.2.2.2.2.2.2.1
            rcases g1 with ⟨g1, g8⟩ | g1
            · exact Or.inl ⟨g1, g8⟩
            · refine Or.inr ⟨g1, ?_, ?_⟩
              · show (M.1 7).toInt < (M2.1 7).toInt
                have e3' : (M.1 7).toInt ≤ (My.1 7).toInt := e3'
                omega
              · show (M.1 15).toInt < (M2.1 15).toInt
                have e12 : (M.1 15).toInt ≤ (My.1 15).toInt := e12
                omega
          · show 0 ≤ (ix + 1).toInt
            omega
          · show (ix + 1).toInt ≤ (M2.1 7).toInt
            omega
          · show (M.1 7).toInt ≤ (M2.1 7).toInt
            have e3' : (M.1 7).toInt ≤ (My.1 7).toInt := e3'
            omega
          · show (M2.1 15).toInt - (M.1 15).toInt ≤ (M2.1 7).toInt - (M.1 7).toInt
            have e3c : (My.1 15).toInt - (M.1 15).toInt ≤ (My.1 7).toInt - (M.1 7).toInt := e3c
            omega
        · right
          refine ⟨.inr X, rfl, fun z' hz' => Or.inr ⟨X, rfl, g.mono (fun φ hφ hs => ?_)⟩⟩
          rcases q with q | q | q
          · have k : mm_list_L2 q.1 low q.2 = some (Sum.elim id id z') := by
              delta mm_list_L2
              have hz' : dc_it (mm_list_s2 low) q = some z' := hz'
              show (dc_it (mm_list_s2 low) q).bind _ = _
              rw [hz']
              rcases z' with m | m <;> rfl
            exact mm_list_L2_sk hφ q.1 low q.2 hs _ k
          · have hz' : Sum.inl q = z' := hz'
            subst hz'
            exact hs
          · have hz' : Sum.inr q = z' := hz'
            subst hz'
            exact hs
      · have e8 : my = 0 := e8
        subst e8
        delta mm_list_b2 at hr
        rw [if_pos rfl] at hr
        have hr := (Option.some.inj hr).symm
        subst hr
        delta hm_PA_takeNames_b4
        rw [if_pos rfl]
        refine ⟨_, rfl, Or.inr ⟨.inl Sx, rfl, fun z' hz' => Or.inl ⟨Sx, rfl, ?_⟩⟩⟩
        have hz' : Sum.inr My = z' := hz'
        subst hz'
        exact ⟨Ax, Cx, Bx, Qx, jx, e4, RM_b e5 eb, e6, e7, e9, e10, e3c⟩
    · have p := r.2.2.2.2.1
      refine ⟨A, C, B, Q, j, b, rfl, Or.inl ⟨rfl, h2⟩, ⟨by show 0 ≤ (0 : Int32).toInt; decide, ?_, Int.le_refl _, by show (M.1 15).toInt - (M.1 15).toInt ≤ (M.1 7).toInt - (M.1 7).toInt; omega⟩, h, r, ?_, hl, evN_rf⟩
      · show (0 : Int32).toInt ≤ (M.1 7).toInt
        rw [il_0]; omega
      · exact hb
  refine wq_call main ?_
  rintro z (⟨S', rfl, g⟩ | ⟨X, rfl, g⟩)
  · rw [eM]
    exact ⟨_, rfl, Or.inl ⟨S', rfl, g⟩⟩
  · rw [eM]
    exact ⟨_, rfl, Or.inr ⟨X, rfl, g⟩⟩
/-- the signals that hold here -/
def sV (B : Nat → Nat → Int32) (M : md_S) (y : Int32) : Prop := ∃ k, k < (M.1 18).toInt.toNat ∧ B 2 k = y
/-- the innermost that reads so is the same on both sides -/
theorem find_sig (h : PV G t0 H0 K1 K2 n f S A C B Q j el P ND) (r : RM M C B n f Q j b u w) {s : Int32} (hs : mm_signal M 0 = some s) : dc_wp (hm_NM_find G S (A 3) (some (A 1))) (fun q => q = s ∧ (s = -1 ∨ ((0 ≤ s.toInt ∧ s.toInt < (M.1 15).toInt) ∧ sV B M s))) := by
  obtain ⟨r1, -, ⟨q3, q4', -⟩, -, ⟨⟨p1, p2, p3⟩, -⟩, ⟨⟨q7, q8⟩, ⟨n1, n2, n3⟩, n4, n5⟩, -, -, -, ⟨⟨b1, b2, -⟩, -⟩, ⟨-, c2⟩, -⟩ := r
  have hn : (n : Int) ≤ 32768 := by have := r1.1; omega
  have ed : (M.1 4 - M.1 7).toInt = (M.1 4).toInt - (M.1 7).toInt := i_subS (by omega)
  obtain ⟨s', es, hf⟩ := sig_w (M := M) (low := 0) (by decide) n1 (by omega) (fun k hk => by
    obtain ⟨z1, z2, z3⟩ := n5 k hk
    obtain ⟨⟨y1, y2⟩, y3, y4, y5⟩ := n4 (B 2 k).toInt.toNat (by omega)
    rw [← z1, ← y1, ← y2]
    exact ⟨⟨z2, by omega⟩, y3, y4, by omega⟩) p1 p2 (by omega)
  have e := Option.some.inj (es.symm.trans hs)
  subst e
  obtain ⟨q, eq, hq⟩ := find_w h.sn h.lx (by rw [q8]; exact n1) (by rw [q8]; omega) (by omega) (fun k hk => by
    rw [q8] at hk
    obtain ⟨z1, z2, z3⟩ := n5 k hk
    obtain ⟨-, y3, y4, y5⟩ := n4 (B 2 k).toInt.toNat (by omega)
    exact ⟨z2, by omega, y3, y4, y5⟩) (by rw [q3]; exact p1) (by rw [q3, q4']; exact p2) (by rw [q4']; exact p3) (by omega)
  rw [q8, q3, q4'] at hq
  refine ⟨q, eq, ?_, ?_⟩
  · refine fsP_uni ?_ ?_ hq hf
    · intro k _ hk
      exact (n5 k hk).1
    · intro k _ hk
      obtain ⟨z1, z2, z3⟩ := n5 k hk
      obtain ⟨⟨y1, y2⟩, y3, y4, y5⟩ := n4 (B 2 k).toInt.toNat (by omega)
      rw [← z1, ← y1, ← y2]
      exact eqs_congr r1.2.1 y3 y4 y5 p1 (by omega)
  · rcases hf with ⟨z, -⟩ | ⟨k, -, k2, k3, -⟩
    · exact Or.inl z
    · obtain ⟨z1, z2, z3⟩ := n5 k k2
      rw [k3, ← z1]
      exact Or.inr ⟨⟨z2, z3⟩, k, k2, rfl⟩
theorem use_l (hok : lw_ok G sz) (h : PV G t0 H0 K1 K2 n f S A C B Q j el P ND) (r : RM M C B n f Q j b u w) (hK : 40 * n + 70 ≤ K1 ∧ 200 * n + 400 ≤ K2) {p least : Int32} (hp : (p = 0 ∧ least = 0) ∨ (¬ p = 0 ∧ least = M.1 16 ∧ 0 ≤ (M.1 16).toInt)) {q : md_S × Int32} (hq : mm_named M p = some q) : dc_wp (hm_PA_takeUse G S (A 0) (some (A 3)) least) (fun z => (j = 31 ∧ ∃ S', z = .inl (S', q.2) ∧ okA G t0 H0 K1 K2 n f S A C B Q el P ND M u w S' q.1 ∧ 0 ≤ q.2.toInt ∧ q.2.toInt < (M.1 15).toInt ∧ (¬ p = 0 → (M.1 16).toInt ≤ q.2.toInt) ∧ sV B M q.2) ∨ ∃ X : hg_X, z = .inr X ∧ thr t0 H0 K1 K2 n (A 0) (A 1) X q.1) := by
  have r0 := r
  obtain ⟨r1, ⟨r2, r3, r4⟩, -, ⟨l1, l2⟩, ⟨⟨p1, p2, p3⟩, p4, p5⟩, -⟩ := r
  have hn : (n : Int) ≤ 32768 := by have := r1.1; omega
  delta mm_named at hq
  rw [isName_e, kstep] at hq
  delta hm_PA_takeUse
  refine wq_gr (x := some (A 1)) h.pa rfl ?_
  refine wq_gr (x := some (A 1)) h.pa rfl ?_
  refine wq_gr (x := some (G.2.1 j)) h.lx.1 rfl ?_
  by_cases hj : j = 31
  · rw [if_pos ((tk_name r3).mpr hj)] at hq
    delta mm_named_L16 at hq
    rw [l2, if_neg lt00] at hq
    obtain ⟨s, es, hq⟩ := iv_bind hq
    rw [if_pos ((tok_eq hok r2 (by omega)).mpr hj)]
    delta hm_PA_takeUse_L22
    refine wq_chk h.lx.1 ?_
    rw [req_ok (by decide)]
    show dc_wp ((hg_gr S (some (A 0)) 4 0).bind _) _
    refine wq_gr (x := some (A 1)) h.pa rfl ?_
    refine wq_chk h.sn.1 ?_
    refine wq_call (find_sig h r0 es) ?_
    rintro x ⟨ex, hs⟩
    subst x
    have bad : s < least → mm_named_L48 M s = some q → dc_wp (hm_LX_refuse G S (A 1) 2) (fun z => ∃ X : hg_X, z = .inr X ∧ thr t0 H0 K1 K2 n (A 0) (A 1) X q.1) := by
      intro _ hq
      delta mm_named_L48 at hq
      obtain ⟨Mf, ef, hq⟩ := iv_bind hq
      exact rf_l h r0 hK (k := 2) (by decide) (by omega) (Or.inl (mm_named_L57_fk (ph_ne (by decide) (by omega)) Mf s (fail_f l2 ef) q hq))
    have good : mm_named_L57 M s = some q → q.2 = s ∧ mm_advance M = some q.1 := by
      intro hq
      delta mm_named_L57 at hq
      rw [l2, if_neg lt00] at hq
      obtain ⟨Ma, ea, hq⟩ := iv_bind hq
      cases hq
      exact ⟨rfl, ea⟩
    have key : (s < least ∧ mm_named_L48 M s = some q) ∨ (¬ s < least ∧ mm_named_L57 M s = some q ∧ 0 ≤ s.toInt ∧ s.toInt < (M.1 15).toInt ∧ (¬ p = 0 → (M.1 16).toInt ≤ s.toInt) ∧ sV B M s) := by
      rcases iv_if hq with ⟨c, g⟩ | ⟨c, g⟩
      · left
        refine ⟨?_, g⟩
        rw [c]
        rcases hp with ⟨-, e⟩ | ⟨-, e, e2⟩
        · rw [e]; decide
        · rw [e]
          refine i_lt.mpr ?_
          rw [show (-1 : Int32).toInt = -1 by decide]
          omega
      · have hs3 := hs.resolve_left c
        have hs2 : 0 ≤ s.toInt ∧ s.toInt < (M.1 15).toInt := hs3.1
        rcases iv_if g with ⟨c2, g⟩ | ⟨c2, g⟩
        · right
          rcases hp with ⟨e0, e⟩ | ⟨e0, e, e2⟩
          · exact ⟨fun z => by have := i_lt.mp z; rw [e, il_0] at this; omega, g, hs2.1, hs2.2, fun z => absurd c2 z, hs3.2⟩
          · exact absurd c2 e0
        · rcases hp with ⟨e0, e⟩ | ⟨e0, e, e2⟩
          · exact absurd e0 c2
          · rcases iv_if g with ⟨c3, g⟩ | ⟨c3, g⟩
            · left; rw [e]; exact ⟨c3, g⟩
            · right
              rw [e]
              refine ⟨c3, g, hs2.1, hs2.2, fun _ => ?_, hs3.2⟩
              have : ¬ s.toInt < (M.1 16).toInt := fun z => c3 (i_lt.mpr z)
              omega
    rcases key with ⟨k1, k2⟩ | ⟨k1, k2, k3, k4, k5, k6⟩
    · rw [if_pos k1]
      refine wq_gr (x := some (A 1)) h.pa rfl ?_
      refine wq_chk h.lx.1 ?_
      refine wq_call (bad k1 k2) ?_
      rintro z ⟨X, rfl, g⟩
      exact ⟨_, rfl, Or.inr ⟨X, rfl, g⟩⟩
    · obtain ⟨g1, g2⟩ := good k2
      rw [if_neg k1]
      delta hm_PA_takeUse_L47
      refine wq_gr (x := some (A 1)) h.pa rfl ?_
      refine wq_chk h.lx.1 ?_
      refine wq_call (adv_l hok h r0 hK g2) ?_
      rintro z (⟨S2, rfl, g⟩ | ⟨X, rfl, g⟩)
      · refine ⟨_, rfl, Or.inl ⟨hj, S2, ?_, g, ?_, ?_, ?_, ?_⟩⟩
        · rw [g1]
        · rw [g1]; exact k3
        · rw [g1]; exact k4
        · rw [g1]; exact k5
        · rw [g1]; exact k6
      · exact ⟨_, rfl, Or.inr ⟨X, rfl, g⟩⟩
  · rw [if_neg (fun z => hj ((tk_name r3).mp z))] at hq
    obtain ⟨Mf, ef, hq⟩ := iv_bind hq
    have ff := fail_f l2 ef
    rw [if_neg (fun z => hj ((tok_eq hok r2 (by omega)).mp z))]
    delta hm_PA_takeUse_L22
    refine wq_chk h.lx.1 ?_
    refine wq_call (req_no h r0 hK (M' := q.1) (Or.inl (mm_named_L16_fk (ph_ne (by decide) (by omega)) Mf p ff q hq))) ?_
    rintro z ⟨X, rfl, g⟩
    exact ⟨_, rfl, Or.inr ⟨X, rfl, g⟩⟩
end NML2
