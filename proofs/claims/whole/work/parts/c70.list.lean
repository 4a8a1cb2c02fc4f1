/-! a list of names: the loop -/
def evN (A C : Nat → Nat) (B : Nat → Nat → Int32) (Q : Nat → Int32) (M : md_S) (A' C' : Nat → Nat) (B' : Nat → Nat → Int32) (Q' : Nat → Int32) (M' : md_S) : Prop :=
  (∀ k, ¬ (8 ≤ k ∧ k ≤ 10) → A' k = A k) ∧ (∀ k, ¬ k = 0 → C' k = C k) ∧ (∀ k, 3 ≤ k → B' k = B k) ∧ (∀ k, ¬ (3 ≤ k ∧ k ≤ 8) → Q' k = Q k) ∧ (∀ k, ¬ (4 ≤ k ∧ k ≤ 8) → ¬ k = 15 → ¬ k = 18 → M'.1 k = M.1 k) ∧ (∀ k, ¬ (21 ≤ k ∧ k ≤ 23) → M'.2.1 k = M.2.1 k) ∧ M'.2.2.2 = M.2.2.2 ∧ (M.1 15).toInt ≤ (M'.1 15).toInt ∧ (∀ k, k < (M.1 18).toInt.toNat → B' 2 k = B 2 k) ∧ (M.1 18).toInt ≤ (M'.1 18).toInt
section EVN
variable {A C A' C' A2 C2 : Nat → Nat} {B B' B2 : Nat → Nat → Int32} {Q Q' Q2 : Nat → Int32} {M M' M2 : md_S}
theorem evN_rf : evN A C B Q M A C B Q M := ⟨fun _ _ => rfl, fun _ _ => rfl, fun _ _ => rfl, fun _ _ => rfl, fun _ _ _ _ => rfl, fun _ _ => rfl, rfl, Int.le_refl _, fun _ _ => rfl, Int.le_refl _⟩
theorem evN_tr (h : evN A C B Q M A' C' B' Q' M') (g : evN A' C' B' Q' M' A2 C2 B2 Q2 M2) : evN A C B Q M A2 C2 B2 Q2 M2 := by
  obtain ⟨h1, h2, h3, h4, h5, h6, h7, h8, h9, h10⟩ := h
  obtain ⟨g1, g2, g3, g4, g5, g6, g7, g8, g9, g10⟩ := g
  exact ⟨fun k d => (g1 k d).trans (h1 k d), fun k d => (g2 k d).trans (h2 k d), fun k d => (g3 k d).trans (h3 k d), fun k d => (g4 k d).trans (h4 k d), fun k d e i => (g5 k d e i).trans (h5 k d e i), fun k d => (g6 k d).trans (h6 k d), g7.trans h7, Int.le_trans h8 g8, fun k hk => (g9 k (by omega)).trans (h9 k hk), Int.le_trans h10 g10⟩
theorem evN_adv (r : radv M M') {a b c d : Int32} : evN A C B Q M A C B (q4 Q a b c d) M' := by
  obtain ⟨m1, m2, m3, -⟩ := r
  refine ⟨fun _ _ => rfl, fun _ _ => rfl, fun _ _ => rfl, fun k d => ?_, fun k d _ _ => m1 k (by omega) (by omega) (by omega) (by omega) (by omega), fun k _ => by rw [m2], m3, by rw [m1 15 (by omega) (by omega) (by omega) (by omega) (by omega)]; exact Int.le_refl _, fun _ _ => rfl, by rw [m1 18 (by omega) (by omega) (by omega) (by omega) (by omega)]; exact Int.le_refl _⟩
  unfold q4
  rw [if_neg (by omega), if_neg (by omega), if_neg (by omega), if_neg (by omega)]
theorem evN_bs {x y z c : Nat} {xf xe xs : Nat → Int32} {v v' : Int32} (h0 : (M.1 15).toInt ≤ (M.1 15 + 1).toInt) (hx : ∀ i, i < (M.1 18).toInt.toNat → xs i = B 2 i) (h18 : (M.1 18).toInt ≤ (M.1 18 + 1).toInt) : evN A C B Q M (a3 A 8 x y z) (c1 C 0 c) (b3 B 0 xf xe xs) (q1 (q1 Q 7 v) 8 v') (mBs M) := by
  refine ⟨fun k d => a3_n d, fun k d => if_neg d, fun k d => ?_, fun k d => ?_, fun k d d1 d2 => ?_, fun k d => ?_, rfl, h0, hx, h18⟩
  · unfold b3
    rw [if_neg (by omega), if_neg (by omega), if_neg (by omega)]
  · unfold q1
    rw [if_neg (by omega), if_neg (by omega)]
  · show upd (upd M.1 18 (M.1 18 + 1)) 15 (M.1 15 + 1) k = M.1 k
    rw [upd_n d1, upd_n d2]
  · show (if k = 23 then _ else if k = 22 then _ else if k = 21 then _ else M.2.1 k) = M.2.1 k
    rw [if_neg (by omega), if_neg (by omega), if_neg (by omega)]
end EVN
def qS (q : (md_S × Int32) ⊕ (md_S ⊕ md_S)) : md_S := Sum.elim (fun p => p.1) (Sum.elim id id) q
theorem qS_fk {c : Int32} {q : (md_S × Int32) ⊕ (md_S ⊕ md_S)} (h : Sum.elim (fun (q : md_S × Int32) => q.1.1 10 = c) (Sum.elim (fun (q : md_S) => q.1 10 = c) (fun (q : md_S) => q.1 10 = c)) q) : (qS q).1 10 = c := by
  rcases q with q | q | q
  · exact h
  · exact h
  · exact h
section NMS
variable {G : hg_E} {sz t0 : Nat} {H0 : Nat → Option va_E} {K1 K2 n : Nat} {f : Nat → Int32} {S S' : hg_S} {A C : Nat → Nat} {B : Nat → Nat → Int32} {Q : Nat → Int32} {j : Nat} {el : Nat → Option Nat} {P : Nat → Nat} {ND : Nat → ndT} {M M' : md_S} {b u w : Int}
/-- the same names are there on both sides -/
theorem since_sig (r : RM M C B n f Q j b u w) {st low : Int32} (hl : LR st low (M.1 15) (M.1 18) (B 2)) {s : Int32} (hs : mm_signal M low = some s) : (s = -1 ↔ ∀ k, st.toInt.toNat ≤ k → k < (Q 7).toInt.toNat → ¬ eqs f (B 0 k) (B 1 k) (Q 3) (Q 4 - Q 3)) := by
  obtain ⟨r1, -, ⟨q3, q4', -⟩, -, ⟨⟨p1, p2, p3⟩, -⟩, ⟨⟨q7, q8⟩, ⟨n1, n2, n3⟩, n4, n5⟩, -, -, -, ⟨⟨b1, b2, -⟩, -⟩, -⟩ := r
  have hn : (n : Int) ≤ 32768 := by have := r1.1; omega
  have hn2 : (M.1 2).toInt = (n : Int) := by have := r1.1; omega
  obtain ⟨⟨l1, l2, l3, l4⟩, l5⟩ := hl
  have ed : (M.1 4 - M.1 7).toInt = (M.1 4).toInt - (M.1 7).toInt := i_subS (by omega)
  obtain ⟨s', es, hf⟩ := sig_w (M := M) (low := low) l1 n1 (by omega) (fun k hk => by
    obtain ⟨z1, z2, z3⟩ := n5 k hk
    obtain ⟨⟨y1, y2⟩, y3, y4, y5⟩ := n4 (B 2 k).toInt.toNat (by omega)
    rw [← z1, ← y1, ← y2]
    exact ⟨⟨z2, by omega⟩, y3, y4, by omega⟩) p1 p2 (by omega)
  have e := Option.some.inj (es.symm.trans hs)
  subst e
  rw [q7, q3, q4']
  have tr : ∀ k, low.toInt.toNat ≤ k → k < (M.1 18).toInt.toNat → (eqs (M.2.1 1) (M.2.1 21 (M.2.1 23 k).toInt.toNat) (M.2.1 22 (M.2.1 23 k).toInt.toNat) (M.1 7) (M.1 4 - M.1 7) ↔ eqs f (B 0 (st.toInt.toNat + (k - low.toInt.toNat))) (B 1 (st.toInt.toNat + (k - low.toInt.toNat))) (M.1 7) (M.1 4 - M.1 7)) := by
    intro k k1 k2
    obtain ⟨z1, z2, z3⟩ := n5 k k2
    have z4 := l5 k k1 k2
    have ei : (M.2.1 23 k).toInt.toNat = st.toInt.toNat + (k - low.toInt.toNat) := by rw [← z1]; omega
    rw [ei]
    obtain ⟨⟨y1, y2⟩, y3, y4, y5⟩ := n4 (st.toInt.toNat + (k - low.toInt.toNat)) (by omega)
    rw [← y1, ← y2]
    exact (eqs_congr r1.2.1 y3 y4 y5 p1 (by omega)).symm
  constructor
  · intro e k k1 k2 he
    rcases hf with ⟨-, h2⟩ | ⟨m, m1, m2, m3, m4, -⟩
    · have := h2 (low.toInt.toNat + (k - st.toInt.toNat)) (by omega) (by omega)
      refine this ((tr (low.toInt.toNat + (k - st.toInt.toNat)) (by omega) (by omega)).mpr ?_)
      rw [show st.toInt.toNat + (low.toInt.toNat + (k - st.toInt.toNat) - low.toInt.toNat) = k by omega]
      exact he
    · obtain ⟨z1, z2, z3⟩ := n5 m m2
      rw [m3, ← z1] at e
      rw [e] at z2
      exact absurd z2 (by decide)
  · intro h
    rcases hf with ⟨h1, -⟩ | ⟨m, m1, m2, m3, m4, -⟩
    · exact h1
    · exact absurd ((tr m m1 m2).mp m4) (h _ (by omega) (by omega))
set_option maxHeartbeats 1000000 in
theorem names_st (hok : lw_ok G sz) (h : PV G t0 H0 K1 K2 n f S A C B Q j el P ND) (r : RM M C B n f Q j b u w) (hb : b ≤ (M.1 7).toInt) (hK : 40 * n + 70 ≤ K1 ∧ 200 * n + 400 ≤ K2) {st low x3 : Int32} (hl : LR st low (M.1 15) (M.1 18) (B 2)) (h2 : 2 * (M.1 15).toInt ≤ (M.1 7).toInt) (x0 : 0 ≤ x3.toInt) (x1 : x3.toInt ≤ (M.1 7).toInt) {q : (md_S × Int32) ⊕ (md_S ⊕ md_S)} (hr : mm_list_b2 M low 1 = some q) : dc_wp (hm_PA_takeNames_b4 G S (A 0) st 1 x3) (fun z => (∃ S' A' C' B' Q' j' M' y, z = .inl (S', y, x3 + 1) ∧ q = .inl (M', y) ∧ ((y = 1 ∧ 2 * (M'.1 15).toInt ≤ (M'.1 7).toInt) ∨ y = 0) ∧ PV G t0 H0 K1 K2 n f S' A' C' B' Q' j' el P ND ∧ RM M' C' B' n f Q' j' (M'.1 7).toInt u w ∧ LR st low (M'.1 15) (M'.1 18) (B' 2) ∧ evN A C B Q M A' C' B' Q' M' ∧ (M.1 7).toInt < (M'.1 7).toInt ∧ (M'.1 15).toInt = (M.1 15).toInt + 1) ∨ ∃ X : hg_X, z = .inr (.inr X) ∧ thr t0 H0 K1 K2 n (A 0) (A 1) X (qS q)) := by
  have r0 := r
  have us := RM.use h r
  obtain ⟨r1, ⟨r2, r3, r4⟩, ⟨q3, q4', q5, q6⟩, ⟨l1, l2⟩, ⟨⟨p1, p2, p3⟩, p4, p5⟩, ⟨⟨q7, q8⟩, ⟨n1, n2, n3⟩, n4, n5⟩, tr, op, pi, ⟨⟨b1, b2, b3'⟩, bb⟩, ⟨cc0, cc1⟩, cc⟩ := r
  have hn : (n : Int) ≤ 32768 := by have := r1.1; omega
  have nI : (Int32.ofNat n).toInt = (n : Int) := Int32.toInt_ofNat_of_lt (by omega)
  have ll := hl.1
  delta mm_list_b2 at hr
  rw [if_neg (by decide), if_pos l2, isName_e, kstep] at hr
  delta hm_PA_takeNames_b4
  rw [if_neg (by decide)]
  refine wq_gr (x := some (A 1)) h.pa rfl ?_
  refine wq_gr (x := some (A 2)) h.lx.1 rfl ?_
  refine wq_ln h.lx.2.1 ?_
  rw [if_neg (fun z => by have := i_lt.mp z; omega)]
  refine wq_gr (x := some (A 1)) h.pa rfl ?_
  refine wq_gr (x := some (A 1)) h.pa rfl ?_
  refine wq_gr (x := some (G.2.1 j)) h.lx.1 rfl ?_
  by_cases hj : j = 31
  · rw [if_pos ((tk_name r3).mpr hj)] at hr
    obtain ⟨s, es, hr⟩ := iv_bind hr
    have ss := since_sig r0 hl es
    rw [if_pos ((tok_eq hok r2 (by omega)).mpr hj)]
    delta hm_PA_takeNames_L42
    refine wq_chk h.lx.1 ?_
    rw [req_ok (by decide)]
    show dc_wp ((hg_gr S (some (A 0)) 4 1).bind _) _
    refine wq_gr (x := some (A 3)) h.pa rfl ?_
    refine wq_gr (x := some (A 1)) h.pa rfl ?_
    refine wq_chk h.sn.1 ?_
    refine wq_call (since_w h.sn h.lx ll.2.1 (by rw [q7]; omega) (by rw [q7]; exact n3) (by omega) (fun k hk => by rw [q7] at hk; exact (n4 k hk).2) (by rw [q3]; exact p1) (by rw [q3, q4']; exact p2) (by rw [q4']; exact p3) (by omega)) ?_
    rintro y (⟨⟨k, k1, k2, k3⟩, rfl⟩ | ⟨k1, rfl⟩)
    · rw [if_neg (by decide)]
      have sn : ¬ s = -1 := fun z => ss.mp z k k1 k2 k3
      rw [if_neg sn] at hr
      obtain ⟨Mf, ef, hr⟩ := iv_bind hr
      have ff := fail_f l2 ef
      refine wq_gr (x := some (A 1)) h.pa rfl ?_
      refine wq_chk h.lx.1 ?_
      refine wq_call (rf_l h r0 hK (k := 3) (by decide) (by omega) (M' := qS q) (Or.inl (qS_fk (mm_list_L50_fk (ph_ne (by decide) (by omega)) Mf low ff q hr)))) ?_
      rintro z ⟨X, rfl, g⟩
      exact ⟨_, rfl, Or.inr ⟨X, rfl, g⟩⟩
    · rw [if_pos rfl]
      rw [if_pos (ss.mpr k1)] at hr
      delta mm_list_L50 at hr
      rw [l2, if_neg lt00] at hr
      obtain ⟨-, -, hr⟩ := iv_ix hr
      obtain ⟨-, -, hr⟩ := iv_ix hr
      obtain ⟨-, -, hr⟩ := iv_ix hr
      have hr : (mm_advance (mBs M)).bind (fun q9 => (mm_meetsSign q9 44).bind fun q10 => some (.inl (q10.1, q10.2))) = some q := hr
      obtain ⟨Ma, ea, hr⟩ := iv_bind hr
      obtain ⟨⟨Mb, yb⟩, eb, hr⟩ := iv_bind hr
      have hr : q = .inl (Mb, yb) := (Option.some.inj hr).symm
      subst hr
      delta hm_PA_takeNames_L68
      refine wq_gr (x := some (A 3)) h.pa rfl ?_
      refine wq_gr (x := some (A 1)) h.pa rfl ?_
      refine wq_chk h.sn.1 ?_
      refine wq_call (PV_bs h (by rw [q7]; omega) (by rw [q7]; exact n3) (by rw [q8]; exact n1) (by rw [q7, q8]; exact n2) (by omega) (by omega) (by omega) (by omega)) ?_
      rintro ⟨S1, v1⟩ ⟨-, x, y, z, c, xf, xe, xs, g1, g5, g6, g7, g8, g9, g10, g11⟩
      have R1 := RM_bs r0 hb hj h2 g5 g6 g7 g8 g9 g10 g11
      refine wq_gr (x := some (A 1)) g1.pa rfl ?_
      refine wq_chk g1.lx.1 ?_
      refine wq_call (adv_l hok g1 R1 hK ea) ?_
      have e15 : (M.1 15 + 1).toInt = (M.1 15).toInt + 1 := by rw [i_addS (by rw [il_1]; omega), il_1]
      have e18 : (M.1 18 + 1).toInt = (M.1 18).toInt + 1 := by rw [i_addS (by rw [il_1]; omega), il_1]
      have t1 : tln 31 = 1 := rfl
      rw [hj, t1] at r4
      rintro zz (⟨S2, rfl, j2, v2, w2, ra, of2⟩ | ⟨X, rfl, g⟩)
      · have ma := ra.1
        have b7 : (Ma.1 15).toInt = (M.1 15).toInt + 1 := by
          rw [ma 15 (by omega) (by omega) (by omega) (by omega) (by omega)]; exact e15
        have b8 : (M.1 4).toInt ≤ (Ma.1 7).toInt := ra.2.2.2.2.1.1
        have L2 : LR st low (Ma.1 15) (Ma.1 18) xs := by
          have m18 : Ma.1 18 = M.1 18 + 1 := ma 18 (by omega) (by omega) (by omega) (by omega) (by omega)
          rw [m18]
          refine ⟨⟨ll.1, ll.2.1, by omega, by omega⟩, fun k k1 k2 => ?_⟩
          by_cases e : k = (Q 8).toInt.toNat
          · rw [e, g11, q7]
            rw [q8] at e ⊢
            omega
          · rw [g10 k (by rw [q8] at e ⊢; omega)]
            exact hl.2 k k1 (by rw [q8] at e; omega)
        have E2 : evN A C B Q M (a3 A 8 x y z) (c1 C 0 c) (b3 B 0 xf xe xs) (q4 (q1 (q1 Q 7 (Q 7 + 1)) 8 (Q 8 + 1)) (Ma.1 7) (Ma.1 4) (Ma.1 8) 0) Ma := evN_tr (evN_bs (by omega) (fun i hi => g10 i (by rw [q8]; exact hi)) (by omega)) (evN_adv ra)
        have mt := meetsS_i (i := 1) (p := 44) w2.2.1.2.1 w2.2.2.2.1.2 (by decide) (by decide) eb
        refine wq_chk v2.pa ?_
        refine wq_call (skip_l hok v2 w2 hK (i := 27) (by decide) (M' := Mb) (by
          rcases mt with ⟨a1, a2, a3⟩ | ⟨a1, a2⟩
          · exact Or.inl ⟨a1, a3⟩
          · exact Or.inr ⟨a1, congrArg Prod.fst a2⟩)) ?_
        rintro zz (⟨ej, S3, rfl, j3, v3, w3, ra3, of3⟩ | ⟨ej, rfl, eM⟩ | ⟨-, X, rfl, g⟩)
        · have yy : yb = 1 := by
            rcases mt with ⟨a1, a2, a3⟩ | ⟨a1, a2⟩
            · exact a2
            · exact absurd ej a1
          subst yy
          have c8 : (Ma.1 4).toInt ≤ (Mb.1 7).toInt := ra3.2.2.2.2.1.1
          have m15 : Mb.1 15 = Ma.1 15 := ra3.1 15 (by omega) (by omega) (by omega) (by omega) (by omega)
          have m18 : Mb.1 18 = Ma.1 18 := ra3.1 18 (by omega) (by omega) (by omega) (by omega) (by omega)
          have t27 : tln 27 = 1 := by decide +kernel
          have w4 := w2.2.1.2.2
          rw [ej, t27] at w4
          refine ⟨_, rfl, Or.inl ⟨S3, _, _, _, _, j3, Mb, 1, rfl, rfl, Or.inl ⟨rfl, ?_⟩, v3, w3, ?_, evN_tr E2 (evN_adv ra3), ?_, ?_⟩⟩
          · rw [m15]; omega
          · rw [m15, m18]; exact L2
          · omega
          · rw [m15]; omega
        · have yy : yb = 0 := by
            rcases mt with ⟨a1, a2, a3⟩ | ⟨a1, a2⟩
            · exact absurd a1 ej
            · exact congrArg Prod.snd a2
          subst yy eM
          exact ⟨_, rfl, Or.inl ⟨S2, _, _, _, _, j2, Mb, 0, rfl, rfl, Or.inr rfl, v2, w2, L2, E2, by omega, by omega⟩⟩
        · exact ⟨_, rfl, Or.inr ⟨X, rfl, g⟩⟩
      · refine ⟨_, rfl, Or.inr ⟨X, rfl, ?_⟩⟩
        exact g.mono (fun φ hφ hs => mm_meetsSign_sk hφ Ma 44 1 (by decide) (by decide) hs _ eb)
  · rw [if_neg (fun z => hj ((tk_name r3).mp z))] at hr
    obtain ⟨Mf, ef, hr⟩ := iv_bind hr
    have ff := fail_f l2 ef
    rw [if_neg (fun z => hj ((tok_eq hok r2 (by omega)).mp z))]
    delta hm_PA_takeNames_L42
    refine wq_chk h.lx.1 ?_
    refine wq_call (req_no h r0 hK (M' := qS q) (Or.inl (qS_fk (mm_list_L50_fk (ph_ne (by decide) (by omega)) Mf low ff q hr)))) ?_
    rintro z ⟨X, rfl, g⟩
    exact ⟨_, rfl, Or.inr ⟨X, rfl, g⟩⟩
end NMS
