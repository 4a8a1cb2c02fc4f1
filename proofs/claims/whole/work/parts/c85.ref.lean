/-! trees in the reference's rows -/
def rN (x : lbT) : Int32 := if x.1 = 8 ∨ x.1 = 9 then x.2.2.2.2.1 else x.2.2.1
def rRow (M : md_S) (s : Nat) (x : lbT) (c1 c2 : Int32) : Prop := M.2.1 30 s = x.1 ∧ M.2.1 31 s = c1 ∧ M.2.1 32 s = c2 ∧ M.2.1 33 s = rN x ∧ M.2.1 34 s = x.2.1 ∧ M.2.1 35 s = x.2.2.2.2.2
def repR (M : md_S) : tT → Int32 → Prop
  | .const x, s => (0 ≤ s.toInt ∧ s.toInt < (M.1 27).toInt) ∧ rRow M s.toInt.toNat (lT x) (-1) (-1)
  | .unary x a, s => (0 ≤ s.toInt ∧ s.toInt < (M.1 27).toInt) ∧ ∃ s1, s1.toInt < s.toInt ∧ rRow M s.toInt.toNat (lT x) s1 (-1) ∧ repR M a s1
  | .binary x a b, s => (0 ≤ s.toInt ∧ s.toInt < (M.1 27).toInt) ∧ ∃ s1 s2, s1.toInt < s.toInt ∧ s2.toInt < s.toInt ∧ rRow M s.toInt.toNat (lT x) s1 s2 ∧ repR M a s1 ∧ repR M b s2
  | _, _ => False
def evR (M M' : md_S) : Prop := (∀ k, ¬ k = 12 → ¬ k = 27 → M'.1 k = M.1 k) ∧ (∀ k, ¬ (30 ≤ k ∧ k ≤ 35) → M'.2.1 k = M.2.1 k) ∧ M'.2.2 = M.2.2 ∧ (M'.1 12 = 0 → M.1 12 = 0 ∧ (M.1 27).toInt ≤ (M'.1 27).toInt ∧ ∀ k i, i < (M.1 27).toInt.toNat → M'.2.1 k i = M.2.1 k i)
section RPR
variable {M M' M2 : md_S} {x : lbT} {a b : tT}
theorem evR_rf : evR M M := ⟨fun _ _ _ => rfl, fun _ _ => rfl, rfl, fun z => ⟨z, Int.le_refl _, fun _ _ _ => rfl⟩⟩
theorem evR_tr (h : evR M M') (g : evR M' M2) : evR M M2 := by
  obtain ⟨h1, h2, h3, h4⟩ := h
  obtain ⟨g1, g2, g3, g4⟩ := g
  refine ⟨fun k d e => (g1 k d e).trans (h1 k d e), fun k d => (g2 k d).trans (h2 k d), g3.trans h3, fun z => ?_⟩
  obtain ⟨y1, y2, y3⟩ := g4 z
  obtain ⟨x1, x2, x3⟩ := h4 y1
  exact ⟨x1, by omega, fun k i hi => (y3 k i (by omega)).trans (x3 k i hi)⟩
theorem rRow_ext {s : Nat} {c1 c2 : Int32} (h : rRow M s x c1 c2) (e : ∀ k, M'.2.1 k s = M.2.1 k s) : rRow M' s x c1 c2 := by
  unfold rRow
  rw [e, e, e, e, e, e]
  exact h
theorem repR_ext (hb : (M.1 27).toInt ≤ (M'.1 27).toInt) (he : ∀ k i, i < (M.1 27).toInt.toNat → M'.2.1 k i = M.2.1 k i) : ∀ (T : tT) (s : Int32), repR M T s → repR M' T s
  | .const x, s, ⟨h1, h2⟩ => ⟨⟨h1.1, by omega⟩, rRow_ext h2 (fun k => he k _ (by omega))⟩
  | .unary x a, s, ⟨h1, s1, h2, h3, h4⟩ => ⟨⟨h1.1, by omega⟩, s1, h2, rRow_ext h3 (fun k => he k _ (by omega)), repR_ext hb he a s1 h4⟩
  | .binary x a b, s, ⟨h1, s1, s2, h2, h3, h4, h5, h6⟩ => ⟨⟨h1.1, by omega⟩, s1, s2, h2, h3, rRow_ext h4 (fun k => he k _ (by omega)), repR_ext hb he a s1 h5, repR_ext hb he b s2 h6⟩
theorem repR_ev {T : tT} {s : Int32} (h : M.1 12 = 0 → repR M T s) (ev : evR M M') (z : M'.1 12 = 0) : repR M' T s := by
  obtain ⟨x1, x2, x3⟩ := ev.2.2.2 z
  exact repR_ext x2 x3 T s (h x1)
theorem repR_lt : ∀ {T : tT} {s : Int32}, repR M T s → 0 ≤ s.toInt ∧ s.toInt < (M.1 27).toInt
  | .const _, _, h => h.1
  | .unary _ _, _, h => h.1
  | .binary _ _ _, _, h => h.1
theorem node_r {k c1 c2 nu l e : Int32} {q : md_S × Int32} (hq : mm_node_IIIIII M k c1 c2 nu l e = some q) : evR M q.1 ∧ (q.1.1 12 = 0 → (0 ≤ q.2.toInt ∧ q.2.toInt < (q.1.1 27).toInt ∧ q.2 = M.1 27) ∧ q.1.2.1 30 q.2.toInt.toNat = k ∧ q.1.2.1 31 q.2.toInt.toNat = c1 ∧ q.1.2.1 32 q.2.toInt.toNat = c2 ∧ q.1.2.1 33 q.2.toInt.toNat = nu ∧ q.1.2.1 34 q.2.toInt.toNat = l ∧ q.1.2.1 35 q.2.toInt.toNat = e) := by
  delta mm_node_IIIIII at hq
  rcases iv_if hq with ⟨c, g⟩ | ⟨c, g⟩
  · have g : some (md_i M 12 1, (0 : Int32)) = some q := g
    have g := (Option.some.inj g).symm
    subst g
    refine ⟨⟨fun k d _ => md_ij d, fun _ _ => rfl, rfl, fun z => ?_⟩, fun z => ?_⟩
    · have z : (1 : Int32) = 0 := z
      exact absurd z (by decide)
    · have z : (1 : Int32) = 0 := z
      exact absurd z (by decide)
  · obtain ⟨x1, x2, g⟩ := iv_ix g
    obtain ⟨-, -, g⟩ := iv_ix g
    obtain ⟨-, -, g⟩ := iv_ix g
    obtain ⟨-, -, g⟩ := iv_ix g
    obtain ⟨-, -, g⟩ := iv_ix g
    obtain ⟨-, -, g⟩ := iv_ix g
    have g : some (md_i (md_a (md_a (md_a (md_a (md_a (md_a M 30 (M.1 27).toInt.toNat k) 31 (M.1 27).toInt.toNat c1) 32 (M.1 27).toInt.toNat c2) 33 (M.1 27).toInt.toNat nu) 34 (M.1 27).toInt.toNat l) 35 (M.1 27).toInt.toNat e) 27 (M.1 27 + 1), (M.1 27 + 1) - 1) = some q := g
    have g := (Option.some.inj g).symm
    subst g
    have e1 : (M.1 27 + 1).toInt = (M.1 27).toInt + 1 := by rw [i_addS (by rw [il_1]; omega), il_1]
    have e2 : M.1 27 + 1 - 1 = M.1 27 := by
      refine i_eq.mpr ?_
      rw [i_subS (by rw [e1, il_1]; omega), e1, il_1]
      omega
    rw [e2]
    refine ⟨⟨fun k _ d => md_ij d, fun k d => ?_, rfl, fun z => ⟨z, ?_, fun k' i hi => ?_⟩⟩, fun z => ⟨⟨x1, ?_, rfl⟩, upd_s, upd_s, upd_s, upd_s, upd_s, upd_s⟩⟩
    · show (if k = 35 then _ else if k = 34 then _ else if k = 33 then _ else if k = 32 then _ else if k = 31 then _ else if k = 30 then _ else M.2.1 k) = M.2.1 k
      rw [if_neg (by omega), if_neg (by omega), if_neg (by omega), if_neg (by omega), if_neg (by omega), if_neg (by omega)]
    · show (M.1 27).toInt ≤ (M.1 27 + 1).toInt
      omega
    · have un : ∀ (g : Nat → Int32) (v : Int32), upd g (M.1 27).toInt.toNat v i = g i := fun g v => upd_n (by omega)
      show (if k' = 35 then upd (M.2.1 35) _ e else if k' = 34 then upd (M.2.1 34) _ l else if k' = 33 then upd (M.2.1 33) _ nu else if k' = 32 then upd (M.2.1 32) _ c2 else if k' = 31 then upd (M.2.1 31) _ c1 else if k' = 30 then upd (M.2.1 30) _ k else M.2.1 k') i = M.2.1 k' i
      by_cases h5 : k' = 35
      · rw [if_pos h5, un, h5]
      · rw [if_neg h5]
        by_cases h4 : k' = 34
        · rw [if_pos h4, un, h4]
        · rw [if_neg h4]
          by_cases h3 : k' = 33
          · rw [if_pos h3, un, h3]
          · rw [if_neg h3]
            by_cases h2 : k' = 32
            · rw [if_pos h2, un, h2]
            · rw [if_neg h2]
              by_cases h1 : k' = 31
              · rw [if_pos h1, un, h1]
              · rw [if_neg h1]
                by_cases h0 : k' = 30
                · rw [if_pos h0, un, h0]
                · rw [if_neg h0]
    · show (M.1 27).toInt < (M.1 27 + 1).toInt
      omega
theorem nd0_r {k u m sv e l nu : Int32} {q : md_S × Int32} (hx : nu = rN (k, l, u, m, sv, e)) (hq : mm_node_IIIIII M k (-1) (-1) nu l e = some q) : evR M q.1 ∧ (q.1.1 12 = 0 → repR q.1 (t0 (k, l, u, m, sv, e)) q.2) := by
  obtain ⟨g1, g2⟩ := node_r hq
  refine ⟨g1, fun z => ?_⟩
  obtain ⟨⟨y1, y2, -⟩, y3, y4, y5, y6, y7, y8⟩ := g2 z
  refine ⟨⟨y1, y2⟩, ?_⟩
  rw [lT_tL]
  exact ⟨y3, y4, y5, y6.trans hx, y7, y8⟩
theorem nd1_r {k u m sv e l nu s : Int32} {T : tT} {q : md_S × Int32} (hT : M.1 12 = 0 → repR M T s) (hx : nu = rN (k, l, u, m, sv, e)) (hq : mm_node_IIIIII M k s (-1) nu l e = some q) : evR M q.1 ∧ (q.1.1 12 = 0 → repR q.1 (t1 (k, l, u, m, sv, e) T) q.2) := by
  obtain ⟨g1, g2⟩ := node_r hq
  refine ⟨g1, fun z => ?_⟩
  obtain ⟨⟨y1, y2, y2'⟩, y3, y4, y5, y6, y7, y8⟩ := g2 z
  have hs := repR_lt (hT (g1.2.2.2 z).1)
  refine ⟨⟨y1, y2⟩, s, by rw [y2']; omega, ?_, repR_ev hT g1 z⟩
  rw [lT_tL]
  exact ⟨y3, y4, y5, y6.trans hx, y7, y8⟩
theorem nd2_r {k u m sv e l nu s1 s2 : Int32} {T1 T2 : tT} {q : md_S × Int32} (h1 : M.1 12 = 0 → repR M T1 s1) (h2 : M.1 12 = 0 → repR M T2 s2) (hx : nu = rN (k, l, u, m, sv, e)) (hq : mm_node_IIIIII M k s1 s2 nu l e = some q) : evR M q.1 ∧ (q.1.1 12 = 0 → repR q.1 (t2 (k, l, u, m, sv, e) T1 T2) q.2) := by
  obtain ⟨g1, g2⟩ := node_r hq
  refine ⟨g1, fun z => ?_⟩
  obtain ⟨⟨y1, y2, y2'⟩, y3, y4, y5, y6, y7, y8⟩ := g2 z
  have hs1 := repR_lt (h1 (g1.2.2.2 z).1)
  have hs2 := repR_lt (h2 (g1.2.2.2 z).1)
  refine ⟨⟨y1, y2⟩, s1, s2, by rw [y2']; omega, by rw [y2']; omega, ?_, repR_ev h1 g1 z, repR_ev h2 g1 z⟩
  rw [lT_tL]
  exact ⟨y3, y4, y5, y6.trans hx, y7, y8⟩
theorem leaf_r {k u m sv l nu : Int32} {q : md_S × Int32} (hx : nu = rN (k, l, u, m, sv, -1)) (hq : mm_leaf M k nu l = some q) : evR M q.1 ∧ (q.1.1 12 = 0 → repR q.1 (t0 (k, l, u, m, sv, -1)) q.2) := by
  delta mm_leaf at hq
  obtain ⟨q1, e1, hq⟩ := iv_bind hq
  have hq := (Option.some.inj hq).symm
  subst hq
  exact nd0_r hx e1
theorem halt_r {l : Int32} {q : md_S × Int32} (hq : mm_halt M l = some q) : evR M q.1 ∧ (q.1.1 12 = 0 → repR q.1 (Thalt l) q.2) := by
  delta mm_halt at hq
  obtain ⟨q1, e1, hq⟩ := iv_bind hq
  obtain ⟨q2, e2, hq⟩ := iv_bind hq
  have hq := (Option.some.inj hq).symm
  subst hq
  obtain ⟨a1, b1⟩ := leaf_r (k := 1) (u := -1) (m := -1) (sv := -1) (l := l) rfl e1
  obtain ⟨a2, b2⟩ := nd1_r (u := -1) (m := -1) (sv := -1) b1 rfl e2
  exact ⟨evR_tr a1 a2, b2⟩
theorem waiting_r {l e sv : Int32} {q : md_S × Int32} (hq : mm_waiting M l e sv = some q) : evR M q.1 ∧ (q.1.1 12 = 0 → repR q.1 (Twat l e sv) q.2) := by
  delta mm_waiting at hq
  obtain ⟨q1, e1, hq⟩ := iv_bind hq
  obtain ⟨q2, e2, hq⟩ := iv_bind hq
  obtain ⟨q3, e3, hq⟩ := iv_bind hq
  obtain ⟨q4, e4, hq⟩ := iv_bind hq
  obtain ⟨q5, e5, hq⟩ := iv_bind hq
  obtain ⟨q6, e6, hq⟩ := iv_bind hq
  have hq := (Option.some.inj hq).symm
  subst hq
  obtain ⟨a1, b1⟩ := leaf_r (k := 1) (u := -1) (m := -1) (sv := -1) (l := l) rfl e1
  obtain ⟨a2, b2⟩ := leaf_r (k := 9) (u := 2) (m := -1) (sv := sv) (l := l) rfl e2
  obtain ⟨a3, b3⟩ := leaf_r (k := 0) (u := -1) (m := -1) (sv := -1) (l := l) rfl e3
  obtain ⟨a4, b4⟩ := nd2_r (u := -1) (m := -1) (sv := -1) (fun z => repR_ev b2 a3 z) b3 rfl e4
  obtain ⟨a5, b5⟩ := nd2_r (u := -1) (m := -1) (sv := -1) (fun z => repR_ev b1 (evR_tr a2 (evR_tr a3 a4)) z) b4 rfl e5
  obtain ⟨a6, b6⟩ := nd1_r (u := -1) (m := -1) (sv := -1) b5 rfl e6
  exact ⟨evR_tr a1 (evR_tr a2 (evR_tr a3 (evR_tr a4 (evR_tr a5 a6)))), b6⟩
theorem await_r {l e : Int32} {q : md_S × Int32} (hq : mm_await M l e = some q) : evR (md_i (md_i M 20 (M.1 20 + 1)) 29 2) q.1 ∧ (q.1.1 12 = 0 → repR q.1 (Tawa l e (M.1 20 + 1)) q.2) := by
  delta mm_await at hq
  have hq : (mm_waiting (md_i (md_i M 20 (M.1 20 + 1)) 29 2) l e (M.1 20 + 1)).bind (fun q4 => (mm_node_IIIIII q4.1 8 q4.2 (-1) (M.1 20 + 1) l (-1)).bind fun q5 => some (q5.1, q5.2)) = some q := hq
  obtain ⟨q1, e1, hq⟩ := iv_bind hq
  obtain ⟨q2, e2, hq⟩ := iv_bind hq
  have hq := (Option.some.inj hq).symm
  subst hq
  obtain ⟨a1, b1⟩ := waiting_r e1
  obtain ⟨a2, b2⟩ := nd1_r (u := -1) (m := -1) (sv := M.1 20 + 1) b1 rfl e2
  exact ⟨evR_tr a1 a2, b2⟩
/-- what aborted makes: the body under suspend, or as it is -/
def Trun (weak l e : Int32) (T : tT) : tT := if weak = 0 then Tsup l e T else T
def cAb (inner : Int32) : Int32 := (inner &&& 3) ||| ((inner >>> (2 &&& (31 : Int32))) <<< (3 &&& (31 : Int32)))
def cAb2 (x : Int32) : Int32 := if (x &&& 1) = 0 then x else (x &&& (-2)) ||| 4
theorem aborted_r {l e s weak inner : Int32} {T : tT} {q : md_S × Int32} (hT : M.1 12 = 0 → repR M T s) (hq : mm_aborted M l s e weak inner = some q) : ∃ p c, mm_pairs (cAb2 (cAb inner)) 2 = some p ∧ mm_caught p = some c ∧ evR (md_i (md_i M 20 (M.1 20 + 1)) 29 c) q.1 ∧ (q.1.1 12 = 0 → repR q.1 (Tabo l (M.1 20 + 1) (Trun weak l e T) (Twat l e (M.1 20 + 1))) q.2) := by
  have h78 : ∀ (N : md_S) (y : Int32) (R : tT), (N.1 12 = 0 → repR N R y) → mm_aborted_L78 N l e (M.1 20 + 1) y = some q → evR N q.1 ∧ (q.1.1 12 = 0 → repR q.1 (Tabo l (M.1 20 + 1) R (Twat l e (M.1 20 + 1))) q.2) := by
    intro N y R hR hq
    delta mm_aborted_L78 at hq
    obtain ⟨q1, e1, hq⟩ := iv_bind hq
    obtain ⟨q2, e2, hq⟩ := iv_bind hq
    obtain ⟨q3, e3, hq⟩ := iv_bind hq
    obtain ⟨q4, e4, hq⟩ := iv_bind hq
    obtain ⟨q5, e5, hq⟩ := iv_bind hq
    have hq := (Option.some.inj hq).symm
    subst hq
    obtain ⟨a1, b1⟩ := leaf_r (k := 9) (u := 2) (m := -1) (sv := M.1 20 + 1) (l := l) rfl e1
    obtain ⟨a2, b2⟩ := nd2_r (u := -1) (m := -1) (sv := -1) (fun z => repR_ev hR a1 z) b1 rfl e2
    obtain ⟨a3, b3⟩ := waiting_r e3
    obtain ⟨a4, b4⟩ := nd2_r (u := -1) (m := -1) (sv := -1) (fun z => repR_ev b2 a3 z) b3 rfl e4
    obtain ⟨a5, b5⟩ := nd1_r (u := -1) (m := -1) (sv := M.1 20 + 1) b4 rfl e5
    exact ⟨evR_tr a1 (evR_tr a2 (evR_tr a3 (evR_tr a4 a5))), b5⟩
  have h49 : ∀ y : Int32, y = cAb2 (cAb inner) → mm_aborted_L49 (md_i M 20 (M.1 20 + 1)) l s e weak (M.1 20 + 1) y = some q → ∃ p c, mm_pairs (cAb2 (cAb inner)) 2 = some p ∧ mm_caught p = some c ∧ evR (md_i (md_i M 20 (M.1 20 + 1)) 29 c) q.1 ∧ (q.1.1 12 = 0 → repR q.1 (Tabo l (M.1 20 + 1) (Trun weak l e T) (Twat l e (M.1 20 + 1))) q.2) := by
    intro y ey hq
    subst ey
    delta mm_aborted_L49 at hq
    obtain ⟨p, ep, hq⟩ := iv_bind hq
    obtain ⟨c, ec, hq⟩ := iv_bind hq
    have hT' : (md_i (md_i M 20 (M.1 20 + 1)) 29 c).1 12 = 0 → repR (md_i (md_i M 20 (M.1 20 + 1)) 29 c) T s := fun z => repR_ext (M := M) (M' := md_i (md_i M 20 (M.1 20 + 1)) 29 c) (Int.le_refl _) (fun _ _ _ => rfl) T s (hT z)
    have hq : (if weak = 0 then ((mm_node_IIIIII (md_i (md_i M 20 (M.1 20 + 1)) 29 c) 4 s (-1) (-1) l e).bind fun q9 => mm_aborted_L78 q9.1 l e (M.1 20 + 1) q9.2) else (mm_aborted_L78 (md_i (md_i M 20 (M.1 20 + 1)) 29 c) l e (M.1 20 + 1) s)) = some q := hq
    refine ⟨p, c, ep, ec, ?_⟩
    rcases iv_if hq with ⟨w0, hq⟩ | ⟨w0, hq⟩
    · obtain ⟨q9, e9, hq⟩ := iv_bind hq
      obtain ⟨a1, b1⟩ := nd1_r (u := -1) (m := -1) (sv := -1) hT' rfl e9
      obtain ⟨a2, b2⟩ := h78 q9.1 q9.2 _ b1 hq
      refine ⟨evR_tr a1 a2, ?_⟩
      rw [show Trun weak l e T = Tsup l e T from if_pos w0]
      exact b2
    · rw [show Trun weak l e T = T from if_neg w0]
      exact h78 _ s T hT' hq
  delta mm_aborted at hq
  have hq : (if (cAb inner &&& 1) = 0 then (mm_aborted_L49 (md_i M 20 (M.1 20 + 1)) l s e weak (M.1 20 + 1) (cAb inner)) else (mm_aborted_L49 (md_i M 20 (M.1 20 + 1)) l s e weak (M.1 20 + 1) ((cAb inner &&& (-2)) ||| 4))) = some q := hq
  rcases iv_if hq with ⟨c0, hq⟩ | ⟨c0, hq⟩
  · exact h49 _ (show cAb inner = cAb2 (cAb inner) from (if_pos c0).symm) hq
  · exact h49 _ (show _ = cAb2 (cAb inner) from (if_neg c0).symm) hq
theorem again_r {l e s inner : Int32} {T : tT} {q : md_S × Int32} (hT : M.1 12 = 0 → repR M T s) (hq : mm_again M l s e inner = some q) : ∃ t p c, mm_then inner 2 = some t ∧ mm_pairs (cAb2 (cAb t)) 2 = some p ∧ mm_caught p = some c ∧ (∃ N, evR M N ∧ evR (md_i (md_i N 20 (M.1 20 + 1)) 29 c) q.1) ∧ (q.1.1 12 = 0 → repR q.1 (Tagn l e (M.1 20 + 1) T) q.2) := by
  delta mm_again at hq
  obtain ⟨q1, e1, hq⟩ := iv_bind hq
  obtain ⟨q2, e2, hq⟩ := iv_bind hq
  obtain ⟨t, et, hq⟩ := iv_bind hq
  obtain ⟨q4, e4, hq⟩ := iv_bind hq
  obtain ⟨q5, e5, hq⟩ := iv_bind hq
  have hq := (Option.some.inj hq).symm
  subst hq
  obtain ⟨a1, b1⟩ := halt_r e1
  obtain ⟨a2, b2⟩ := nd2_r (u := -1) (m := -1) (sv := -1) (fun z => repR_ev hT a1 z) b1 rfl e2
  have a12 := evR_tr a1 a2
  have e20 : q2.1.1 20 = M.1 20 := a12.1 20 (by omega) (by omega)
  obtain ⟨p, c, ep, ec, a4, b4⟩ := aborted_r b2 e4
  rw [e20] at a4 b4
  rw [show Trun 0 l e (t2 (5, l, -1, -1, -1, -1) T (Thalt l)) = Tsup l e (t2 (5, l, -1, -1, -1, -1) T (Thalt l)) from if_pos rfl] at b4
  obtain ⟨a5, b5⟩ := nd1_r (u := -1) (m := -1) (sv := -1) b4 rfl e5
  exact ⟨t, p, c, et, ep, ec, ⟨q2.1, a12, evR_tr a4 a5⟩, b5⟩
end RPR
