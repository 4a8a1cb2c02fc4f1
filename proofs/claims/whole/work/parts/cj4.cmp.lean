/-! runs put together -/
/-- what a run changes, by its meaning: places of meanings lc, pauses lo to hi -/
def rnG (S q : md_S) (lc : Nat → Prop) (lo hi : Nat) (e : zvT) : Prop :=
  (rnF S q ∧ q.1 79 = S.1 79) ∧ (∀ i, (zE e i → q.2.1 72 i = 1) ∧ (¬ zE e i → q.2.1 72 i = S.2.1 72 i)) ∧ (∀ i, (zS e i → q.2.1 71 i = 1) ∧ (¬ zS e i → q.2.1 71 i = S.2.1 71 i)) ∧ (∀ j, ¬ lc j → q.2.1 73 j = S.2.1 73 j) ∧ ((zD e → q.1 78 = 1) ∧ (¬ zD e → q.1 78 = S.1 78)) ∧ (∀ p, ¬ (lo ≤ p ∧ p < hi) → q.2.1 75 p = S.2.1 75 p) ∧ ((∃ c, zM e c) → (∀ p, lo ≤ p → p < hi → S.2.1 75 p = 0) → ∀ p, lo ≤ p → p < hi → (zN e p → q.2.1 75 p = 1) ∧ (¬ zN e p → q.2.1 75 p = 0))
def lcI (T : tT) (j : Nat) : Prop := ∃ y, y ∈ lcT T ∧ j = y.toInt.toNat
theorem rnO_G {M S q : md_S} {T : tT} {k : Nat} {e : zvT} (h : rnO M S q T k e) : rnG S q (lcI T) (pfQ M.2.1 k) (ptQ M.2.1 k) e := ⟨h.1, h.2.2.1, h.2.2.2.1, fun j hj => h.2.2.2.2.1 j (fun y hy ey => hj ⟨y, hy, ey⟩), h.2.2.2.2.2.1, h.2.2.2.2.2.2.1, h.2.2.2.2.2.2.2⟩
theorem rnG_O {M S q : md_S} {T : tT} {k : Nat} {e : zvT} (h : rnG S q (lcI T) (pfQ M.2.1 k) (ptQ M.2.1 k) e) (hc : cB (q.1 81) (zC e)) (hm : mB (q.1 80) (zM e)) : rnO M S q T k e := ⟨h.1, ⟨hc, hm⟩, h.2.1, h.2.2.1, fun j hj => h.2.2.2.1 j (fun ⟨y, hy, ey⟩ => hj y hy ey), h.2.2.2.2.1, h.2.2.2.2.2.1, h.2.2.2.2.2.2⟩
section CMP
variable {S S1 S2 : md_S} {lcA lcB lc : Nat → Prop} {loA hiA loB hiB lo hi : Nat} {a b : zvT}
/-- codes written behind: nothing else changes -/
theorem rnG_out {q : md_S} {x y : Int32} (h : rnG S q lc lo hi a) : rnG S (md_i (md_i q 81 x) 80 y) lc lo hi a := by
  obtain ⟨⟨h1, h2⟩, h3, h4, h5, h6, h7, h8⟩ := h
  obtain ⟨f1, f2, f3, f4, f5, f6⟩ := out_f (S := q) (a := x) (b := y)
  refine ⟨⟨rnF_tr h1 f1, f4.trans h2⟩, ?_, ?_, ?_, ?_, ?_, ?_⟩
  · rw [f6]; exact h3
  · rw [f6]; exact h4
  · rw [f6]; exact h5
  · rw [f5]; exact h6
  · rw [f6]; exact h7
  · rw [f6]; exact h8
/-- another meaning with the same marks -/
theorem rnG_cg {q : md_S} (h : rnG S q lcA loA hiA a) (hE : ∀ i, zE b i ↔ zE a i) (hS : ∀ i, zS b i ↔ zS a i) (hD : zD b ↔ zD a) (hl : ∀ j, lcA j → lc j) (hr : lo ≤ loA ∧ hiA ≤ hi) (hM : (∃ c, zM b c) → ∃ c, zM a c) (hN : (∃ c, zM b c) → ∀ p, zN b p ↔ zN a p) (hin : ∀ p, zN a p → loA ≤ p ∧ p < hiA) : rnG S q lc lo hi b := by
  obtain ⟨h1, h3, h4, h5, h6, h7, h8⟩ := h
  refine ⟨h1, fun i => by rw [hE]; exact h3 i, fun i => by rw [hS]; exact h4 i, fun j hj => h5 j (fun z => hj (hl j z)), by rw [hD]; exact h6, fun p hp => h7 p (fun z => hp (by omega)), fun hb h0 p p1 p2 => ?_⟩
  rw [hN hb p]
  by_cases c : loA ≤ p ∧ p < hiA
  · exact h8 (hM hb) (fun p p1 p2 => h0 p (by omega) (by omega)) p c.1 c.2
  · exact ⟨fun z => absurd (hin p z) c, fun _ => by rw [h7 p c]; exact h0 p p1 p2⟩
theorem rnG_Th {s : Prop} (ha : rnG S S1 lcA loA hiA a) (hb : rnG S1 S2 lcB loB hiB b) (h0 : zC a 0) (oa : zOk s a) (ob : zOk (zM a 0) b) (na : ∀ p, zN a p → loA ≤ p ∧ p < hiA) (nb : ∀ p, zN b p → loB ≤ p ∧ p < hiB) (hr : (lo ≤ loA ∧ hiA ≤ hi) ∧ (lo ≤ loB ∧ hiB ≤ hi)) (hd : (loA = loB ∧ hiA = hiB) ∨ hiA ≤ loB) (hl : ∀ j, lcA j ∨ lcB j → lc j) : rnG S S2 lc lo hi (zTh a b) := by
  obtain ⟨⟨a1, a2⟩, a3, a4, a5, a6, a7, a8⟩ := ha
  obtain ⟨⟨b1, b2⟩, b3, b4, b5, b6, b7, b8⟩ := hb
  refine ⟨⟨rnF_tr a1 b1, b2.trans a2⟩, fun i => ⟨fun z => ?_, fun z => ?_⟩, fun i => ⟨fun z => ?_, fun z => ?_⟩, fun j hj => (b5 j (fun z => hj (hl j (Or.inr z)))).trans (a5 j (fun z => hj (hl j (Or.inl z)))), ⟨fun z => ?_, fun z => ?_⟩, fun p hp => (b7 p (fun z => hp (by omega))).trans (a7 p (fun z => hp (by omega))), fun hm h9 p p1 p2 => ?_⟩
  · by_cases y : zE b i
    · exact (b3 i).1 y
    · rw [(b3 i).2 y]
      exact (a3 i).1 (z.resolve_right (fun t => y t.2))
  · rw [(b3 i).2 (fun t => z (Or.inr ⟨h0, t⟩))]
    exact (a3 i).2 (fun t => z (Or.inl t))
  · by_cases y : zS b i
    · exact (b4 i).1 y
    · rw [(b4 i).2 y]
      exact (a4 i).1 (z.resolve_right (fun t => y t.2))
  · rw [(b4 i).2 (fun t => z (Or.inr ⟨h0, t⟩))]
    exact (a4 i).2 (fun t => z (Or.inl t))
  · by_cases y : zD b
    · exact b6.1 y
    · rw [b6.2 y]
      exact a6.1 (z.resolve_right (fun t => y t.2))
  · rw [b6.2 (fun t => z (Or.inr ⟨h0, t⟩))]
    exact a6.2 (fun t => z (Or.inl t))
  · obtain ⟨c, hm⟩ := hm
    have m0 : zM a 0 ∧ ∃ c, zM b c := by
      rcases hm with ⟨y1, y2⟩ | ⟨y1, y2⟩
      · exact ⟨y1, c, y2⟩
      · exact absurd ((oa.2.2.2.2.1 c y2 0).mp h0).symm y1
    have nA : ∀ p, ¬ zN a p := oa.2.2.2.2.2.2 m0.1
    have s1z : ∀ p, lo ≤ p → p < hi → S1.2.1 75 p = 0 := by
      intro p p1 p2
      by_cases c : loA ≤ p ∧ p < hiA
      · exact (a8 ⟨0, m0.1⟩ (fun p q1 q2 => h9 p (by omega) (by omega)) p c.1 c.2).2 (nA p)
      · rw [a7 p c]; exact h9 p p1 p2
    have e : zN (zTh a b) p ↔ zN b p := ⟨fun z => z.elim (fun z => absurd z (nA p)) (fun z => z.2), fun z => Or.inr ⟨h0, z⟩⟩
    rw [e]
    by_cases c : loB ≤ p ∧ p < hiB
    · exact b8 m0.2 (fun p q1 q2 => s1z p (by omega) (by omega)) p c.1 c.2
    · exact ⟨fun z => absurd (nb p z) c, fun _ => by rw [b7 p c]; exact s1z p p1 p2⟩
/-- a cannot end with 0: b is not run -/
theorem rnG_T0 {s : Prop} (ha : rnG S S1 lcA loA hiA a) (h0 : ¬ zC a 0) (oa : zOk s a) (na : ∀ p, zN a p → loA ≤ p ∧ p < hiA) (hr : lo ≤ loA ∧ hiA ≤ hi) (hl : ∀ j, lcA j → lc j) : rnG S S1 lc lo hi (zTh a b) := by
  refine rnG_cg ha (fun i => ⟨fun z => z.resolve_right (fun t => h0 t.1), Or.inl⟩) (fun i => ⟨fun z => z.resolve_right (fun t => h0 t.1), Or.inl⟩) ⟨fun z => z.resolve_right (fun t => h0 t.1), Or.inl⟩ hl hr (fun ⟨c, z⟩ => ?_) (fun _ p => ⟨fun z => z.resolve_right (fun t => h0 t.1), Or.inl⟩) na
  rcases z with ⟨z, -⟩ | ⟨-, z⟩
  · exact absurd ((oa.2.2.2.2.1 0 z 0).mpr rfl) h0
  · exact ⟨c, z⟩
theorem rnG_Sl {p q : Prop} {X : md_S} (ha : rnG S X lcA loA hiA a) (hp : p) (hq : ¬ q) (na : ∀ p, zN a p → loA ≤ p ∧ p < hiA) (hr : lo ≤ loA ∧ hiA ≤ hi) (hl : ∀ j, lcA j → lc j) : rnG S X lc lo hi (zSl p q a b) := rnG_cg ha (fun i => ⟨fun z => z.elim (fun t => t.2) (fun t => absurd t.1 hq), fun z => Or.inl ⟨hp, z⟩⟩) (fun i => ⟨fun z => z.elim (fun t => t.2) (fun t => absurd t.1 hq), fun z => Or.inl ⟨hp, z⟩⟩) ⟨fun z => z.elim (fun t => t.2) (fun t => absurd t.1 hq), fun z => Or.inl ⟨hp, z⟩⟩ hl hr (fun ⟨c, z⟩ => ⟨c, z.elim (fun t => t.2) (fun t => absurd t.1 hq)⟩) (fun _ p => ⟨fun z => z.elim (fun t => t.2) (fun t => absurd t.1 hq), fun z => Or.inl ⟨hp, z⟩⟩) na
theorem rnG_Sr {p q : Prop} {X : md_S} (hb : rnG S X lcB loB hiB b) (hp : ¬ p) (hq : q) (nb : ∀ p, zN b p → loB ≤ p ∧ p < hiB) (hr : lo ≤ loB ∧ hiB ≤ hi) (hl : ∀ j, lcB j → lc j) : rnG S X lc lo hi (zSl p q a b) := rnG_cg hb (fun i => ⟨fun z => z.elim (fun t => absurd t.1 hp) (fun t => t.2), fun z => Or.inr ⟨hq, z⟩⟩) (fun i => ⟨fun z => z.elim (fun t => absurd t.1 hp) (fun t => t.2), fun z => Or.inr ⟨hq, z⟩⟩) ⟨fun z => z.elim (fun t => absurd t.1 hp) (fun t => t.2), fun z => Or.inr ⟨hq, z⟩⟩ hl hr (fun ⟨c, z⟩ => ⟨c, z.elim (fun t => absurd t.1 hp) (fun t => t.2)⟩) (fun _ p => ⟨fun z => z.elim (fun t => absurd t.1 hp) (fun t => t.2), fun z => Or.inr ⟨hq, z⟩⟩) nb
/-- both are run, neither is sure -/
theorem rnG_S2 {p q : Prop} (ha : rnG S S1 lcA loA hiA a) (hb : rnG S1 S2 lcB loB hiB b) (hp : p) (hq : q) (oa : zOk False a) (ob : zOk False b) (hr : (lo ≤ loA ∧ hiA ≤ hi) ∧ (lo ≤ loB ∧ hiB ≤ hi)) (hl : ∀ j, lcA j ∨ lcB j → lc j) : rnG S S2 lc lo hi (zSl p q a b) := by
  obtain ⟨⟨a1, a2⟩, a3, a4, a5, a6, a7, a8⟩ := ha
  obtain ⟨⟨b1, b2⟩, b3, b4, b5, b6, b7, b8⟩ := hb
  refine ⟨⟨rnF_tr a1 b1, b2.trans a2⟩, fun i => ⟨fun z => ?_, fun z => ?_⟩, fun i => ⟨fun z => ?_, fun z => ?_⟩, fun j hj => (b5 j (fun z => hj (hl j (Or.inr z)))).trans (a5 j (fun z => hj (hl j (Or.inl z)))), ⟨fun z => ?_, fun z => ?_⟩, fun p hp => (b7 p (fun z => hp (by omega))).trans (a7 p (fun z => hp (by omega))), fun ⟨c, hm⟩ => ?_⟩
  · by_cases y : zE b i
    · exact (b3 i).1 y
    · rw [(b3 i).2 y]
      exact (a3 i).1 (z.elim (fun t => t.2) (fun t => absurd t.2 y))
  · rw [(b3 i).2 (fun t => z (Or.inr ⟨hq, t⟩))]
    exact (a3 i).2 (fun t => z (Or.inl ⟨hp, t⟩))
  · exact z.elim (fun t => (oa.2.1 i t.2).elim) (fun t => (ob.2.1 i t.2).elim)
  · rw [(b4 i).2 (fun t => ob.2.1 i t)]
    exact (a4 i).2 (fun t => oa.2.1 i t)
  · exact z.elim (fun t => (oa.2.2.1 t.2).elim) (fun t => (ob.2.2.1 t.2).elim)
  · rw [b6.2 (fun t => ob.2.2.1 t)]
    exact a6.2 (fun t => oa.2.2.1 t)
  · exact (hm.elim (fun t => oa.1 c t.2) (fun t => ob.1 c t.2)).elim
theorem rnG_Pa (ha : rnG S S1 lcA loA hiA a) (hb : rnG S1 S2 lcB loB hiB b) (na : ∀ p, zN a p → loA ≤ p ∧ p < hiA) (nb : ∀ p, zN b p → loB ≤ p ∧ p < hiB) (hr : (lo ≤ loA ∧ hiA ≤ hi) ∧ (lo ≤ loB ∧ hiB ≤ hi)) (hd : hiA ≤ loB) (hl : ∀ j, lcA j ∨ lcB j → lc j) : rnG S S2 lc lo hi (zPa a b) := by
  obtain ⟨⟨a1, a2⟩, a3, a4, a5, a6, a7, a8⟩ := ha
  obtain ⟨⟨b1, b2⟩, b3, b4, b5, b6, b7, b8⟩ := hb
  refine ⟨⟨rnF_tr a1 b1, b2.trans a2⟩, fun i => ⟨fun z => ?_, fun z => ?_⟩, fun i => ⟨fun z => ?_, fun z => ?_⟩, fun j hj => (b5 j (fun z => hj (hl j (Or.inr z)))).trans (a5 j (fun z => hj (hl j (Or.inl z)))), ⟨fun z => ?_, fun z => ?_⟩, fun p hp => (b7 p (fun z => hp (by omega))).trans (a7 p (fun z => hp (by omega))), fun hm h9 p p1 p2 => ?_⟩
  · by_cases y : zE b i
    · exact (b3 i).1 y
    · rw [(b3 i).2 y]
      exact (a3 i).1 (z.resolve_right y)
  · rw [(b3 i).2 (fun t => z (Or.inr t))]
    exact (a3 i).2 (fun t => z (Or.inl t))
  · by_cases y : zS b i
    · exact (b4 i).1 y
    · rw [(b4 i).2 y]
      exact (a4 i).1 (z.resolve_right y)
  · rw [(b4 i).2 (fun t => z (Or.inr t))]
    exact (a4 i).2 (fun t => z (Or.inl t))
  · by_cases y : zD b
    · exact b6.1 y
    · rw [b6.2 y]
      exact a6.1 (z.resolve_right y)
  · rw [b6.2 (fun t => z (Or.inr t))]
    exact a6.2 (fun t => z (Or.inl t))
  · obtain ⟨c, x, y, mx, my, -⟩ := hm
    by_cases cb : loB ≤ p ∧ p < hiB
    · have nA : ¬ zN a p := fun z => by have := na p z; omega
      have e : zN (zPa a b) p ↔ zN b p := ⟨fun z => z.resolve_left nA, Or.inr⟩
      rw [e]
      exact b8 ⟨y, my⟩ (fun p q1 q2 => by rw [a7 p (by omega)]; exact h9 p (by omega) (by omega)) p cb.1 cb.2
    · have nB : ¬ zN b p := fun z => cb (nb p z)
      have e : zN (zPa a b) p ↔ zN a p := ⟨fun z => z.resolve_right nB, Or.inl⟩
      rw [e, b7 p cb]
      by_cases ca : loA ≤ p ∧ p < hiA
      · exact a8 ⟨x, mx⟩ (fun p q1 q2 => h9 p (by omega) (by omega)) p ca.1 ca.2
      · exact ⟨fun z => absurd (na p z) ca, fun _ => by rw [a7 p ca]; exact h9 p p1 p2⟩
end CMP
section NIN
variable {M : md_S} {kk ff xx : Nat → Int32} {m : Nat} {tv : (Nat → Nat) → Int32 → Int32} {σ : Nat → Int32} {hs : Nat → Prop} {sel : Nat → Prop}
/-- pauses that are chosen lie within -/
theorem N_in (hm : m ≤ 1000) : ∀ (T : tT) (V : Int32 → Prop) (k : Nat) (up : Int32) (w : Int) (t : Int32) (a c : Int) (E : List (Int32 × Int32)) (ρ : Nat → Nat) (md : Option Nat) (s : Prop), sfT M kk ff xx m T V k up w t a c E → ∀ p, zN (zv M.2.1 tv σ hs sel T k ρ md s) p → a.toNat ≤ p ∧ p < (a + pas T).toNat
  | .const x, V, k, up, w, t, a, c, E, ρ, md, s, h, p, hp => by
    obtain ⟨hO, hL, hC, hw, ⟨b1, b2, b3, b4, b5, b6, b7⟩, -⟩ := h
    unfold zv at hp
    by_cases c1 : (lT x).1 = 1
    · rw [if_pos c1] at hp
      cases md with
      | none => exact hp.elim
      | some d =>
        have hp : p = nuQ M.2.1 k := hp.2
        have e := (hL.2.1 hO.2.1).1 c1
        have pas1 : pas (.const x) = 1 := if_pos c1
        rw [pas1]
        unfold nuQ at hp
        rw [e] at hp
        omega
    · rw [if_neg c1] at hp
      by_cases c2 : (lT x).1 = 2
      · rw [if_pos c2] at hp; exact hp.elim
      · rw [if_neg c2] at hp
        by_cases c3 : (lT x).1 = 9
        · rw [if_pos c3] at hp; exact hp.elim
        · rw [if_neg c3] at hp; exact hp.elim
  | .unary x A, V, k, up, w, t, a, c, E, ρ, md, s, h, p, hp => by
    have rg := sfT_p h
    have hA := sfT_un hm h
    have n1 : ¬ (lT x).1 = 1 := by rcases h.1.1.1 with ⟨z, -⟩ | ⟨z | z | z, -⟩ <;> (rw [z]; decide)
    have ep : pas (.unary x A) = pas A := by
      show (if (lT x).1 = 1 then (1 : Int) else 0) + pas A = _
      rw [if_neg n1]; omega
    rw [ep] at rg ⊢
    unfold zv at hp
    by_cases c4 : (lT x).1 = 4
    · rw [if_pos c4] at hp
      cases md with
      | none =>
        rcases hp with ⟨-, hp⟩ | ⟨-, hp⟩
        · exact N_in hm A _ _ _ _ _ _ _ _ _ _ _ hA p hp
        · have := hp.2
          omega
      | some d => exact N_in hm A _ _ _ _ _ _ _ _ _ _ _ hA p hp
    · rw [if_neg c4] at hp
      by_cases c6 : (lT x).1 = 6
      · rw [if_pos c6] at hp
        cases md with
        | none =>
          rcases hp with hp | ⟨-, hp⟩
          · exact N_in hm A _ _ _ _ _ _ _ _ _ _ _ hA p hp
          · exact N_in hm A _ _ _ _ _ _ _ _ _ _ _ hA p hp
        | some d => exact N_in hm A _ _ _ _ _ _ _ _ _ _ _ hA p hp
      · rw [if_neg c6] at hp
        by_cases c8 : (lT x).1 = 8
        · rw [if_pos c8] at hp
          exact N_in hm A _ _ _ _ _ _ _ _ _ _ _ hA p hp.1
        · rw [if_neg c8] at hp
          cases md with
          | none => exact N_in hm A _ _ _ _ _ _ _ _ _ _ _ hA p hp
          | some d => exact N_in hm A _ _ _ _ _ _ _ _ _ _ _ hA p hp
  | .binary x A B, V, k, up, w, t, a, c, E, ρ, md, s, h, p, hp => by
    obtain ⟨hA, hB⟩ := sfT_bi hm h
    have n1 : ¬ (lT x).1 = 1 := by rcases h.1.1.1 with ⟨z, -⟩ | ⟨z | z, -⟩ <;> (rw [z]; decide)
    have ep : pas (.binary x A B) = pas A + pas B := by
      show (if (lT x).1 = 1 then (1 : Int) else 0) + (pas A + pas B) = _
      rw [if_neg n1]; omega
    have a0 := tsm_0 (fun V e h => pO_b hm h) A _ h.1.2.1
    have a1 := tsm_0 (fun V e h => pO_b hm h) B _ h.1.2.2
    have b6 := h.2.2.2.2.1.2.2.2.2.2.1
    have gA : ∀ ρ md s, zN (zv M.2.1 tv σ hs sel A (k + 1) ρ md s) p → a.toNat ≤ p ∧ p < (a + pas (.binary x A B)).toNat := fun ρ md s z => by
      have := N_in hm A _ _ _ _ _ _ _ _ _ _ _ hA p z
      omega
    have gB : ∀ ρ md s, zN (zv M.2.1 tv σ hs sel B (k + 1 + tsz A) ρ md s) p → a.toNat ≤ p ∧ p < (a + pas (.binary x A B)).toNat := fun ρ md s z => by
      have := N_in hm B _ _ _ _ _ _ _ _ _ _ _ hB p z
      omega
    unfold zv at hp
    by_cases c3 : (lT x).1 = 3
    · rw [if_pos c3] at hp
      cases md with
      | none =>
        rcases hp with ⟨-, hp⟩ | ⟨-, hp⟩
        · exact gA _ _ _ hp
        · exact gB _ _ _ hp
      | some d =>
        rcases hp with ⟨-, hp⟩ | ⟨-, hp⟩
        · exact gA _ _ _ hp
        · exact gB _ _ _ hp
    · rw [if_neg c3] at hp
      by_cases c5 : (lT x).1 = 5
      · rw [if_pos c5] at hp
        cases md with
        | none =>
          rcases hp with ⟨-, hp | ⟨-, hp⟩⟩ | ⟨-, hp⟩
          · exact gA _ _ _ hp
          · exact gB _ _ _ hp
          · exact gB _ _ _ hp
        | some d =>
          rcases hp with hp | ⟨-, hp⟩
          · exact gA _ _ _ hp
          · exact gB _ _ _ hp
      · rw [if_neg c5] at hp
        cases md with
        | none =>
          rcases hp with (⟨-, hp⟩ | ⟨-, hp⟩) | (⟨-, hp⟩ | ⟨-, hp⟩)
          · exact gA _ _ _ hp
          · exact hp.elim
          · exact gB _ _ _ hp
          · exact hp.elim
        | some d =>
          rcases hp with hp | hp
          · exact gA _ _ _ hp
          · exact gB _ _ _ hp
end NIN
