theorem ng4 {x : Int} (h : 1 ≤ x) : ((2 * (x - 1)).toNat : Int) < 2 * x := by omega
theorem ng5 {x : Int} (h : 1 ≤ x) : ((2 * (x - 1) + 1).toNat : Int) < 2 * x := by omega
theorem sb_pl_eq {S q : md_S} {i : Nat} (h1 : q.2.1 63 i = S.2.1 63 i) (h2 : q.2.1 64 i = S.2.1 64 i) (h3 : q.2.1 65 i = S.2.1 65 i) (h : sb_pl S i) : sb_pl q i := by unfold sb_pl at *; rw [h1, h2, h3]; exact h
theorem sb_AO_AR {S q : md_S} {up c : Int} {r : Nat} {y : Int} (h : sb_AO S q up r y) (hc : 1 ≤ c) (hp : (q.1 43).toInt ≤ 1000 → sb_pl q (S.1 43).toInt.toNat) (h0 : 0 ≤ (S.1 43).toInt) : sb_AR S q up c (2 * y) := by
  obtain ⟨a1, a2, a3, a4, a5⟩ := h
  refine ⟨a1, ⟨by omega, by omega⟩, a3, fun hq => ⟨(a4 (by omega)).1, fun i hi hi2 => ?_⟩, a5⟩
  rw [show i = (S.1 43).toInt.toNat by omega]; exact hp hq
theorem sb_fr43_tr {S q r : md_S} (h : md_fr [43] [63, 64, 65, 99] false false S q) (k : md_fr [43] [63, 64, 65, 99] false false q r) : md_fr [43] [63, 64, 65, 99] false false S r := md_fr_tr h k (by decide)
theorem ar_ev {a b i : Int} (h : i < a) : ¬ 2 * a = 2 * i := by omega
theorem ar_od {a i : Int} : ¬ 2 * a + 1 = 2 * i := by omega
theorem ar_od2 {a i : Int} : ¬ 2 * a = 2 * i + 1 := by omega
theorem ar_ev2 {a i : Int} (h : i < a) : ¬ 2 * a + 1 = 2 * i + 1 := by omega
/-- not: the piece, then what lies within -/
theorem sb_AR_not {S q q2 : md_S} {up c : Int} {r : Nat} {y : Int} (h : sb_AO S q up r y) (k : sb_AR q q2 (2 * (S.1 43).toInt) c (2 * y)) (h0 : 0 ≤ (S.1 43).toInt) (h43 : (S.1 43).toInt < 1000) (hk : S.2.1 36 r = 1) : sb_AR S q2 up (c + 1) (2 * y) := by
  obtain ⟨a1, a2, a3, a4, a5⟩ := h
  obtain ⟨b1, ⟨b2, b2'⟩, b3, b4, b5⟩ := k
  obtain ⟨a4, a6, a7, a8⟩ := a4 h43
  have ki : ((S.1 43).toInt.toNat : Int) = (S.1 43).toInt := by omega
  refine ⟨sb_fr43_tr a1 b1, ⟨by omega, by omega⟩, fun i hi => ?_, fun hq => ⟨fun i hi => ?_, fun i hi hi2 => ?_⟩, fun i hi => (b5 i hi).trans (a5 i hi)⟩
  · obtain ⟨x1, x2, x3⟩ := a3 i hi
    obtain ⟨y1, y2, y3⟩ := b3 i (by omega)
    exact ⟨y1.trans x1, fun h => (y2 (ar_ev (b := 0) hi)).trans (x2 h), fun h => (y3 ar_od2).trans (x3 h)⟩
  · obtain ⟨x1, x2⟩ := a4 i hi
    obtain ⟨y1, y2, y3⟩ := b3 i (by omega)
    exact ⟨fun h => (y2 (ar_ev (b := 0) hi)).trans (x1 h), fun h => (y3 ar_od2).trans (x2 h)⟩
  · obtain ⟨c1, c2⟩ := b4 hq
    by_cases hz : (i : Int) = (S.1 43).toInt
    · have hz2 : i = (S.1 43).toInt.toNat := by omega
      subst hz2
      obtain ⟨y1, y2, y3⟩ := b3 (S.1 43).toInt.toNat (by omega)
      refine .inr (.inl ⟨by rw [y1, a6]; exact hk, ?_⟩)
      rw [(c1 _ (by omega)).1 (by omega)]
      omega
    · exact c2 i (by omega) hi2
/-- and, or: the piece, then what lies within, one after the other -/
theorem sb_AR_two {S q q2 q3 : md_S} {up c c2 : Int} {r : Nat} {y : Int} (h : sb_AO S q up r y) (k : sb_AR q q2 (2 * (S.1 43).toInt) c (2 * (y + 1))) (l : sb_AR q2 q3 (2 * (S.1 43).toInt + 1) c2 (2 * y)) (h0 : 0 ≤ (S.1 43).toInt) (h43 : (S.1 43).toInt < 1000) (hk : S.2.1 36 r = 2 ∨ S.2.1 36 r = 3) : sb_AR S q3 up (c + c2 + 1) (2 * y) := by
  obtain ⟨a1, a2, a3, a4, a5⟩ := h
  obtain ⟨b1, ⟨b2, b2'⟩, b3, b4, b5⟩ := k
  obtain ⟨l1, ⟨l2, l2'⟩, l3, l4, l5⟩ := l
  obtain ⟨a4, a6, a7, a8⟩ := a4 h43
  have ki : ((S.1 43).toInt.toNat : Int) = (S.1 43).toInt := by omega
  refine ⟨sb_fr43_tr a1 (sb_fr43_tr b1 l1), ⟨by omega, by omega⟩, fun i hi => ?_, fun hq => ⟨fun i hi => ?_, fun i hi hi2 => ?_⟩, fun i hi => (l5 i hi).trans ((b5 i (by omega)).trans (a5 i hi))⟩
  · obtain ⟨x1, x2, x3⟩ := a3 i hi
    obtain ⟨y1, y2, y3⟩ := b3 i (by omega)
    obtain ⟨z1, z2, z3⟩ := l3 i (by omega)
    exact ⟨z1.trans (y1.trans x1), fun h => (z2 ar_od).trans ((y2 (ar_ev (b := 0) hi)).trans (x2 h)), fun h => (z3 (ar_ev2 hi)).trans ((y3 ar_od2).trans (x3 h))⟩
  · obtain ⟨x1, x2⟩ := a4 i hi
    obtain ⟨y1, y2, y3⟩ := b3 i (by omega)
    obtain ⟨z1, z2, z3⟩ := l3 i (by omega)
    exact ⟨fun h => (z2 ar_od).trans ((y2 (ar_ev (b := 0) hi)).trans (x1 h)), fun h => (z3 (ar_ev2 hi)).trans ((y3 ar_od2).trans (x2 h))⟩
  · obtain ⟨c1, c2⟩ := b4 (by omega)
    obtain ⟨d1, d2⟩ := l4 hq
    by_cases hz : (i : Int) = (S.1 43).toInt
    · have hz2 : i = (S.1 43).toInt.toNat := by omega
      subst hz2
      obtain ⟨y1, y2, y3⟩ := b3 (S.1 43).toInt.toNat (by omega)
      obtain ⟨z1, z2, z3⟩ := l3 (S.1 43).toInt.toNat (by omega)
      refine .inr (.inr ⟨by rw [z1, y1, a6]; exact hk, ?_, ?_⟩)
      · rw [z2 ar_od, (c1 _ (by omega)).1 (by omega)]
        omega
      · rw [(d1 _ (by omega)).2 (by omega)]
        omega
    · by_cases hy : (i : Int) < (q2.1 43).toInt
      · obtain ⟨z1, z2, z3⟩ := l3 i hy
        exact sb_pl_eq z1 (z2 ar_od) (z3 (by omega)) (c2 i (by omega) hy)
      · exact d2 i (by omega) hi2
theorem x3f {x : Int32} (h : 1 ≤ x.toInt) (h2 : x.toInt ≤ 4000) : (x + (-1)).toInt = x.toInt - 1 ∧ x + (-1) + 1 = x ∧ x + 1 + (-1) = x ∧ (x + 1).toInt = x.toInt + 1 := by
  have a1 : (x + (-1)).toInt = x.toInt - 1 := by rw [a_add, il_m1]; omega
  have a2 : (x + 1).toInt = x.toInt + 1 := by rw [a_add, il_1]; omega
  refine ⟨a1, i_eq.mpr ?_, i_eq.mpr ?_, a2⟩
  · rw [a_add, il_1, a1]; omega
  · rw [a_add, il_m1, a2]; omega
theorem ask_tree {pk pf ps : Nat → Int32} {nm x2 : Int32} {F : md_S → Prop} (hnm : nm.toInt ≤ 400) : ∀ (n : Nat) {lo hi : Nat}, sb_Q pk pf ps nm n lo hi → hi ≤ 1000 → ∀ (S : md_S) (x3 up : Int32), S.2.1 36 = pk → S.2.1 37 = pf → S.2.1 38 = ps → 0 ≤ (S.1 43).toInt → (S.1 43).toInt + ((hi : Int) - lo) < 1500000 → 1 ≤ x3.toInt → x3.toInt + ((hi : Int) - lo) ≤ 4000 → (S.2.1 99 (2 * (x3.toInt - 1)).toNat).toInt = (hi : Int) - 1 → S.2.1 99 (2 * (x3.toInt - 1) + 1).toNat = up → (up = -1 ∨ (0 ≤ up.toInt ∧ up.toInt < 2 * (S.1 43).toInt)) → (∀ q, sb_AR S q up.toInt ((hi : Int) - lo) (2 * (x3.toInt - 1)) → dc_wp (dc_it (mm_ask_s23 x2) (q, x3 + (-1))) F) → dc_wp (dc_it (mm_ask_s23 x2) (S, x3)) F := by
  intro n
  induction n with
  | zero => intro lo hi h; exact h.elim
  | succ n ih =>
    intro lo hi ht hhi S x3 up s36 s37 s38 h43 h43' hx hx2 e1 e2 hu k
    have hlt := sb_Q_lt ht
    have hr : (S.2.1 99 (2 * (x3.toInt - 1)).toNat).toInt.toNat = hi - 1 := by omega
    obtain ⟨a1, w1, w2, x1⟩ := x3f hx (by omega)
    refine dc_it1 ?_
    show dc_wp (mm_ask_b23 S x2 x3) _
    unfold sb_Q at ht
    rcases ht with ⟨t1, t2, t3, t4, t5⟩ | ⟨t1, t2, t3, t4, t5⟩ | ⟨m, t1, t2, t3, t4, t5, t6, t7⟩
    · have er : hi - 1 = lo := by omega
      refine ask_step h43 (by omega) hx (by omega) rfl e2 hu (by omega) ?_ ?_ ?_ ?_ ?_ ?_
      · rw [hr, s38, er]; exact fun _ => t5
      · rw [hr, s36, er, t2, il_0]; exact Int.le_refl _
      · intro hb q a
        refine k q (sb_AO_AR a (by omega) (fun hq => ?_) h43)
        have := a.2.1; omega
      · intro hb hz q a
        refine k q (sb_AO_AR a (by omega) (fun hq => ?_) h43)
        obtain ⟨b1, b2, b3⟩ := (a.2.2.2.1 hb).2
        refine .inl ⟨by rw [b1]; exact hz, ?_⟩
        rw [b2, hr, s37, er]; omega
      · intro hb hs hz
        rw [hr, s36, er] at hz; exact absurd t2 hz
      · intro hb hs hz
        rw [hr, s36, er] at hz; exact absurd t2 hz
    · refine ask_step h43 (by omega) hx (by omega) rfl e2 hu (by omega) ?_ ?_ ?_ ?_ ?_ ?_
      · rw [hr, s36, t2]; exact fun h => absurd h (by decide)
      · rw [hr, s36, t2, il_1]; omega
      · intro hb q a
        refine k q (sb_AO_AR a (by omega) (fun hq => ?_) h43)
        have := a.2.1; omega
      · intro hb hz
        rw [hr, s36, t2] at hz; exact absurd hz (by decide)
      · intro hb hs hz q a c1 c2
        show dc_wp (dc_it (mm_ask_s23 x2) (q, x3 + (-1) + 1)) F
        rw [w1]
        refine ih t5 (by omega) q x3 _ ((a.1.2.1 36 (by decide)).trans s36) ((a.1.2.1 37 (by decide)).trans s37) ((a.1.2.1 38 (by decide)).trans s38) (by have := a.2.1; omega) (by have := a.2.1; omega) hx (by omega) ?_ rfl (.inr (by have := a.2.1; omega)) (fun q2 b => ?_)
        · rw [c1, hr, s37, t3]; omega
        · rw [c2] at b
          have := sb_AR_not a b h43 hb (by rw [hr, s36]; exact t2)
          rw [show ((hi - 1 : Nat) : Int) - lo + 1 = (hi : Int) - lo by omega] at this
          exact k q2 this
      · intro hb hs hz
        rw [hr, s38] at hs; exact absurd t4 hs
    · refine ask_step h43 (by omega) hx (by omega) rfl e2 hu (by omega) ?_ ?_ ?_ ?_ ?_ ?_
      · rw [hr, s36]; exact fun h => by rw [h] at t3; exact absurd t3 (by decide)
      · rw [hr, s36]; rcases t3 with t3 | t3 <;> rw [t3] <;> decide
      · intro hb q a
        refine k q (sb_AO_AR a (by omega) (fun hq => ?_) h43)
        have := a.2.1; omega
      · intro hb hz
        rw [hr, s36] at hz; rw [hz] at t3; exact absurd t3 (by decide)
      · intro hb hs hz
        rw [hr, s38] at hs; rw [hs, il_m1] at t5; omega
      · intro hb hs hz q a c1 c2 c3 c4
        show dc_wp (dc_it (mm_ask_s23 x2) (q, x3 + (-1) + 1 + 1)) F
        rw [w1]
        have x11 : (x3 + 1).toInt - 1 = x3.toInt := by omega
        have q43 := a.2.1
        refine ih t6 (by omega) q (x3 + 1) _ ((a.1.2.1 36 (by decide)).trans s36) ((a.1.2.1 37 (by decide)).trans s37) ((a.1.2.1 38 (by decide)).trans s38) (by omega) (by omega) (by omega) (by omega) ?_ rfl ?_ (fun q2 b => ?_)
        · rw [x11, c3, hr, s37, t4]; omega
        · rw [x11, c4]; exact .inr (by omega)
        · rw [x11, c4] at b
          rw [w2]
          have b43 := b.2.1
          have b99 := b.2.2.2.2
          have i1 : ((2 * (x3.toInt - 1)).toNat : Int) < 2 * x3.toInt := ng4 hx
          have i2 : ((2 * (x3.toInt - 1) + 1).toNat : Int) < 2 * x3.toInt := ng5 hx
          refine ih t7 (by omega) q2 x3 _ ((b.1.2.1 36 (by decide)).trans ((a.1.2.1 36 (by decide)).trans s36)) ((b.1.2.1 37 (by decide)).trans ((a.1.2.1 37 (by decide)).trans s37)) ((b.1.2.1 38 (by decide)).trans ((a.1.2.1 38 (by decide)).trans s38)) (by omega) (by omega) hx (by omega) ?_ rfl ?_ (fun q3 d => ?_)
          · rw [b99 _ i1, c1, hr, s38, t5]; omega
          · rw [b99 _ i2, c2]; exact .inr (by omega)
          · rw [b99 _ i2, c2] at d
            have := sb_AR_two (y := x3.toInt - 1) a (by rw [show x3.toInt - 1 + 1 = x3.toInt by omega]; exact b) d h43 hb (by rw [hr, s36]; exact t3)
            rw [show ((m : Nat) : Int) - lo + (((hi - 1 : Nat) : Int) - m) + 1 = (hi : Int) - lo by omega] at this
            exact k q3 this
