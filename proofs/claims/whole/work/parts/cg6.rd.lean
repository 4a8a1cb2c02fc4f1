/-! the reference's read: what it says of a program that was read -/
section RDR
variable {names : Int32} {pk pf ps kk ff xx : Nat → Int32} {m : Nat} {θ : (Int32 → Prop) → Int32 → Prop}
theorem PPr_pk (W : pcW names pk pf ps xx m) (e : ∀ k, k < m → kk k = pk k ∧ ff k = pf k) {R : Nat → Nat → Int32} : ∀ (g x k : Nat), x < m → PPr R pk pf xx g x k → PPr R kk ff xx g x k
  | 0, x, k, hx, p => p.elim
  | g + 1, x, k, hx, ⟨p1, p2, p3, p4⟩ => by
    obtain ⟨w1, w2⟩ := W x hx
    obtain ⟨e1, e2⟩ := e x hx
    refine ⟨by rw [e1]; exact p1, fun z => by rw [e1] at z; rw [e2]; exact p2 z, fun z => ?_, fun z => ?_⟩
    · rw [e1] at z
      obtain ⟨u1, u2, u3⟩ := p3 z
      exact ⟨u1, u2, PPr_pk W e g _ _ (by omega) u3⟩
    · rw [e1] at z
      obtain ⟨u1, u2, u3, u4⟩ := p4 z
      rw [e2]
      have w3 : (pf x).toInt.toNat < m := by
        rcases w2 with ⟨c, -⟩ | ⟨c, -⟩ | ⟨-, c1, -, c3, c4, c5⟩
        · rw [c] at z; exact absurd z (by decide)
        · rw [c] at z; exact absurd z (by decide)
        · have := (W (x - 1) (by omega)).1
          omega
      exact ⟨u1, u2, PPr_pk W e g _ _ w3 u3, PPr_pk W e g _ _ (by omega) u4⟩
theorem lrow_pk (W : pcW names pk pf ps xx m) (e : ∀ k, k < m → kk k = pk k ∧ ff k = pf k) {G H : Prop} {R : Nat → Nat → Int32} {k : Nat} {x : lbT} {f s up : Int32} {w : Int} {t : Int32} {a c : Int} (ht : x.2.2.2.2.2 = -1 ∨ (0 ≤ x.2.2.2.2.2.toInt ∧ x.2.2.2.2.2.toInt < (m : Int) ∧ 1 ≤ (xx x.2.2.2.2.2.toInt.toNat).toInt ∧ (xx x.2.2.2.2.2.toInt.toNat).toInt ≤ 2000)) (h : lrow G H pk pf xx R k x f s up w t a c) : lrow G H kk ff xx R k x f s up w t a c := by
  obtain ⟨h1, h2, h3, h4⟩ := h
  refine ⟨h1, h2, fun n y => ?_, h4⟩
  obtain ⟨u1, u2, u3⟩ := h3 n y
  have := ht.resolve_left n
  exact ⟨u1, PPr_pk W e _ _ _ (by omega) u2, u3⟩
theorem LPr_pk (W : pcW names pk pf ps xx m) (e : ∀ k, k < m → kk k = pk k ∧ ff k = pf k) (hθ : ∀ V e, θ V e → 0 ≤ e.toInt ∧ e.toInt < (m : Int) ∧ 1 ≤ (xx e.toInt.toNat).toInt ∧ (xx e.toInt.toNat).toInt ≤ 2000) {G H : Prop} {R : Nat → Nat → Int32} : ∀ (T : tT) (V : Int32 → Prop) (k : Nat) (up : Int32) (w : Int) (t : Int32) (a c : Int), okT θ V T → LPr G H pk pf xx R T k up w t a c → LPr G H kk ff xx R T k up w t a c
  | .const x, V, k, up, w, t, a, c, hO, h => lrow_pk W e (ok_t hθ (Or.inl hO)) h
  | .unary x A, V, k, up, w, t, a, c, hO, ⟨h1, h2⟩ => ⟨lrow_pk W e (ok_t hθ (Or.inr (Or.inl hO.1))) h1, LPr_pk W e hθ A _ _ _ _ _ _ _ hO.2 h2⟩
  | .binary x A B, V, k, up, w, t, a, c, hO, ⟨h1, h2, h3⟩ => ⟨lrow_pk W e (ok_t hθ (Or.inr (Or.inr hO.1))) h1, LPr_pk W e hθ A _ _ _ _ _ _ _ hO.2.1 h2, LPr_pk W e hθ B _ _ _ _ _ _ _ hO.2.2 h3⟩
theorem bw6 {c : Prop} [Decidable c] : (0 : Int) ≤ (if c then 1 else 0) ∧ (if c then (1 : Int) else 0) ≤ 1 := by split <;> omega
/-- weights of the rows -/
theorem LPr_w {G H : Prop} {R : Nat → Nat → Int32} : ∀ (T : tT) (V : Int32 → Prop) (k : Nat) (up : Int32) (w : Int) (t : Int32) (a c : Int), okT θ V T → LPr G H pk pf xx R T k up w t a c → ∀ j, k ≤ j → j < k + tsz T → w ≤ (R 57 j).toInt ∧ (R 57 j).toInt ≤ w + (twd T : Int)
  | .const x, V, k, up, w, t, a, c, hO, h, j, j1, j2 => by
    have j2 : j < k + 1 := j2
    have ej : j = k := by omega
    subst ej
    rw [h.1.2.2.2.2.1]
    omega
  | .unary x A, V, k, up, w, t, a, c, hO, ⟨h1, h2⟩, j, j1, j2 => by
    have j2 : j < k + (1 + tsz A) := j2
    have ht : (twd (.unary x A) : Int) = (if (lT x).1 = 6 then 1 else 0) + (twd A : Int) := by
      show (((if (lT x).1 = 6 then 1 else 0) + twd A : Nat) : Int) = _
      by_cases z : (lT x).1 = 6
      · rw [if_pos z, if_pos z]; omega
      · rw [if_neg z, if_neg z]; omega
    have b := bw6 (c := (lT x).1 = 6)
    by_cases ej : j = k
    · subst ej
      rw [h1.1.2.2.2.2.1]
      omega
    · have := LPr_w A _ _ _ _ _ _ _ hO.2 h2 j (by omega) (by omega)
      omega
  | .binary x A B, V, k, up, w, t, a, c, hO, ⟨h1, h2, h3⟩, j, j1, j2 => by
    have j2 : j < k + (1 + tsz A + tsz B) := j2
    have ht : (twd (.binary x A B) : Int) = max (twd A : Int) ((if (lT x).1 = 5 then 1 else 0) + (twd B : Int)) := by
      show ((max (twd A) ((if (lT x).1 = 5 then 1 else 0) + twd B) : Nat) : Int) = _
      by_cases z : (lT x).1 = 5
      · rw [if_pos z, if_pos z]; omega
      · rw [if_neg z, if_neg z]; omega
    have n6 : ¬ (lT x).1 = 6 := by rcases hO.1.1 with ⟨z, -⟩ | ⟨z | z, -⟩ <;> (rw [z]; decide)
    rw [if_neg n6, Int.add_zero] at h2
    have b := bw6 (c := (lT x).1 = 5)
    by_cases ej : j = k
    · subst ej
      rw [h1.1.2.2.2.2.1]
      omega
    · by_cases eb : j < k + 1 + tsz A
      · have := LPr_w A _ _ _ _ _ _ _ hO.2.1 h2 j (by omega) eb
        omega
      · have := LPr_w B _ _ _ _ _ _ _ hO.2.2 h3 j (by omega) (by omega)
        omega
theorem wsm_z : ∀ (T : tT) (w : Int), 1 ≤ w → (tsz T : Int) ≤ wsm T w
  | .const _, w, h => h
  | .unary x a, w, h => by
    have b := bw6 (c := (lT x).1 = 6)
    have := wsm_z a (w + if (lT x).1 = 6 then 1 else 0) (by omega)
    show ((1 + tsz a : Nat) : Int) ≤ w + wsm a (w + if (lT x).1 = 6 then 1 else 0)
    omega
  | .binary x a b, w, h => by
    have b6 := bw6 (c := (lT x).1 = 6)
    have b5 := bw6 (c := (lT x).1 = 5)
    have h1 := wsm_z a (w + if (lT x).1 = 6 then 1 else 0) (by omega)
    have h2 := wsm_z b (w + if (lT x).1 = 5 then 1 else 0) (by omega)
    show ((1 + tsz a + tsz b : Nat) : Int) ≤ w + (wsm a (w + if (lT x).1 = 6 then 1 else 0) + wsm b (w + if (lT x).1 = 5 then 1 else 0))
    omega
  | .nodeWithAntiquot .., w, h => h
  | .node .., w, h => h
  | .trailingNode .., w, h => h
  | .symbol .., w, h => h
  | .nonReservedSymbol .., w, h => h
  | .cat .., w, h => h
  | .parser .., w, h => h
  | .sepBy .., w, h => h
  | .sepBy1 .., w, h => h
  | .unicodeSymbol .., w, h => h
/-- forgotten: out of the state Y -/
def fgO (M : md_S) (r : md_S × Int32) : Prop := ∃ Y : md_S, (∀ i, ¬ (i = 2 ∨ i = 3 ∨ i = 10 ∨ i = 12 ∨ i = 42 ∨ i = 43 ∨ i = 47 ∨ i = 48 ∨ i = 49) → Y.1 i = M.1 i) ∧ Y.1 2 = 0 ∧ Y.1 3 = 0 ∧ Y.1 10 = r.2 ∧ Y.2.1 1 = M.2.1 1 ∧ mm_forget Y = some r.1
theorem rd_235 {M X : md_S} {r : md_S × Int32} (e : ∀ i, ¬ (i = 10 ∨ i = 12 ∨ i = 42 ∨ i = 43 ∨ i = 47 ∨ i = 48 ∨ i = 49) → X.1 i = M.1 i) (e1 : X.2.1 1 = M.2.1 1) (h : 0 < (X.1 10).toInt) (hq : mm_read_L235 X = some r) : r.2 = X.1 10 ∧ fgO M r := by
  have hq : (if (0 : Int32) < (md_i (md_i X 2 0) 3 0).1 10 then ((mm_forget (md_i (md_i X 2 0) 3 0)).bind fun q3 => mm_read_L263 q3) else ((mm_settle (md_i (md_i X 2 0) 3 0)).bind fun q4 => mm_read_L263 q4)) = some r := hq
  have e10 : (md_i (md_i X 2 0) 3 0).1 10 = X.1 10 := by rw [md_ij (by omega), md_ij (by omega)]
  rw [e10, if_pos (i_lt.mpr (by rw [il_0]; exact h))] at hq
  obtain ⟨z, ez, hq⟩ := iv_bind hq
  have hq : (z, z.1 10) = r := Option.some.inj hq
  have fr := mm_forget_fr _ z ez
  have z10 : z.1 10 = X.1 10 := by rw [fr.1 10 (by decide), e10]
  subst hq
  refine ⟨z10, md_i (md_i X 2 0) 3 0, fun i hi => ?_, ?_, ?_, ?_, e1, ez⟩
  · rw [md_ij (by omega), md_ij (by omega)]
    exact e i (by omega)
  · rw [md_ij (by omega), md_ii]
  · rw [md_ii]
  · exact e10.trans z10.symm
theorem rd_great {M X : md_S} {r : md_S × Int32} (e : ∀ i, ¬ (i = 10 ∨ i = 12 ∨ i = 42 ∨ i = 43 ∨ i = 47 ∨ i = 48 ∨ i = 49) → X.1 i = M.1 i) (e1 : X.2.1 1 = M.2.1 1) (hq : mm_read_L214 X = some r) : r.2 = 6 ∧ fgO M r := by
  have hq : (dc_zb 1).bind (fun _ => if (md_i X 12 1).1 12 = 0 then mm_read_L235 (md_i X 12 1) else mm_read_L235 (md_i (md_i X 12 1) 10 6)) = some r := hq
  obtain ⟨_, _, hq⟩ := iv_bind hq
  rw [md_ii, if_neg (by decide)] at hq
  have := rd_235 (M := M) (X := md_i (md_i X 12 1) 10 6) (fun i hi => by rw [md_ij (by omega), md_ij (by omega)]; exact e i hi) e1 (by rw [md_ii]; decide) hq
  rw [md_ii] at this
  exact this
/-- what the reference says, out of the tree -/
def rdO (pk pf xx : Nat → Int32) (T : tT) (M : md_S) (r : md_S × Int32) : Prop :=
  r.2 = jV M T xx ∧ (¬ r.2 = 0 → fgO M r) ∧ (r.2 = 0 → ∃ S q, (∀ i, ¬ i = 12 → S.1 i = M.1 i) ∧ S.2 = M.2 ∧ layO pk pf xx T S q ∧ tsm xx T ≤ 1000 ∧ setO (md_i (md_i (md_i q 12 0) 2 0) 3 0) r.1 (tsz T))
theorem rd_lay (W : pcW names pk pf ps xx m) (hm : m ≤ 1000) (hθ : ∀ V e, θ V e → 0 ≤ e.toInt ∧ e.toInt < (m : Int) ∧ 1 ≤ (xx e.toInt.toNat).toInt ∧ (xx e.toInt.toNat).toInt ≤ 2000) {T : tT} {V : Int32 → Prop} {M : md_S} {r : md_S × Int32} {s : Int32} (hO : okT θ V T) (hw : wfT T []) (hR : M.1 12 = 0 → repR M T s) (h42 : M.1 42 = 0 ∧ M.1 43 = 0 ∧ M.1 47 = 0 ∧ M.1 48 = 0 ∧ M.1 49 = 0) (h27 : (M.1 27).toInt ≤ 1200) (h36 : M.2.1 36 = pk ∧ M.2.1 37 = pf ∧ M.2.1 38 = ps) (ht : tsm xx T ≤ 70000) (hwd : twd T ≤ 900) (hdp : tdp T ≤ 26) (h10 : M.1 10 = 0) (h13 : ¬ (M.1 13).toInt < 32768) (hgr : ¬ M.1 12 = 0 → lgT M T xx) (h21 : (M.1 15).toInt ≤ 400 → ∀ s : Nat, (s : Int) < (M.1 15).toInt → (0 ≤ (M.2.1 21 s).toInt ∧ (M.2.1 21 s).toInt ≤ 32768) ∧ 0 ≤ (M.2.1 22 s).toInt ∧ (M.2.1 22 s).toInt ≤ 31) (hq : mm_read_L104 M s = some r) : rdO pk pf xx T M r := by
  have jn : jV M T xx = if lgT M T xx then 6 else 0 := if_neg h13
  have z31 : (31 : Int32).toInt = 31 := by decide
  have z400 : (400 : Int32).toInt = 400 := by decide
  have great : ∀ X : md_S, (∀ i, ¬ (i = 10 ∨ i = 12 ∨ i = 42 ∨ i = 43 ∨ i = 47 ∨ i = 48 ∨ i = 49) → X.1 i = M.1 i) → X.2.1 1 = M.2.1 1 → lgT M T xx → mm_read_L214 X = some r → rdO pk pf xx T M r := by
    intro X e e1 lg hq
    obtain ⟨g1, g2⟩ := rd_great e e1 hq
    refine ⟨by rw [jn, if_pos lg]; exact g1, fun _ => g2, fun z => ?_⟩
    rw [g1] at z
    exact absurd z (by decide)
  have g147 : lgT M T xx → mm_read_L147 M s = some r → rdO pk pf xx T M r := by
    intro lg hq
    have hq : (dc_zb 1).bind (fun _ => if (md_i M 12 1).1 12 = 0 then ((mm_lay_I (md_i M 12 1) s).bind fun q10 => mm_read_L167 q10) else mm_read_L167 (md_i M 12 1)) = some r := hq
    obtain ⟨_, _, hq⟩ := iv_bind hq
    rw [md_ii, if_neg (by decide)] at hq
    delta mm_read_L167 at hq
    rw [md_ii, if_neg (by decide)] at hq
    exact great (md_i M 12 1) (fun i hi => md_ij (by omega)) rfl lg hq
  delta mm_read_L104 at hq
  rw [if_pos h10] at hq
  by_cases c12 : M.1 12 = 0
  · rw [if_pos c12] at hq
    by_cases c16 : (31 : Int32) < M.1 16
    · rw [if_pos c16] at hq
      have c := i_lt.mp c16
      exact g147 (Or.inl (by omega)) hq
    · rw [if_neg c16] at hq
      by_cases c17 : (31 : Int32) < M.1 17
      · rw [if_pos c17] at hq
        have c := i_lt.mp c17
        exact g147 (Or.inr (Or.inl (by omega))) hq
      · rw [if_neg c17] at hq
        by_cases c15 : (400 : Int32) < M.1 15
        · rw [if_pos c15] at hq
          have c := i_lt.mp c15
          exact g147 (Or.inr (Or.inr (Or.inl (by omega)))) hq
        · rw [if_neg c15] at hq
          have d16 : ¬ 31 < (M.1 16).toInt := fun t => c16 (i_lt.mpr (by omega))
          have d17 : ¬ 31 < (M.1 17).toInt := fun t => c17 (i_lt.mpr (by omega))
          have d15 : ¬ 400 < (M.1 15).toInt := fun t => c15 (i_lt.mpr (by omega))
          have hq : (dc_zb 0).bind (fun _ => if (md_i M 12 0).1 12 = 0 then ((mm_lay_I (md_i M 12 0) s).bind fun q10 => mm_read_L167 q10) else mm_read_L167 (md_i M 12 0)) = some r := hq
          obtain ⟨_, _, hq⟩ := iv_bind hq
          rw [md_ii, if_pos rfl] at hq
          obtain ⟨z, ez, hq⟩ := iv_bind hq
          have s1 : ∀ i, ¬ i = 12 → (md_i M 12 0).1 i = M.1 i := fun i hi => md_ij hi
          have s12 : (md_i M 12 0).1 12 = 0 := md_ii
          have s2 : (md_i M 12 0).2 = M.2 := rfl
          generalize md_i M 12 0 = S at ez s1 s2 s12
          have L := lay_w W hm hθ hO hw (repR_fr (M' := S) (s1 27 (by omega)) (fun i _ _ => by rw [s2]) T s (hR c12)) (by rw [s1 42 (by omega), s1 43 (by omega), s1 47 (by omega), s1 48 (by omega), s1 49 (by omega)]; exact h42) (by rw [s1 27 (by omega)]; exact h27) (by rw [s2]; exact h36) ht hwd hdp ez
          have L0 := L
          obtain ⟨⟨l1, l2, l3⟩, ⟨l4, l5⟩, l48, l47, l49, l6, l7⟩ := L
          have z12 : z.1 12 = 0 := by rw [l1 12 (by omega)]; exact s12
          have zM : ∀ i, ¬ (i = 10 ∨ i = 12 ∨ i = 42 ∨ i = 43 ∨ i = 47 ∨ i = 48 ∨ i = 49) → z.1 i = M.1 i := fun i hi => by rw [l1 i (by omega), s1 i (by omega)]
          have zT : z.2.1 1 = M.2.1 1 := by rw [l3 1 (by unfold lyJ lyI; omega), s2]
          delta mm_read_L167 at hq
          rw [if_pos z12] at hq
          by_cases c47 : (200 : Int32) < z.1 47
          · rw [if_pos c47] at hq
            have c := i_lt.mp c47
            rw [show (200 : Int32).toInt = 200 by decide] at c
            exact great z zM zT (Or.inr (Or.inr (Or.inr (Or.inl (by omega))))) hq
          · rw [if_neg c47] at hq
            have d47 : ¬ 200 < (z.1 47).toInt := fun t => c47 (i_lt.mpr (by rw [show (200 : Int32).toInt = 200 by decide]; exact t))
            by_cases c43 : (1000 : Int32) < z.1 43
            · rw [if_pos c43] at hq
              have c := i_lt.mp c43
              rw [show (1000 : Int32).toInt = 1000 by decide] at c
              have : 1000 < tsm xx T := by
                by_cases t : tsm xx T ≤ 1000
                · have := (l7 t).1
                  omega
                · omega
              exact great z zM zT (Or.inr (Or.inr (Or.inr (Or.inr (Or.inl this))))) hq
            · rw [if_neg c43] at hq
              have d43 : ¬ 1000 < (z.1 43).toInt := fun t => c43 (i_lt.mpr (by rw [show (1000 : Int32).toInt = 1000 by decide]; exact t))
              have t43 : tsm xx T ≤ 1000 := by
                by_cases t : 1000 < tsm xx T
                · exact absurd (l6 t) d43
                · omega
              by_cases c49 : (8 : Int32) < z.1 49
              · rw [if_pos c49] at hq
                have c := i_lt.mp c49
                rw [il_8] at c
                exact great z zM zT (Or.inr (Or.inr (Or.inr (Or.inr (Or.inr (Or.inl (by omega))))))) hq
              · rw [if_neg c49] at hq
                have d49 : ¬ 8 < (z.1 49).toInt := fun t => c49 (i_lt.mpr (by rw [il_8]; exact t))
                by_cases c48 : (1200 : Int32) < z.1 48
                · rw [if_pos c48] at hq
                  have c := i_lt.mp c48
                  rw [show (1200 : Int32).toInt = 1200 by decide] at c
                  exact great z zM zT (Or.inr (Or.inr (Or.inr (Or.inr (Or.inr (Or.inr (by omega))))))) hq
                · rw [if_neg c48] at hq
                  have d48 : ¬ 1200 < (z.1 48).toInt := fun t => c48 (i_lt.mpr (by rw [show (1200 : Int32).toInt = 1200 by decide]; exact t))
                  have nl : ¬ lgT M T xx := by
                    rintro (y | y | y | y | y | y | y) <;> omega
                  have hq : (dc_zb 0).bind (fun _ => if (md_i z 12 0).1 12 = 0 then mm_read_L235 (md_i z 12 0) else mm_read_L235 (md_i (md_i z 12 0) 10 6)) = some r := hq
                  obtain ⟨_, _, hq⟩ := iv_bind hq
                  rw [md_ii, if_pos rfl] at hq
                  have hq : (if (0 : Int32) < (md_i (md_i (md_i z 12 0) 2 0) 3 0).1 10 then ((mm_forget (md_i (md_i (md_i z 12 0) 2 0) 3 0)).bind fun q3 => mm_read_L263 q3) else ((mm_settle (md_i (md_i (md_i z 12 0) 2 0) 3 0)).bind fun q4 => mm_read_L263 q4)) = some r := hq
                  have X1 : ∀ i, ¬ (i = 2 ∨ i = 3 ∨ i = 12) → (md_i (md_i (md_i z 12 0) 2 0) 3 0).1 i = z.1 i := fun i hi => by rw [md_ij (by omega), md_ij (by omega), md_ij (by omega)]
                  have X2 : (md_i (md_i (md_i z 12 0) 2 0) 3 0).2 = z.2 := rfl
                  have e10 : (md_i (md_i (md_i z 12 0) 2 0) 3 0).1 10 = 0 := by rw [X1 10 (by omega), l1 10 (by omega), s1 10 (by omega)]; exact h10
                  rw [e10, if_neg (by decide)] at hq
                  obtain ⟨y, ey, hq⟩ := iv_bind hq
                  have hq : (y, y.1 10) = r := Option.some.inj hq
                  have ww := LPr_w T V 0 _ _ _ _ _ hO (l7 t43).2.1
                  have sO : setO (md_i (md_i (md_i z 12 0) 2 0) 3 0) y (tsz T) := by
                    refine setl_w (by rw [X1 15 (by omega), l1 15 (by omega), s1 15 (by omega)]; omega) (fun s hs => ?_) (by rw [X1 42 (by omega)]; exact l5) l4 (fun j hj => ?_) ey
                    · rw [X1 15 (by omega), l1 15 (by omega), s1 15 (by omega)] at hs
                      rw [X2, l3 21 (by unfold lyJ lyI; omega), l3 22 (by unfold lyJ lyI; omega), s2]
                      exact h21 (by omega) s hs
                    · rw [X2]
                      have := ww j (by omega) (by omega)
                      omega
                  have y10 : y.1 10 = 0 := by rw [sO.1.1 10 (by omega)]; exact e10
                  subst hq
                  refine ⟨by rw [jn, if_neg nl]; exact y10, fun n => absurd y10 n, fun _ => ⟨S, z, s1, s2, L0, t43, sO⟩⟩
  · rw [if_neg c12] at hq
    exact g147 (hgr c12) hq
end RDR
