/-! the reference's lay: one node, whole -/
theorem ofn_i {a b : Nat} (ha : a < 100000) (hb : b < 100000) (h : Int32.ofNat a = Int32.ofNat b) : a = b := by
  have := congrArg Int32.toInt h
  rw [Int32.toInt_ofNat_of_lt (by omega), Int32.toInt_ofNat_of_lt (by omega)] at this
  omega
theorem ofn_m {a : Nat} (ha : a < 100000) : ¬ Int32.ofNat a = -1 := by
  intro h
  have := congrArg Int32.toInt h
  rw [Int32.toInt_ofNat_of_lt (by omega), show (-1 : Int32).toInt = -1 by decide] at this
  omega
theorem lnB_f {X : md_S} {up ot kk : Int32} (h : up = -1 ∨ ∃ v, v < 1200 ∧ up = Int32.ofNat v ∧ (ot = 0 ∨ ot = 1)) : (lnB X up ot kk).1 = X.1 ∧ (lnB X up ot kk).2.2 = X.2.2 ∧ (∀ i, ¬ (i = 52 ∨ i = 53) → (lnB X up ot kk).2.1 i = X.2.1 i) ∧ ∀ j, j < 1200 → (lnB X up ot kk).2.1 52 j = (if up = Int32.ofNat j ∧ ot = 0 then kk else X.2.1 52 j) ∧ (lnB X up ot kk).2.1 53 j = (if up = Int32.ofNat j ∧ ot = 1 then kk else X.2.1 53 j) := by
  rcases h with h | ⟨v, hv, h, ho⟩
  · rw [show lnB X up ot kk = X from if_pos h]
    refine ⟨rfl, rfl, fun _ _ => rfl, fun j hj => ?_⟩
    have nj : ¬ up = Int32.ofNat j := by rw [h]; exact fun e => ofn_m (by omega) e.symm
    rw [if_neg (fun t => nj t.1), if_neg (fun t => nj t.1)]
    exact ⟨rfl, rfl⟩
  · have nm : ¬ up = -1 := by rw [h]; exact ofn_m (by omega)
    have tv : up.toInt.toNat = v := by rw [h, Int32.toInt_ofNat_of_lt (by omega)]; omega
    rcases ho with ho | ho
    · rw [show lnB X up ot kk = md_a X 52 v kk by unfold lnB; rw [if_neg nm, if_pos ho, tv]]
      refine ⟨rfl, rfl, fun i hi => by rw [md_a2, if_neg (by omega)], fun j hj => ⟨?_, ?_⟩⟩
      · show upd (X.2.1 52) v kk j = _
        by_cases e : j = v
        · rw [e, upd_s, if_pos ⟨h, ho⟩]
        · rw [upd_n e, if_neg (fun t => e (ofn_i (by omega) (by omega) (t.1.symm.trans h)))]
      · rw [if_neg (fun t => absurd (ho.symm.trans t.2) (by decide))]
        rfl
    · have n0 : ¬ ot = 0 := by rw [ho]; decide
      rw [show lnB X up ot kk = md_a X 53 v kk by unfold lnB; rw [if_neg nm, if_neg n0, tv]]
      refine ⟨rfl, rfl, fun i hi => by rw [md_a2, if_neg (by omega)], fun j hj => ⟨?_, ?_⟩⟩
      · rw [if_neg (fun t => n0 t.2)]
        rfl
      · show upd (X.2.1 53) v kk j = _
        by_cases e : j = v
        · rw [e, upd_s, if_pos ⟨h, ho⟩]
        · rw [upd_n e, if_neg (fun t => e (ofn_i (by omega) (by omega) (t.1.symm.trans h)))]
theorem upK_o {S : md_S} {pp : Int32} {k : Nat} {up ot w tr : Int32} (hk : k ≤ 1200) (h : upK S pp k up ot w tr) : up = -1 ∨ ∃ v, v < 1200 ∧ up = Int32.ofNat v ∧ (ot = 0 ∨ ot = 1) := by
  rcases h with ⟨-, h, -⟩ | ⟨v, hv, h, h2, -⟩
  · exact Or.inl h
  · refine Or.inr ⟨v, by omega, h, ?_⟩
    rcases h2 with ⟨-, e⟩ | ⟨-, e⟩
    · exact Or.inl e
    · exact Or.inr e
theorem upK_uni {S : md_S} {pp : Int32} {k : Nat} {up ot w tr up' ot' w' tr' : Int32} (hk : k ≤ 1200) (h : upK S pp k up ot w tr) (g : upK S pp k up' ot' w' tr') : up = up' ∧ w = w' ∧ tr = tr' ∧ (up = -1 ∨ ot = ot') := by
  rcases h with ⟨h1, h2, h3, h4⟩ | ⟨v, hv, h1, h2, h3, h4⟩
  · rcases g with ⟨g1, g2, g3, g4⟩ | ⟨v', hv', g1, g2, g3, g4⟩
    · exact ⟨h2.trans g2.symm, h3.trans g3.symm, h4.trans g4.symm, Or.inl h2⟩
    · obtain ⟨a1, a2, a3, a4, a5, a6⟩ := up_e v' (by omega)
      rcases g2 with ⟨t, -⟩ | ⟨t, -⟩
      · exact absurd (t.symm.trans h1) a5
      · exact absurd (t.symm.trans h1) a6
  · rcases g with ⟨g1, g2, g3, g4⟩ | ⟨v', hv', g1, g2, g3, g4⟩
    · obtain ⟨a1, a2, a3, a4, a5, a6⟩ := up_e v (by omega)
      rcases h2 with ⟨t, -⟩ | ⟨t, -⟩
      · exact absurd (t.symm.trans g1) a5
      · exact absurd (t.symm.trans g1) a6
    · have e : v = v' ∧ ot = ot' := by
        obtain ⟨i1, i2, i3⟩ := uc_inj (v := v) (v' := v') (by omega) (by omega)
        obtain ⟨j1, j2, j3⟩ := uc_inj (v := v') (v' := v) (by omega) (by omega)
        rcases h2 with ⟨t, o⟩ | ⟨t, o⟩
        · rcases g2 with ⟨t', o'⟩ | ⟨t', o'⟩
          · exact ⟨i1 (t.symm.trans t'), o.trans o'.symm⟩
          · exact absurd (t.symm.trans t') i3
        · rcases g2 with ⟨t', o'⟩ | ⟨t', o'⟩
          · exact absurd (t'.symm.trans t) j3
          · exact ⟨i2 (t.symm.trans t'), o.trans o'.symm⟩
      obtain ⟨e1, e2⟩ := e
      subst e1
      subst e2
      have eu := h1.trans g1.symm
      subst eu
      exact ⟨rfl, h3.trans g3.symm, h4.trans g4.symm, Or.inr rfl⟩
abbrev lyI (i : Nat) : Prop := i = 39 ∨ i = 40 ∨ (51 ≤ i ∧ i ≤ 54) ∨ (56 ≤ i ∧ i ≤ 58) ∨ i = 60 ∨ (62 ≤ i ∧ i ≤ 66) ∨ i = 99
/-- what a node's step has changed -/
def lyF (pk pf xx : Nat → Int32) (S S' : md_S) (k : Nat) (x : lbT) (up ot w tr : Int32) (d : Nat) : Prop :=
  ((∀ i, ¬ (i = 42 ∨ i = 43 ∨ i = 47 ∨ i = 48 ∨ i = 49) → S'.1 i = S.1 i) ∧ S'.1 42 = Int32.ofNat (k + 1) ∧ S'.1 48 = S.1 48 + w ∧ S'.1 47 = S.1 47 + (if x.1 = 1 then 1 else 0) ∧ S'.1 49 = dc_max (S.1 49) (Int32.ofNat d)) ∧ S'.2.2 = S.2.2 ∧ (∀ i, ¬ lyI i → S'.2.1 i = S.2.1 i) ∧
  (S'.2.1 51 = upd (S.2.1 51) k x.1 ∧ S'.2.1 56 = upd (S.2.1 56) k x.2.1 ∧ S'.2.1 58 = upd (S.2.1 58) k up ∧ S'.2.1 57 = upd (S.2.1 57) k w ∧ S'.2.1 60 = upd (S.2.1 60) k tr ∧ S'.2.1 62 = upd (S.2.1 62) k (S.1 47)) ∧
  ((∀ j, ¬ j = k → S'.2.1 54 j = S.2.1 54 j) ∧ (x.2.2.2.2.2 = -1 → S'.2.1 54 k = if x.1 = 1 then S.1 47 else rN x)) ∧
  (S'.2.1 52 k = -1 ∧ S'.2.1 53 k = -1 ∧ ∀ j, j < k → S'.2.1 52 j = (if up = Int32.ofNat j ∧ ot = 0 then Int32.ofNat k else S.2.1 52 j) ∧ S'.2.1 53 j = (if up = Int32.ofNat j ∧ ot = 1 then Int32.ofNat k else S.2.1 53 j)) ∧
  (S.1 43).toInt ≤ (S'.1 43).toInt ∧ (S'.1 43).toInt ≤ (S.1 43).toInt + txx xx x.2.2.2.2.2 ∧ (1000 < (S.1 43).toInt + txx xx x.2.2.2.2.2 → 1000 < (S'.1 43).toInt) ∧
  ((S.1 43).toInt + txx xx x.2.2.2.2.2 ≤ 1000 → (S'.1 43).toInt = (S.1 43).toInt + txx xx x.2.2.2.2.2 ∧ (∀ j, j < (S.1 43).toInt.toNat → S'.2.1 63 j = S.2.1 63 j ∧ S'.2.1 64 j = S.2.1 64 j ∧ S'.2.1 65 j = S.2.1 65 j ∧ S'.2.1 66 j = S.2.1 66 j) ∧
    (¬ x.2.2.2.2.2 = -1 → S'.2.1 54 k = S.1 43 ∧ PPr S'.2.1 pk pf xx (txx xx x.2.2.2.2.2).toNat x.2.2.2.2.2.toInt.toNat (S.1 43).toInt.toNat ∧ (S'.2.1 66 (S.1 43).toInt.toNat).toInt = (S.1 43).toInt + txx xx x.2.2.2.2.2))
theorem PPr_c {R R' : Nat → Nat → Int32} {pk pf xx : Nat → Int32} (e1 : R' 63 = R 63) (e2 : R' 64 = R 64) (e3 : R' 65 = R 65) : ∀ (g e k : Nat), PPr R pk pf xx g e k → PPr R' pk pf xx g e k
  | 0, _, _, p => p.elim
  | g + 1, e, k, ⟨p1, p2, p3, p4⟩ => by
    refine ⟨by rw [e1]; exact p1, fun t => by rw [e2, e3]; exact p2 t, fun t => ?_, fun t => ?_⟩
    · obtain ⟨a, b, c⟩ := p3 t
      exact ⟨by rw [e2]; exact a, by rw [e3]; exact b, PPr_c e1 e2 e3 g _ _ c⟩
    · obtain ⟨a, b, c, d⟩ := p4 t
      exact ⟨by rw [e2]; exact a, by rw [e3]; exact b, PPr_c e1 e2 e3 g _ _ c, PPr_c e1 e2 e3 g _ _ d⟩
section LAY2
variable {names : Int32} {pk pf ps xx : Nat → Int32} {m : Nat}
theorem lyF_39 {S S' S2 : md_S} {k : Nat} {x : lbT} {up ot w tr : Int32} {d : Nat} (h : lyF pk pf xx S S' k x up ot w tr d) (e1 : S2.1 = S'.1) (e2 : S2.2.2 = S'.2.2) (e3 : ∀ i, ¬ (i = 39 ∨ i = 40) → S2.2.1 i = S'.2.1 i) : lyF pk pf xx S S2 k x up ot w tr d := by
  obtain ⟨a, b, c, f, g, l, o1, o2, o3, o4⟩ := h
  unfold lyF
  rw [e1, e2, e3 51 (by omega), e3 52 (by omega), e3 53 (by omega), e3 54 (by omega), e3 56 (by omega), e3 57 (by omega), e3 58 (by omega), e3 60 (by omega), e3 62 (by omega), e3 63 (by omega), e3 64 (by omega), e3 65 (by omega), e3 66 (by omega)]
  refine ⟨a, b, fun i hi => (e3 i (by omega)).trans (c i hi), f, g, l, o1, o2, o3, fun t => ?_⟩
  obtain ⟨u1, u2, u3⟩ := o4 t
  refine ⟨u1, u2, fun v => ?_⟩
  obtain ⟨v1, v2, v3⟩ := u3 v
  exact ⟨v1, PPr_c (e3 63 (by omega)) (e3 64 (by omega)) (e3 65 (by omega)) _ _ _ v2, v3⟩
theorem lay_1 (W : pcW names pk pf ps xx m) (hm : m ≤ 1000) {S z : md_S} {n k b d : Nat} {x : lbT} {c1 c2 up ot w tr : Int32} (hn : n ≤ 3000) (hk : k ≤ 1200) (h42 : S.1 42 = Int32.ofNat k) (hb : b < 1200) (h39 : S.2.1 39 n = Int32.ofNat b) (hr : rRow S b x c1 c2) (hu : upK S (S.2.1 40 n) k up ot w tr) (hd : d ≤ 5000) (htc : TC (S.2.1 60) tr d) (htr : ∀ j, tr = Int32.ofNat j → j < 1200 → j < k) (hcl : ∀ j i, j < k → S.2.1 60 j = Int32.ofNat i → i < 1200 → i < k) (r36 : S.2.1 36 = pk) (r37 : S.2.1 37 = pf) (r38 : S.2.1 38 = ps) (p0 : 0 ≤ (S.1 43).toInt) (p1 : (S.1 43).toInt ≤ 80000) (ht : x.2.2.2.2.2 = -1 ∨ (0 ≤ x.2.2.2.2.2.toInt ∧ x.2.2.2.2.2.toInt < (m : Int) ∧ (xx x.2.2.2.2.2.toInt.toNat).toInt ≤ 2000)) (hz : dc_it mm_lay_I_s16 (S, Int32.ofNat (n + 1)) = some z) :
    k < 1200 ∧ ∃ S', lyF pk pf xx S S' k x up ot w tr d ∧ (∀ j, j < n → S'.2.1 39 j = S.2.1 39 j ∧ S'.2.1 40 j = S.2.1 40 j) ∧
      ((c2 = -1 → c1 = -1 → dc_it mm_lay_I_s16 (S', Int32.ofNat n) = some z) ∧
       (c2 = -1 → ¬ c1 = -1 → n < 1208 ∧ S'.2.1 39 n = c1 ∧ S'.2.1 40 n = 2 * Int32.ofNat k ∧ dc_it mm_lay_I_s16 (S', Int32.ofNat (n + 1)) = some z) ∧
       (¬ c2 = -1 → ¬ c1 = -1 → n + 1 < 1208 ∧ S'.2.1 39 n = c2 ∧ S'.2.1 40 n = 2 * Int32.ofNat k + 1 ∧ S'.2.1 39 (n + 1) = c1 ∧ S'.2.1 40 (n + 1) = 2 * Int32.ofNat k ∧ dc_it mm_lay_I_s16 (S', Int32.ofNat (n + 2)) = some z)) := by
  obtain ⟨q, eq⟩ := it_st hz
  have hu0 : S.2.1 40 n = -1 ∨ ∃ v, v < k ∧ (S.2.1 40 n = 2 * Int32.ofNat v ∨ S.2.1 40 n = 2 * Int32.ofNat v + 1) := by
    rcases hu with ⟨h, -⟩ | ⟨v, hv, -, h, -⟩
    · exact Or.inl h
    · refine Or.inr ⟨v, hv, ?_⟩
      rcases h with ⟨h, -⟩ | ⟨h, -⟩
      · exact Or.inl h
      · exact Or.inr h
  obtain ⟨up', ot', hv', hq⟩ := lay_a hn hk hu0 eq
  have hk' : k < 1200 := by
    have hq' : mm_lay_I_L69 S (Int32.ofNat n) (S.2.1 39 n) (S.1 42) up' ot' = some q := hq
    clear hq
    delta mm_lay_I_L69 at hq'
    obtain ⟨-, -, hq'⟩ := iv_ix hq'
    rw [h42] at hq'
    obtain ⟨-, t, -⟩ := iv_ix hq'
    rw [Int32.toInt_ofNat_of_lt (by omega)] at t
    omega
  rw [h39] at hq
  obtain ⟨w', tr', hu', hq⟩ := lay_b hk' hb h42 hv' hq
  obtain ⟨eu, ew, et, eo⟩ := upK_uni hk hu hu'
  subst eu
  subst ew
  subst et
  have hX : lnB (lyB S k b up w tr) up ot' (Int32.ofNat k) = lnB (lyB S k b up w tr) up ot (Int32.ofNat k) := by
    rcases eo with eo | eo
    · unfold lnB
      rw [if_pos eo, if_pos eo]
    · rw [eo]
  rw [hX] at hq
  have fo := upK_o hk hu
  obtain ⟨Y, dd, hY, hd1, hq⟩ := lay_c hn hk' hb hq
  obtain ⟨⟨y1, y2, y3⟩, y4, ⟨z1, z2, z3, z4, z5, z6, z7, z8⟩, y5⟩ := lyB_f (S := S) (k := k) (b := b) (up := up) (w := w) (tr := tr)
  obtain ⟨l1, l2, l3, l4⟩ := lnB_f (X := lyB S k b up w tr) (kk := Int32.ofNat k) fo
  generalize lnB (lyB S k b up w tr) up ot (Int32.ofNat k) = X at l1 l2 l3 l4 hY hq
  have rr := hr
  obtain ⟨r30, r31, r32, r33, r34, r35⟩ := hr
  -- the row
  have e47 : X.1 47 = S.1 47 := by rw [l1, y3 47 (by decide) (by decide)]
  rw [e47] at hY
  have a51 : (md_a X 62 k (S.1 47)).2.1 51 k = x.1 := by
    show X.2.1 51 k = _
    rw [l3 51 (by omega), z1, upd_s, r30]
  obtain ⟨⟨f1, f2⟩, f3, f4, f5⟩ := lzP_f (X := md_a X 62 k (S.1 47)) (k := k)
  rw [a51] at f1 f4
  generalize lzP (md_a X 62 k (S.1 47)) k = X2 at f1 f2 f3 f4 f5 hY
  have f1 : X2.1 47 = S.1 47 + (if x.1 = 1 then 1 else 0) := by rw [f1, show (md_a X 62 k (S.1 47)).1 47 = X.1 47 from rfl, e47]
  have f2 : ∀ i, ¬ i = 47 → X2.1 i = X.1 i := fun i hi => f2 i hi
  have f3 : X2.2.2 = X.2.2 := f3
  have f4 : X2.2.1 54 = if x.1 = 1 then upd (X.2.1 54) k (S.1 47) else X.2.1 54 := by rw [f4, show (md_a X 62 k (S.1 47)).1 47 = X.1 47 from rfl, e47]; rfl
  have f5 : ∀ i, ¬ i = 54 → X2.2.1 i = if i = 62 then upd (X.2.1 62) k (S.1 47) else X.2.1 i := fun i hi => by rw [f5 i hi, md_a2]
  have g35 : X2.2.1 35 b = x.2.2.2.2.2 := by rw [f5 35 (by omega), if_neg (by omega), l3 35 (by omega), y5 35 (by omega), r35]
  rw [g35] at hY
  have g43 : X2.1 43 = S.1 43 := by rw [f2 43 (by decide), l1, y3 43 (by decide) (by decide)]
  have gr : ∀ i, ¬ lyI i → X2.2.1 i = S.2.1 i := fun i hi => by rw [f5 i (by omega), if_neg (by omega), l3 i (by omega), y5 i (by omega)]
  have g54 : (∀ j, ¬ j = k → X2.2.1 54 j = S.2.1 54 j) ∧ X2.2.1 54 k = if x.1 = 1 then S.1 47 else rN x := by
    rw [f4]
    by_cases c : x.1 = 1
    · rw [if_pos c, if_pos c]
      exact ⟨fun j hj => by rw [upd_n hj, l3 54 (by omega), z2, upd_n hj], upd_s⟩
    · rw [if_neg c, if_neg c, l3 54 (by omega), z2]
      exact ⟨fun j hj => upd_n hj, by rw [upd_s, r33]⟩
  -- the test
  have hA : (∀ i, ¬ i = 43 → Y.1 i = X2.1 i) ∧ (∀ i, ¬ (i = 54 ∨ (63 ≤ i ∧ i ≤ 66) ∨ i = 99) → Y.2.1 i = X2.2.1 i) ∧ Y.2.2 = X2.2.2 ∧ ((∀ j, ¬ j = k → Y.2.1 54 j = S.2.1 54 j) ∧ (x.2.2.2.2.2 = -1 → Y.2.1 54 k = if x.1 = 1 then S.1 47 else rN x)) ∧ (S.1 43).toInt ≤ (Y.1 43).toInt ∧ (Y.1 43).toInt ≤ (S.1 43).toInt + txx xx x.2.2.2.2.2 ∧ (1000 < (S.1 43).toInt + txx xx x.2.2.2.2.2 → 1000 < (Y.1 43).toInt) ∧
    ((S.1 43).toInt + txx xx x.2.2.2.2.2 ≤ 1000 → (Y.1 43).toInt = (S.1 43).toInt + txx xx x.2.2.2.2.2 ∧ (∀ j, j < (S.1 43).toInt.toNat → Y.2.1 63 j = S.2.1 63 j ∧ Y.2.1 64 j = S.2.1 64 j ∧ Y.2.1 65 j = S.2.1 65 j ∧ Y.2.1 66 j = S.2.1 66 j) ∧
    (¬ x.2.2.2.2.2 = -1 → Y.2.1 54 k = S.1 43 ∧ PPr Y.2.1 pk pf xx (txx xx x.2.2.2.2.2).toNat x.2.2.2.2.2.toInt.toNat (S.1 43).toInt.toNat ∧ (Y.2.1 66 (S.1 43).toInt.toNat).toInt = (S.1 43).toInt + txx xx x.2.2.2.2.2)) := by
    have q63 : X2.2.1 63 = S.2.1 63 ∧ X2.2.1 64 = S.2.1 64 ∧ X2.2.1 65 = S.2.1 65 ∧ X2.2.1 66 = S.2.1 66 := by
      refine ⟨?_, ?_, ?_, ?_⟩
      · rw [f5 63 (by omega), if_neg (by omega), l3 63 (by omega), y5 63 (by omega)]
      · rw [f5 64 (by omega), if_neg (by omega), l3 64 (by omega), y5 64 (by omega)]
      · rw [f5 65 (by omega), if_neg (by omega), l3 65 (by omega), y5 65 (by omega)]
      · rw [f5 66 (by omega), if_neg (by omega), l3 66 (by omega), y5 66 (by omega)]
    obtain ⟨q63, q64, q65, q66⟩ := q63
    rcases hY with ⟨c, e⟩ | ⟨c, a, ea, e⟩
    · subst e
      have t0 : txx xx x.2.2.2.2.2 = 0 := if_pos c
      rw [t0, g43, q63, q64, q65, q66]
      exact ⟨fun _ _ => rfl, fun _ _ => rfl, rfl, ⟨g54.1, fun _ => g54.2⟩, Int.le_refl _, by omega, by omega, fun _ => ⟨by omega, fun _ _ => ⟨rfl, rfl, rfl, rfl⟩, fun t => absurd c t⟩⟩
    · obtain ⟨u1, u2, u3⟩ := ht.resolve_left c
      have t0 : txx xx x.2.2.2.2.2 = (xx x.2.2.2.2.2.toInt.toNat).toInt := if_neg c
      rw [t0]
      have ee : x.2.2.2.2.2 = Int32.ofNat x.2.2.2.2.2.toInt.toNat := ofN_i (by omega) (by omega)
      rw [ee] at ea
      obtain ⟨b1, ⟨b2, b3, b4⟩, b5, b6, b7, b8⟩ := ask_w W hm (by omega) u3 (by rw [gr 36 (by omega)]; exact r36) (by rw [gr 37 (by omega)]; exact r37) (by rw [gr 38 (by omega)]; exact r38) (by rw [g43]; exact p0) (by rw [g43]; exact p1) ea
      rw [g43] at b1 b5 b6 b7 b8
      have y54 : Y.2.1 54 = upd (a.1.2.1 54) k a.2 := by rw [e]; rfl
      have yo : ∀ i, ¬ i = 54 → Y.2.1 i = a.1.2.1 i := fun i hi => by rw [e, md_a2, if_neg hi]
      have y1' : Y.1 = a.1.1 := by rw [e]; rfl
      rw [y54, y1', yo 63 (by omega), yo 64 (by omega), yo 65 (by omega), yo 66 (by omega)]
      refine ⟨b2, fun i hi => by rw [yo i (by omega), b3 i (by omega)], by rw [e]; exact b4, ⟨fun j hj => by rw [upd_n hj, b3 54 (by omega)]; exact g54.1 j hj, fun t => absurd t c⟩, b5, b8, b7, fun t => ?_⟩
      obtain ⟨v1, v2, v3, v4⟩ := b6 t
      refine ⟨v1, fun j hj => ?_, fun _ => ⟨by rw [upd_s]; exact b1, ?_, v3⟩⟩
      · rw [← q63, ← q64, ← q65, ← q66]
        exact v4 j hj
      · exact PPr_c (yo 63 (by omega)) (yo 64 (by omega)) (yo 65 (by omega)) _ _ _ v2
  obtain ⟨h1, h2, h3, h4, h5, h6, h7, h8⟩ := hA
  -- traps around
  have e60 : Y.2.1 60 = upd (S.2.1 60) k tr := by rw [h2 60 (by omega), f5 60 (by omega), if_neg (by omega), l3 60 (by omega), z8]
  have ed : dd = Int32.ofNat d := by
    refine around_w hk' hd ?_ hd1
    rw [e60, upd_s]
    exact TC_ext (k := k) d tr (fun j hj => upd_n (by omega)) htr hcl htc
  have Yi : ∀ i, ¬ (i = 42 ∨ i = 43 ∨ i = 47 ∨ i = 48) → Y.1 i = S.1 i := fun i hi => by rw [h1 i (by omega), f2 i (by omega), l1, y3 i (by omega) (by omega)]
  have yo : ∀ i, ¬ (i = 52 ∨ i = 53 ∨ i = 54 ∨ i = 62 ∨ (63 ≤ i ∧ i ≤ 66) ∨ i = 99) → Y.2.1 i = (lyB S k b up w tr).2.1 i := fun i hi => by rw [h2 i (by omega), f5 i (by omega), if_neg (by omega), l3 i (by omega)]
  have hZ : lyF pk pf xx S (md_i Y 49 (dc_max (Y.1 49) dd)) k x up ot w tr d := by
    have zi : ∀ i, ¬ i = 49 → (md_i Y 49 (dc_max (Y.1 49) dd)).1 i = Y.1 i := fun i hi => md_ij hi
    unfold lyF
    rw [zi 43 (by decide), zi 42 (by decide), zi 47 (by decide), zi 48 (by decide), show (md_i Y 49 (dc_max (Y.1 49) dd)).1 49 = dc_max (Y.1 49) dd from md_ii, show (md_i Y 49 (dc_max (Y.1 49) dd)).2 = Y.2 from rfl]
    refine ⟨⟨fun i hi => by rw [zi i (by omega)]; exact Yi i (by omega), ?_, ?_, ?_, ?_⟩, ?_, fun i hi => ?_, ⟨?_, ?_, ?_, ?_, e60, ?_⟩, h4, ?_, h5, h6, h7, h8⟩
    · rw [h1 42 (by decide), f2 42 (by decide), l1, y1, h42, i_eq, i_addS (by rw [Int32.toInt_ofNat_of_lt (by omega), il_1]; omega), Int32.toInt_ofNat_of_lt (by omega), il_1, Int32.toInt_ofNat_of_lt (by omega)]
      omega
    · rw [h1 48 (by decide), f2 48 (by decide), l1, y2]
    · rw [h1 47 (by decide), f1]
    · rw [Yi 49 (by decide), ed]
    · rw [h3, f3, l2, y4]
    · rw [h2 i (by omega), gr i hi]
    · rw [yo 51 (by omega), z1, r30]
    · rw [yo 56 (by omega), z3, r34]
    · rw [yo 58 (by omega), z6]
    · rw [yo 57 (by omega), z7]
    · rw [h2 62 (by omega), f5 62 (by omega), if_pos rfl, l3 62 (by omega), y5 62 (by omega)]
    · have q2 : Y.2.1 52 = X.2.1 52 ∧ Y.2.1 53 = X.2.1 53 := by
        refine ⟨?_, ?_⟩
        · rw [h2 52 (by omega), f5 52 (by omega), if_neg (by omega)]
        · rw [h2 53 (by omega), f5 53 (by omega), if_neg (by omega)]
      have nk : ¬ up = Int32.ofNat k := by
        rcases hu with ⟨-, h, -⟩ | ⟨v, hv, h, -⟩
        · rw [h]; exact fun t => ofn_m (by omega) t.symm
        · rw [h]; exact fun t => absurd (ofn_i (by omega) (by omega) t) (by omega)
      rw [q2.1, q2.2, (l4 k hk').1, (l4 k hk').2, if_neg (fun t => nk t.1), if_neg (fun t => nk t.1), z4, z5, upd_s, upd_s]
      refine ⟨rfl, rfl, fun j hj => ?_⟩
      rw [(l4 j (by omega)).1, (l4 j (by omega)).2, z4, z5, upd_n (by omega), upd_n (by omega)]
      exact ⟨rfl, rfl⟩
  have Yp : Y.2.1 39 = S.2.1 39 ∧ Y.2.1 40 = S.2.1 40 := by
    rw [yo 39 (by omega), yo 40 (by omega), y5 39 (by omega), y5 40 (by omega)]
    exact ⟨rfl, rfl⟩
  have Y31 : Y.2.1 31 b = c1 := by rw [yo 31 (by omega), y5 31 (by omega), r31]
  have Y32 : Y.2.1 32 b = c2 := by rw [yo 32 (by omega), y5 32 (by omega), r32]
  rw [Y31, Y32] at hq
  obtain ⟨j1, j2, j3⟩ := hq
  have Zp : (md_i Y 49 (dc_max (Y.1 49) dd)).2.1 39 = S.2.1 39 ∧ (md_i Y 49 (dc_max (Y.1 49) dd)).2.1 40 = S.2.1 40 := Yp
  generalize md_i Y 49 (dc_max (Y.1 49) dd) = Z at hZ j1 j2 j3 Zp
  obtain ⟨Zp, Zq⟩ := Zp
  refine ⟨hk', ?_⟩
  by_cases n1 : c1 = -1
  · refine ⟨Z, hZ, fun j hj => by rw [Zp, Zq]; exact ⟨rfl, rfl⟩, fun n2 _ => ?_, fun _ t => absurd n1 t, fun _ t => absurd n1 t⟩
    rw [j1 n2 n1] at eq
    exact it_un hz eq
  · by_cases n2 : c2 = -1
    · obtain ⟨u1, u2⟩ := j2 n2 n1
      rw [u2] at eq
      obtain ⟨v1, v2, ⟨v3, v4⟩, v5⟩ := lzH_f (X := Z) (n := n) (a := c1) (b := 2 * Int32.ofNat k)
      refine ⟨_, lyF_39 hZ v1 v2 v5, fun j hj => ?_, fun _ t => absurd t n1, fun _ _ => ⟨u1, ?_, ?_, it_un hz eq⟩, fun t => absurd n2 t⟩
      · rw [v3, v4, upd_n (by omega), upd_n (by omega), Zp, Zq]
        exact ⟨rfl, rfl⟩
      · rw [v3, upd_s]
      · rw [v4, upd_s]
    · obtain ⟨u1, u2⟩ := j3 n2 n1
      rw [u2] at eq
      obtain ⟨v1, v2, ⟨v3, v4⟩, v5⟩ := lzH_f (X := Z) (n := n) (a := c2) (b := 2 * Int32.ofNat k + 1)
      generalize lzH Z n c2 (2 * Int32.ofNat k + 1) = Z1 at v1 v2 v3 v4 v5 eq
      obtain ⟨w1, w2, ⟨w3, w4⟩, w5⟩ := lzH_f (X := Z1) (n := n + 1) (a := c1) (b := 2 * Int32.ofNat k)
      refine ⟨_, lyF_39 hZ (w1.trans v1) (w2.trans v2) (fun i hi => (w5 i hi).trans (v5 i hi)), fun j hj => ?_, fun _ t => absurd t n1, fun t => absurd t n2, fun _ _ => ⟨u1, ?_, ?_, ?_, ?_, it_un hz eq⟩⟩
      · rw [w3, w4, upd_n (by omega), upd_n (by omega), v3, v4, upd_n (by omega), upd_n (by omega), Zp, Zq]
        exact ⟨rfl, rfl⟩
      · rw [w3, upd_n (by omega), v3, upd_s]
      · rw [w4, upd_n (by omega), v4, upd_s]
      · rw [w3, upd_s]
      · rw [w4, upd_s]
end LAY2
