/-! a meaning looks at what it meets alone -/
section TCG
variable {names : Int32} {kk ff ss xx : Nat → Int32} {m : Nat} {Q : Nat → Nat → Int32} {v v' : Nat → Int32}
theorem tvF_cg (W : pcW names kk ff ss xx m) : ∀ (g e k : Nat), e < m → (xx e).toInt ≤ (g : Int) → (k : Int) + (xx e).toInt ≤ 1000000 → PPr Q kk ff xx g e k → (∀ l : Nat, (e : Int) - (xx e).toInt < (l : Int) → (l : Int) ≤ (e : Int) → kk l = 0 → v (ff l).toInt.toNat = v' (ff l).toInt.toNat) → ∀ h, tvF Q v h k = tvF Q v' h k
  | 0, e, k, he, hx, hk, p, hv, h => p.elim
  | g + 1, e, k, he, hx, hk, p, hv, 0 => rfl
  | g + 1, e, k, he, hx, hk, ⟨p1, p2, p3, p4⟩, hv, h + 1 => by
    obtain ⟨w1, w2⟩ := W e he
    unfold tvF
    rw [p1]
    rcases w2 with ⟨c, -⟩ | ⟨c, -, c2, c3, c4⟩ | ⟨c, c1, c2, c3, c4, c5⟩
    · rw [if_pos c, if_pos c, (p2 c).1]
      exact hv e (by omega) (by omega) c
    · have n0 : ¬ kk e = 0 := by rw [c]; decide
      rw [if_neg n0, if_neg n0, if_pos c, if_pos c, (p3 c).1]
      rw [show (Int32.ofNat (k + 1)).toInt.toNat = k + 1 by rw [Int32.toInt_ofNat_of_lt (by omega)]; omega]
      rw [tvF_cg W g (e - 1) (k + 1) (by omega) (by omega) (by omega) (p3 c).2.2 (fun l l1 l2 l3 => hv l (by omega) (by omega) l3) h]
    · have n0 : ¬ kk e = 0 := by rcases c with c | c <;> (rw [c]; decide)
      have n1 : ¬ kk e = 1 := by rcases c with c | c <;> (rw [c]; decide)
      have w3 := (W (e - 1) (by omega)).1
      have w4 := (W (ff e).toInt.toNat (by omega)).1
      have e1 := tvF_cg W g (ff e).toInt.toNat (k + 1) (by omega) (by omega) (by omega) (p4 c).2.2.1 (fun l l1 l2 l3 => hv l (by omega) (by omega) l3) h
      have e2 := tvF_cg W g (e - 1) (k + 1 + (xx (ff e).toInt.toNat).toInt.toNat) (by omega) (by omega) (by omega) (p4 c).2.2.2 (fun l l1 l2 l3 => hv l (by omega) (by omega) l3) h
      rw [if_neg n0, if_neg n0, if_neg n1, if_neg n1, (p4 c).1, (p4 c).2.1]
      rw [show (Int32.ofNat (k + 1)).toInt.toNat = k + 1 by rw [Int32.toInt_ofNat_of_lt (by omega)]; omega, show (Int32.ofNat (k + 1 + (xx (ff e).toInt.toNat).toInt.toNat)).toInt.toNat = k + 1 + (xx (ff e).toInt.toNat).toInt.toNat by rw [Int32.toInt_ofNat_of_lt (by omega)]; omega]
      rw [e1, e2]
/-- a test of a row -/
theorem tvQ_cg (W : pcW names kk ff ss xx m) {κ κ' : Nat → Int32} {ρ ρ' : Nat → Nat} {V : Int32 → Prop} {H : Prop} {k : Nat} {x : lbT} {f s up : Int32} {w : Int} {t : Int32} {a c : Int} (hl : lrow True H kk ff xx Q k x f s up w t a c) (hp : pOk kk ff xx 0 (m : Int) V x.2.2.2.2.2) (h0 : 0 ≤ c) (h1 : c + txx xx x.2.2.2.2.2 ≤ 1000000) (hV : ∀ y, V y → κ (ρ y.toInt.toNat) = κ' (ρ' y.toInt.toNat)) : tvQ Q κ ρ (Q 54 k) = tvQ Q κ' ρ' (Q 54 k) := by
  obtain ⟨⟨q1, q2, q3, q4⟩, q5⟩ := hp
  have nt : ¬ x.2.2.2.2.2 = -1 := by
    intro z
    rw [z, show (-1 : Int32).toInt = -1 by decide] at q1
    omega
  obtain ⟨u1, u2, -⟩ := hl.2.2.1 nt trivial
  have et : txx xx x.2.2.2.2.2 = (xx x.2.2.2.2.2.toInt.toNat).toInt := if_neg nt
  rw [et] at u2 h1
  unfold tvQ
  rw [u1]
  exact tvF_cg W _ _ _ (by omega) (by omega) (by omega) u2 (fun l l1 l2 l3 => hV _ (q5 l (by omega) (by omega) l3)) 1001
end TCG
theorem zTh_no {a b b' : zvT} (h : ¬ zC a 0) (h' : ¬ zM a 0) : zTh a b = zTh a b' := by
  unfold zTh
  simp only [h, h', false_and, or_false, false_implies, false_or]
theorem zSl_cg {p q : Prop} {a b a' b' : zvT} (h1 : p → a = a') (h2 : q → b = b') : zSl p q a b = zSl p q a' b' := by
  by_cases hp : p
  · rw [h1 hp]
    by_cases hq : q
    · rw [h2 hq]
    · unfold zSl
      simp only [hq, false_and, or_false, false_implies]
  · by_cases hq : q
    · rw [h2 hq]
      unfold zSl
      simp only [hp, false_and, false_or, false_implies]
    · unfold zSl
      simp only [hp, hq, false_and, or_false, false_implies]
section ZCG
variable {names : Int32} {kk ff ss xx : Nat → Int32} {m : Nat} {Q : Nat → Nat → Int32} {κ κ' : Nat → Int32} {hs : Nat → Prop} {sel : Nat → Prop} {H : Prop}
theorem rh_cg {V : Int32 → Prop} {x : lbT} {ρ : Nat → Nat} {k i : Nat} (hx : x.1 = 10) (hn : Q 54 k = x.2.2.1) (hi : κ i = κ' i) (hV : ∀ y, V y → 0 ≤ y.toInt ∧ κ (ρ y.toInt.toNat) = κ' (ρ y.toInt.toNat)) (h0 : 0 ≤ x.2.2.1.toInt) : ∀ y, vL V x y → 0 ≤ y.toInt ∧ κ (rhU ρ (nuQ Q k) i y.toInt.toNat) = κ' (rhU ρ (nuQ Q k) i y.toInt.toNat) := by
  intro y hy
  unfold vL at hy
  rw [if_pos hx] at hy
  unfold rhU nuQ
  rw [hn]
  rcases hy with hy | hy
  · refine ⟨(hV y hy).1, ?_⟩
    by_cases c : y.toInt.toNat = x.2.2.1.toInt.toNat
    · rw [if_pos c]; exact hi
    · rw [if_neg c]; exact (hV y hy).2
  · rw [hy]
    refine ⟨h0, ?_⟩
    rw [if_pos rfl]; exact hi
theorem zv_cg (W : pcW names kk ff ss xx m) (hm : m ≤ 1000) : ∀ (T : tT) (V : Int32 → Prop) (k : Nat) (up : Int32) (w : Int) (t : Int32) (a c : Int) (ρ : Nat → Nat) (md : Option Nat) (s : Prop), okT (pOk kk ff xx 0 (m : Int)) V T → LPr True H kk ff xx Q T k up w t a c → 0 ≤ c → c + tsm xx T ≤ 1000000 → (∀ y, V y → 0 ≤ y.toInt ∧ κ (ρ y.toInt.toNat) = κ' (ρ y.toInt.toNat)) → (∀ y, y ∈ lcT T → 0 ≤ y.toInt) → (∀ i, zV (zv Q (tvQ Q κ) κ hs sel T k ρ md s) i → κ i = κ' i) → zv Q (tvQ Q κ) κ hs sel T k ρ md s = zv Q (tvQ Q κ') κ' hs sel T k ρ md s
  | .const x, V, k, up, w, t, a, c, ρ, md, s, hO, hL, h0, h1, hV, hc, hi => by
    unfold zv
    rfl
  | .unary x A, V, k, up, w, t, a, c, ρ, md, s, hO, ⟨hL, hA⟩, h0, h1, hV, hc, hi => by
    have hθ : ∀ V e, pOk kk ff xx 0 (m : Int) V e → 0 ≤ e.toInt ∧ e.toInt < (m : Int) ∧ 1 ≤ (xx e.toInt.toNat).toInt ∧ (xx e.toInt.toNat).toInt ≤ 2000 := by
      rintro V e ⟨⟨e1, e2, e3, e4⟩, -⟩
      exact ⟨e1, e2, e3, by omega⟩
    have h1 : c + (txx xx (lT x).2.2.2.2.2 + tsm xx A) ≤ 1000000 := h1
    have t0 := txx_0 (ok_t hθ (Or.inr (Or.inl hO.1)))
    have a0 := tsm_0 hθ A _ hO.2
    unfold zv at hi ⊢
    by_cases c4 : (lT x).1 = 4
    · have vLe : vL V (lT x) = V := if_neg (by rw [c4]; decide)
      have hO2 := hO.2
      rw [vLe] at hO2
      have hcA : ∀ y, y ∈ lcT A → 0 ≤ y.toInt := fun y hy => hc y (by show y ∈ (if (lT x).1 = 10 then (lT x).2.2.1 :: lcT A else lcT A); rw [if_neg (by rw [c4]; decide)]; exact hy)
      have tst : pOk kk ff xx 0 (m : Int) V (lT x).2.2.2.2.2 := by
        rcases hO.1.1 with ⟨-, z⟩ | ⟨z | z | z, -⟩
        · exact z
        all_goals (rw [c4] at z; exact absurd z (by decide))
      have te := tvQ_cg (κ := κ) (κ' := κ') (ρ := ρ) (ρ' := ρ) W hL tst h0 (by omega) (fun y hy => (hV y hy).2)
      rw [if_pos c4] at hi
      rw [if_pos c4, if_pos c4]
      cases md with
      | none =>
        dsimp only at hi ⊢
        rw [← te]
        exact zSl_cg (fun p => zv_cg W hm A V _ _ _ _ _ _ _ _ _ hO2 hA (by omega) (by omega) hV hcA (fun i z => hi i (Or.inl ⟨p, z⟩))) (fun _ => rfl)
      | some d =>
        dsimp only at hi ⊢
        exact zv_cg W hm A V _ _ _ _ _ _ _ _ _ hO2 hA (by omega) (by omega) hV hcA hi
    · rw [if_neg c4] at hi
      rw [if_neg c4, if_neg c4]
      by_cases c6 : (lT x).1 = 6
      · have vLe : vL V (lT x) = V := if_neg (by rw [c6]; decide)
        have hO2 := hO.2
        rw [vLe] at hO2
        have hcA : ∀ y, y ∈ lcT A → 0 ≤ y.toInt := fun y hy => hc y (by show y ∈ (if (lT x).1 = 10 then (lT x).2.2.1 :: lcT A else lcT A); rw [if_neg (by rw [c6]; decide)]; exact hy)
        rw [if_pos c6] at hi
        rw [if_pos c6, if_pos c6]
        cases md with
        | none =>
          dsimp only at hi ⊢
          have ea := zv_cg W hm A V _ _ _ _ _ _ ρ none s hO2 hA (by omega) (by omega) hV hcA (fun i z => hi i (Or.inl z))
          rw [← ea]
          by_cases hC : zC (zv Q (tvQ Q κ) κ hs sel A (k + 1) ρ none s) 0
          · rw [zv_cg W hm A V _ _ _ _ _ _ ρ (some (wtQ Q k)) _ hO2 hA (by omega) (by omega) hV hcA (fun i z => hi i (Or.inr ⟨hC, z⟩))]
          · exact zTh_no hC (fun z => hC (((zv_ok A _ _ _ _).2.2.2.2.1 0 z 0).mpr rfl))
        | some d =>
          dsimp only at hi ⊢
          exact zv_cg W hm A V _ _ _ _ _ _ _ _ _ hO2 hA (by omega) (by omega) hV hcA hi
      · rw [if_neg c6] at hi
        rw [if_neg c6, if_neg c6]
        by_cases c8 : (lT x).1 = 8
        · have vLe : vL V (lT x) = V := if_neg (by rw [c8]; decide)
          have hO2 := hO.2
          rw [vLe] at hO2
          have hcA : ∀ y, y ∈ lcT A → 0 ≤ y.toInt := fun y hy => hc y (by show y ∈ (if (lT x).1 = 10 then (lT x).2.2.1 :: lcT A else lcT A); rw [if_neg (by rw [c8]; decide)]; exact hy)
          rw [if_pos c8] at hi
          rw [if_pos c8, if_pos c8]
          rw [zv_cg W hm A V _ _ _ _ _ _ _ _ _ hO2 hA (by omega) (by omega) hV hcA hi]
        · rw [if_neg c8] at hi
          rw [if_neg c8, if_neg c8]
          have c10 : (lT x).1 = 10 := by
            rcases hO.1.1 with ⟨z, -⟩ | ⟨z | z | z, -⟩
            · exact absurd z c4
            · exact absurd z c6
            · exact absurd z c8
            · exact z
          have hn := (lc_row (Or.inr (Or.inl hO.1)) hL (hL.1.1.trans c10)).2
          have hcc : ∀ y, y = (lT x).2.2.1 ∨ y ∈ lcT A → 0 ≤ y.toInt := fun y hy => hc y (by
            show y ∈ (if (lT x).1 = 10 then (lT x).2.2.1 :: lcT A else lcT A)
            rw [if_pos c10]
            exact List.mem_cons.mpr hy)
          cases md with
          | none =>
            dsimp only at hi ⊢
            have e1 := hi (baQ Q k + wtQ Q k) (Or.inl rfl)
            unfold zLc
            rw [zv_cg W hm A _ _ _ _ _ _ _ _ _ _ hO.2 hA (by omega) (by omega) (rh_cg c10 hn e1 hV (hcc _ (Or.inl rfl))) (fun y hy => hcc y (Or.inr hy)) (fun i z => hi i (Or.inr z)), e1]
          | some d =>
            dsimp only at hi ⊢
            have e1 := hi (baQ Q k + d) (Or.inl rfl)
            unfold zLc
            rw [zv_cg W hm A _ _ _ _ _ _ _ _ _ _ hO.2 hA (by omega) (by omega) (rh_cg c10 hn e1 hV (hcc _ (Or.inl rfl))) (fun y hy => hcc y (Or.inr hy)) (fun i z => hi i (Or.inr z)), e1]
  | .binary x A B, V, k, up, w, t, a, c, ρ, md, s, hO, ⟨hL, hA, hB⟩, h0, h1, hV, hc, hi => by
    have hθ : ∀ V e, pOk kk ff xx 0 (m : Int) V e → 0 ≤ e.toInt ∧ e.toInt < (m : Int) ∧ 1 ≤ (xx e.toInt.toNat).toInt ∧ (xx e.toInt.toNat).toInt ≤ 2000 := by
      rintro V e ⟨⟨e1, e2, e3, e4⟩, -⟩
      exact ⟨e1, e2, e3, by omega⟩
    have h1 : c + (txx xx (lT x).2.2.2.2.2 + (tsm xx A + tsm xx B)) ≤ 1000000 := h1
    have t0 := txx_0 (ok_t hθ (Or.inr (Or.inr hO.1)))
    have a0 := tsm_0 hθ A _ hO.2.1
    have b0 := tsm_0 hθ B _ hO.2.2
    have hcA : ∀ y, y ∈ lcT A → 0 ≤ y.toInt := fun y hy => hc y (List.mem_append_left _ hy)
    have hcB : ∀ y, y ∈ lcT B → 0 ≤ y.toInt := fun y hy => hc y (List.mem_append_right _ hy)
    unfold zv at hi ⊢
    by_cases c3 : (lT x).1 = 3
    · rw [if_pos c3] at hi
      rw [if_pos c3, if_pos c3]
      have tst : pOk kk ff xx 0 (m : Int) V (lT x).2.2.2.2.2 := by
        rcases hO.1.1 with ⟨-, z⟩ | ⟨z | z, -⟩
        · exact z
        all_goals (rw [c3] at z; exact absurd z (by decide))
      have te := tvQ_cg (κ := κ) (κ' := κ') (ρ := ρ) (ρ' := ρ) W hL tst h0 (by omega) (fun y hy => (hV y hy).2)
      cases md with
      | none =>
        dsimp only at hi ⊢
        exact zSl_cg (fun p => zv_cg W hm A V _ _ _ _ _ _ _ _ _ hO.2.1 hA (by omega) (by omega) hV hcA (fun i z => hi i (Or.inl ⟨p, z⟩))) (fun q => zv_cg W hm B V _ _ _ _ _ _ _ _ _ hO.2.2 hB (by omega) (by omega) hV hcB (fun i z => hi i (Or.inr ⟨q, z⟩)))
      | some d =>
        dsimp only at hi ⊢
        rw [← te]
        exact zSl_cg (fun p => zv_cg W hm A V _ _ _ _ _ _ _ _ _ hO.2.1 hA (by omega) (by omega) hV hcA (fun i z => hi i (Or.inl ⟨p, z⟩))) (fun q => zv_cg W hm B V _ _ _ _ _ _ _ _ _ hO.2.2 hB (by omega) (by omega) hV hcB (fun i z => hi i (Or.inr ⟨q, z⟩)))
    · rw [if_neg c3] at hi
      rw [if_neg c3, if_neg c3]
      by_cases c5 : (lT x).1 = 5
      · rw [if_pos c5] at hi
        rw [if_pos c5, if_pos c5]
        cases md with
        | none =>
          dsimp only at hi ⊢
          refine zSl_cg (fun p => ?_) (fun q => zv_cg W hm B V _ _ _ _ _ _ _ _ _ hO.2.2 hB (by omega) (by omega) hV hcB (fun i z => hi i (Or.inr ⟨q, z⟩)))
          have ea := zv_cg W hm A V _ _ _ _ _ _ ρ none s hO.2.1 hA (by omega) (by omega) hV hcA (fun i z => hi i (Or.inl ⟨p, Or.inl z⟩))
          rw [← ea]
          by_cases hC : zC (zv Q (tvQ Q κ) κ hs sel A (k + 1) ρ none s) 0
          · rw [zv_cg W hm B V _ _ _ _ _ _ ρ (some (wtQ Q k)) _ hO.2.2 hB (by omega) (by omega) hV hcB (fun i z => hi i (Or.inl ⟨p, Or.inr ⟨hC, z⟩⟩))]
          · exact zTh_no hC (fun z => hC (((zv_ok A _ _ _ _).2.2.2.2.1 0 z 0).mpr rfl))
        | some d =>
          dsimp only at hi ⊢
          have ea := zv_cg W hm A V _ _ _ _ _ _ ρ (some d) s hO.2.1 hA (by omega) (by omega) hV hcA (fun i z => hi i (Or.inl z))
          rw [← ea]
          by_cases hC : zC (zv Q (tvQ Q κ) κ hs sel A (k + 1) ρ (some d) s) 0
          · rw [zv_cg W hm B V _ _ _ _ _ _ ρ (some d) _ hO.2.2 hB (by omega) (by omega) hV hcB (fun i z => hi i (Or.inr ⟨hC, z⟩))]
          · exact zTh_no hC (fun z => hC (((zv_ok A _ _ _ _).2.2.2.2.1 0 z 0).mpr rfl))
      · rw [if_neg c5] at hi
        rw [if_neg c5, if_neg c5]
        cases md with
        | none =>
          dsimp only at hi ⊢
          rw [zSl_cg (p := hs (k + 1)) (q := ¬ hs (k + 1)) (fun p => zv_cg W hm A V _ _ _ _ _ _ ρ none s hO.2.1 hA (by omega) (by omega) hV hcA (fun i z => hi i (Or.inl (Or.inl ⟨p, z⟩)))) (fun _ => rfl), zSl_cg (p := hs (k + 1 + tsz A)) (q := ¬ hs (k + 1 + tsz A)) (fun p => zv_cg W hm B V _ _ _ _ _ _ ρ none s hO.2.2 hB (by omega) (by omega) hV hcB (fun i z => hi i (Or.inr (Or.inl ⟨p, z⟩)))) (fun _ => rfl)]
        | some d =>
          dsimp only at hi ⊢
          rw [zv_cg W hm A V _ _ _ _ _ _ ρ (some d) s hO.2.1 hA (by omega) (by omega) hV hcA (fun i z => hi i (Or.inl z)), zv_cg W hm B V _ _ _ _ _ _ ρ (some d) s hO.2.2 hB (by omega) (by omega) hV hcB (fun i z => hi i (Or.inr z))]
end ZCG
