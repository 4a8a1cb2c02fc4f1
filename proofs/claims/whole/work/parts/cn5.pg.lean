/-! a program that was read: all that react wants -/
theorem fl_len {a : Nat} : ∀ (l : List Nat), l.Nodup → l.length ≤ (l.filter (fun x => decide (¬ x = a))).length + 1
  | [], _ => Nat.zero_le _
  | b :: l, h => by
    have hn := List.nodup_cons.mp h
    by_cases e : b = a
    · subst e
      have e2 : l.filter (fun x => decide (¬ x = b)) = l := List.filter_eq_self.mpr (fun x hx => decide_eq_true (fun z => hn.1 (z ▸ hx)))
      rw [List.filter_cons_of_neg (by simp), e2]
      exact Nat.le_refl _
    · have := fl_len (a := a) l hn.2
      rw [List.filter_cons_of_pos (by simp [e])]
      simp only [List.length_cons]
      omega
theorem nd_len : ∀ (N : Nat) (l : List Nat), l.Nodup → (∀ x, x ∈ l → x < N) → l.length ≤ N
  | 0, l, _, hx => by
    cases l with
    | nil => exact Nat.le_refl _
    | cons b l => exact absurd (hx b List.mem_cons_self) (by omega)
  | N + 1, l, h, hx => by
    have h1 := fl_len (a := N) l h
    have h2 := nd_len N (l.filter (fun x => decide (¬ x = N))) (h.filter _) (fun x hx' => by
      have := List.mem_filter.mp hx'
      have h3 := hx x this.1
      have h4 := of_decide_eq_true this.2
      omega)
    omega
section LIT
variable {θ : (Int32 → Prop) → Int32 → Prop} {pk pf xx : Nat → Int32} {Q : Nat → Nat → Int32} {G H : Prop}
theorem lis_1 {k : Nat} {w : Int} {x : lbT} (h51 : Q 51 k = x.1) (hw : (Q 57 k).toInt = w) (h0 : 0 ≤ w) : (lis (Q 51) (Q 57) (k + 1) : Int) = (lis (Q 51) (Q 57) k : Int) + (if x.1 = 10 then w + 1 else 0) := by
  show ((lis (Q 51) (Q 57) k + (if Q 51 k = 10 then (Q 57 k).toInt.toNat + 1 else 0) : Nat) : Int) = _
  rw [h51]
  by_cases z : x.1 = 10
  · rw [if_pos z, if_pos z]; omega
  · rw [if_neg z, if_neg z]; omega
theorem lis_T : ∀ (T : tT) (V : Int32 → Prop) (k : Nat) (up : Int32) (w : Int) (t : Int32) (a c : Int), okT θ V T → 1 ≤ w → LPr G H pk pf xx Q T k up w t a c → (lis (Q 51) (Q 57) (k + tsz T) : Int) ≤ (lis (Q 51) (Q 57) k : Int) + wsm T w + ((lcT T).length : Int)
  | .const x, V, k, up, w, t, a, c, hO, hw, h => by
    have n10 : ¬ (lT x).1 = 10 := by rcases hO.1 with (z | z | z) | ⟨z, -⟩ <;> (rw [z]; decide)
    have p1 := lis_1 h.1.1 h.1.2.2.2.2.1 (by omega)
    rw [if_neg n10] at p1
    show (lis (Q 51) (Q 57) (k + 1) : Int) ≤ (lis (Q 51) (Q 57) k : Int) + w + ((0 : Nat) : Int)
    omega
  | .unary x A, V, k, up, w, t, a, c, hO, hw, ⟨h1, h2⟩ => by
    have b := @b01 ((lT x).1 = 6) _
    have p1 := lis_1 h1.1.1 h1.1.2.2.2.2.1 (by omega)
    have p2 := lis_T A _ _ _ _ _ _ _ hO.2 (by omega) h2
    have e : lcT (.unary x A) = if (lT x).1 = 10 then (lT x).2.2.1 :: lcT A else lcT A := rfl
    show (lis (Q 51) (Q 57) (k + (1 + tsz A)) : Int) ≤ (lis (Q 51) (Q 57) k : Int) + (w + wsm A (w + if (lT x).1 = 6 then 1 else 0)) + _
    rw [show k + (1 + tsz A) = k + 1 + tsz A by omega, e]
    by_cases z : (lT x).1 = 10
    · rw [if_pos z] at p1 ⊢
      rw [List.length_cons]
      omega
    · rw [if_neg z] at p1 ⊢
      omega
  | .binary x A B, V, k, up, w, t, a, c, hO, hw, ⟨h1, h2, h3⟩ => by
    have n10 : ¬ (lT x).1 = 10 := by rcases hO.1.1 with ⟨z, -⟩ | ⟨z | z, -⟩ <;> (rw [z]; decide)
    have b := @b01 ((lT x).1 = 6) _
    have b' := @b01 ((lT x).1 = 5) _
    have p1 := lis_1 h1.1.1 h1.1.2.2.2.2.1 (by omega)
    have p2 := lis_T A _ _ _ _ _ _ _ hO.2.1 (by omega) h2
    have p3 := lis_T B _ _ _ _ _ _ _ hO.2.2 (by omega) h3
    rw [if_neg n10] at p1
    have e : lcT (.binary x A B) = lcT A ++ lcT B := rfl
    show (lis (Q 51) (Q 57) (k + (1 + tsz A + tsz B)) : Int) ≤ (lis (Q 51) (Q 57) k : Int) + (w + (wsm A (w + if (lT x).1 = 6 then 1 else 0) + wsm B (w + if (lT x).1 = 5 then 1 else 0))) + _
    rw [show k + (1 + tsz A + tsz B) = k + 1 + tsz A + tsz B by omega, e, List.length_append]
    omega
  | .nodeWithAntiquot .., _, _, _, _, _, _, _, hO, _, _ => hO.elim
  | .node .., _, _, _, _, _, _, _, hO, _, _ => hO.elim
  | .trailingNode .., _, _, _, _, _, _, _, hO, _, _ => hO.elim
  | .symbol .., _, _, _, _, _, _, _, hO, _, _ => hO.elim
  | .nonReservedSymbol .., _, _, _, _, _, _, _, hO, _, _ => hO.elim
  | .cat .., _, _, _, _, _, _, _, hO, _, _ => hO.elim
  | .parser .., _, _, _, _, _, _, _, hO, _, _ => hO.elim
  | .sepBy .., _, _, _, _, _, _, _, hO, _, _ => hO.elim
  | .sepBy1 .., _, _, _, _, _, _, _, hO, _, _ => hO.elim
  | .unicodeSymbol .., _, _, _, _, _, _, _, hO, _, _ => hO.elim
end LIT
section PGG
variable {G : hg_E} {S : hg_S} {M : md_S} {T : tT} {t0 u n ps sg io pa : Nat} {R : Nat → Nat → Int32} {c : Nat → Int32}
/-- the program stands on both sides: the tree fits, the numbers are these -/
theorem pg_gt (h1 : pgS G S M t0 u n ps sg io pa R c) (h2 : pgT M T n ps) (h3 : pgB M n) (h77 : M.1 77 = 0 ∨ M.1 77 = 1) : ∃ (kk ff ss xx : Nat → Int32) (m : Nat) (names : Int32) (ins : Nat), (pcW names kk ff ss xx m ∧ m ≤ 1000) ∧ gTr M kk ff xx m n ps sg pa T (fun y => 0 ≤ y.toInt ∧ y.toInt < (io : Int)) 0 (-1) 1 (-1) 0 0 [] ∧ rxN M ins io (lis (M.2.1 51) (M.2.1 57) n) pa T ∧ (M.1 45 = Int32.ofNat ins ∧ ins ≤ 31) ∧ (tsz T = n ∧ (M.1 48).toInt = wsm T 1 ∧ wsm T 1 ≤ 1200 ∧ ∀ y, y ∈ lcT T → (io : Int) ≤ y.toInt) := by
  obtain ⟨-, hre, ⟨e42, e43, e44, k1, k2, k3, k4, k5, e456, e47⟩, ⟨⟨n1, n2⟩, b2, b3, b4, b5, b6⟩, i1, i2, i3, i4⟩ := h1
  obtain ⟨kk, ff, ss, xx, m, names, ⟨W, hm⟩, hO, hw, ⟨hL, hC⟩, ⟨en, et, e47', e48, e49, e62⟩, ⟨hnd, hlc⟩, t1, t2, t3, t4⟩ := h2
  obtain ⟨e50, e61⟩ := h3
  have es : (M.1 45).toInt + (M.1 46).toInt = (io : Int) := by
    have := congrArg Int32.toInt e456
    rw [Int32.toInt_add, Int32.toInt_ofNat_of_lt (by omega)] at this
    rw [← this]
    have hb : Int.bmod ((M.1 45).toInt + (M.1 46).toInt) (2 ^ 32) = (M.1 45).toInt + (M.1 46).toInt := by
      rw [Int.bmod_eq_of_le (by omega) (by omega)]
    omega
  have p47 : pas T = (pa : Int) := by
    rw [← e47', e47, Int32.toInt_ofNat_of_lt (by omega)]
  have e44' : (M.1 44).toInt = (sg : Int) := by rw [e44, Int32.toInt_ofNat_of_lt (by omega)]
  have ln : (lcT T).length ≤ 400 := by
    have h := nd_len 400 ((lcT T).map (fun y => y.toInt.toNat)) ?_ ?_
    · rw [List.length_map] at h
      exact h
    · refine List.Pairwise.map _ (fun a b hab => ?_) (List.Pairwise.and_mem.mp hnd)
      intro z
      have ha := hlc a hab.1
      have hb := hlc b hab.2.1
      exact hab.2.2 (Int32.toInt_inj.mp (by omega))
    · intro y hy
      obtain ⟨y', hy', e⟩ := List.mem_map.mp hy
      have := hlc y' hy'
      omega
  have li := lis_T T _ 0 (-1) 1 (-1) 0 0 hO (by decide) hL
  have l0 : lis (M.2.1 51) (M.2.1 57) 0 = 62 := rfl
  rw [Nat.zero_add, en, l0] at li
  have w0 := wm_0 T 1 (by decide)
  have linst : lis (M.2.1 51) (M.2.1 57) n ≤ 1662 := by omega
  have hsf : sfT M kk ff xx m T (fun y => 0 ≤ y.toInt ∧ y.toInt < (io : Int)) 0 (-1) 1 (-1) 0 0 [] := by
    rw [es] at hO
    refine ⟨hO, hL, hC, hw, ⟨by omega, Int.le_refl _, by omega, Int.le_refl _, by omega, Int.le_refl _, by omega⟩, by rw [Nat.zero_add, en, e62]; omega, by show 0 + tdp T ≤ 26; omega, fun j j1 j2 j3 => ⟨e61 j (by omega) j3, ?_⟩, hnd, fun y hy => ?_, fun y hy => ⟨by omega, fun hy' => ?_⟩⟩
    · have := lis_lt (wt := M.2.1 57) (show j < n by omega) j3
      have e : wtQ M.2.1 j = (M.2.1 57 j).toInt.toNat := rfl
      omega
    · have := hlc y hy
      omega
    · have := hlc y hy'
      omega
  refine ⟨kk, ff, ss, xx, m, names, (M.1 45).toInt.toNat, ⟨W, hm⟩, ⟨hsf, by omega, by omega, by omega, fun y hy => by omega, fun y hy => by have := hlc y hy; omega⟩, ⟨⟨ofN_m (by omega) (by omega), e456, e50, e47⟩, ⟨by omega, b4, lis_62, linst, by omega⟩, p47, h77⟩, ⟨ofN_m (by omega) (by omega), by omega⟩, en, e48, t4, fun y hy => by have := hlc y hy; omega⟩
end PGG
