/-! rows of local signals, and how many places they take -/
section LOC
variable {pk pf xx : Nat → Int32} {θ : (Int32 → Prop) → Int32 → Prop} {G H : Prop} {Q : Nat → Nat → Int32}
theorem lc_row {V : Int32 → Prop} {k : Nat} {x : lbT} {f s up : Int32} {w : Int} {t : Int32} {a c : Int} (hl : lb0 V x ∨ lb1 θ V x ∨ lb2 θ V x) (h : lrow G H pk pf xx Q k x f s up w t a c) (hk : Q 51 k = 10) : x.1 = 10 ∧ Q 54 k = x.2.2.1 := by
  have e : x.1 = 10 := h.1.1.symm.trans hk
  have t : x.2.2.2.2.2 = -1 := by
    rcases hl with hl | hl | hl
    · exact hl.2.1
    · rcases hl.1 with ⟨z, -⟩ | ⟨-, z⟩
      · rw [z] at e; exact absurd e (by decide)
      · exact z
    · rcases hl.1 with ⟨z, -⟩ | ⟨-, z⟩
      · rw [z] at e; exact absurd e (by decide)
      · exact z
  have := (h.2.1 t).2 (by rw [e]; decide) (Or.inl (by rw [e]; decide))
  unfold rN at this
  rw [if_neg (by rw [e]; decide)] at this
  exact ⟨e, this⟩
theorem lc_in : ∀ (T : tT) (V : Int32 → Prop) (k : Nat) (up : Int32) (w : Int) (t : Int32) (a c : Int), okT θ V T → LPr G H pk pf xx Q T k up w t a c → ∀ j, k ≤ j → j < k + tsz T → Q 51 j = 10 → Q 54 j ∈ lcT T
  | .const x, V, k, up, w, t, a, c, hO, h, j, j1, j2, hk => by
    have j2 : j < k + 1 := j2
    have ej : j = k := by omega
    subst ej
    have e := (lc_row (θ := θ) (Or.inl hO) h hk).1
    rcases hO.1 with (z | z | z) | ⟨z, -⟩ <;> (rw [z] at e; exact absurd e (by decide))
  | .unary x A, V, k, up, w, t, a, c, hO, ⟨h1, h2⟩, j, j1, j2, hk => by
    have j2 : j < k + (1 + tsz A) := j2
    show Q 54 j ∈ (if (lT x).1 = 10 then (lT x).2.2.1 :: lcT A else lcT A)
    by_cases ej : j = k
    · subst ej
      obtain ⟨e, e1⟩ := lc_row (Or.inr (Or.inl hO.1)) h1 hk
      rw [if_pos e, e1]
      exact List.mem_cons_self
    · have := lc_in A _ _ _ _ _ _ _ hO.2 h2 j (by omega) (by omega) hk
      by_cases e : (lT x).1 = 10
      · rw [if_pos e]; exact List.mem_cons_of_mem _ this
      · rw [if_neg e]; exact this
  | .binary x A B, V, k, up, w, t, a, c, hO, ⟨h1, h2, h3⟩, j, j1, j2, hk => by
    have j2 : j < k + (1 + tsz A + tsz B) := j2
    show Q 54 j ∈ lcT A ++ lcT B
    by_cases ej : j = k
    · subst ej
      have e := (lc_row (Or.inr (Or.inr hO.1)) h1 hk).1
      rcases hO.1.1 with ⟨z, -⟩ | ⟨z | z, -⟩ <;> (rw [z] at e; exact absurd e (by decide))
    · by_cases eb : j < k + 1 + tsz A
      · exact List.mem_append_left _ (lc_in A _ _ _ _ _ _ _ hO.2.1 h2 j (by omega) eb hk)
      · exact List.mem_append_right _ (lc_in B _ _ _ _ _ _ _ hO.2.2 h3 j (by omega) (by omega) hk)
theorem lc_inj : ∀ (T : tT) (V : Int32 → Prop) (k : Nat) (up : Int32) (w : Int) (t : Int32) (a c : Int), okT θ V T → LPr G H pk pf xx Q T k up w t a c → (lcT T).Nodup → ∀ j j', k ≤ j → j < k + tsz T → k ≤ j' → j' < k + tsz T → Q 51 j = 10 → Q 51 j' = 10 → Q 54 j = Q 54 j' → j = j'
  | .const x, V, k, up, w, t, a, c, hO, h, hn, j, j', j1, j2, i1, i2, hk, hk', e => by
    have j2 : j < k + 1 := j2
    have i2 : j' < k + 1 := i2
    omega
  | .unary x A, V, k, up, w, t, a, c, hO, ⟨h1, h2⟩, hn, j, j', j1, j2, i1, i2, hk, hk', e => by
    have j2 : j < k + (1 + tsz A) := j2
    have i2 : j' < k + (1 + tsz A) := i2
    have hn : (if (lT x).1 = 10 then (lT x).2.2.1 :: lcT A else lcT A).Nodup := hn
    have nA : (lcT A).Nodup := by
      by_cases z : (lT x).1 = 10
      · rw [if_pos z] at hn; exact (List.nodup_cons.mp hn).2
      · rw [if_neg z] at hn; exact hn
    have no : ∀ i, ¬ i = k → k ≤ i → i < k + (1 + tsz A) → Q 51 i = 10 → Q 51 k = 10 → ¬ Q 54 i = Q 54 k := by
      intro i n1 n2 n3 n4 n5 n6
      obtain ⟨e0, e1⟩ := lc_row (Or.inr (Or.inl hO.1)) h1 n5
      have := lc_in A _ _ _ _ _ _ _ hO.2 h2 i (by omega) (by omega) n4
      rw [if_pos e0] at hn
      rw [n6, e1] at this
      exact (List.nodup_cons.mp hn).1 this
    by_cases ej : j = k
    · by_cases ei : j' = k
      · omega
      · subst ej
        exact absurd e.symm (no j' ei i1 i2 hk' hk)
    · by_cases ei : j' = k
      · subst ei
        exact absurd e (no j ej j1 j2 hk hk')
      · exact lc_inj A _ _ _ _ _ _ _ hO.2 h2 nA j j' (by omega) (by omega) (by omega) (by omega) hk hk' e
  | .binary x A B, V, k, up, w, t, a, c, hO, ⟨h1, h2, h3⟩, hn, j, j', j1, j2, i1, i2, hk, hk', e => by
    have j2 : j < k + (1 + tsz A + tsz B) := j2
    have i2 : j' < k + (1 + tsz A + tsz B) := i2
    have hn : (lcT A ++ lcT B).Nodup := hn
    obtain ⟨nA, nB, nAB⟩ := List.nodup_append.mp hn
    have nk : ∀ i, Q 51 i = 10 → ¬ i = k := by
      intro i z y
      subst y
      have e := (lc_row (Or.inr (Or.inr hO.1)) h1 z).1
      rcases hO.1.1 with ⟨z, -⟩ | ⟨z | z, -⟩ <;> (rw [z] at e; exact absurd e (by decide))
    have e1 := nk j hk
    have e2 := nk j' hk'
    by_cases bj : j < k + 1 + tsz A
    · by_cases bi : j' < k + 1 + tsz A
      · exact lc_inj A _ _ _ _ _ _ _ hO.2.1 h2 nA j j' (by omega) bj (by omega) bi hk hk' e
      · have m1 := lc_in A _ _ _ _ _ _ _ hO.2.1 h2 j (by omega) bj hk
        have m2 := lc_in B _ _ _ _ _ _ _ hO.2.2 h3 j' (by omega) (by omega) hk'
        exact absurd e (nAB _ m1 _ m2)
    · by_cases bi : j' < k + 1 + tsz A
      · have m1 := lc_in A _ _ _ _ _ _ _ hO.2.1 h2 j' (by omega) bi hk'
        have m2 := lc_in B _ _ _ _ _ _ _ hO.2.2 h3 j (by omega) (by omega) hk
        exact absurd e.symm (nAB _ m1 _ m2)
      · exact lc_inj B _ _ _ _ _ _ _ hO.2.2 h3 nB j j' (by omega) (by omega) (by omega) (by omega) hk hk' e
theorem plc_1 {kd wt : Nat → Int32} {io k : Nat} {w : Int} (hw : (wt k).toInt = w) (h0 : 0 ≤ w) : (plc kd wt io (k + 1) : Int) ≤ (plc kd wt io k : Int) + w := by
  show ((plc kd wt io k + (if kd k = 10 then (wt k).toInt.toNat else 0) : Nat) : Int) ≤ _
  split <;> omega
theorem plc_T {kd : Nat → Int32} {io : Nat} : ∀ (T : tT) (V : Int32 → Prop) (k : Nat) (up : Int32) (w : Int) (t : Int32) (a c : Int), okT θ V T → 1 ≤ w → LPr G H pk pf xx Q T k up w t a c → (plc kd (Q 57) io (k + tsz T) : Int) ≤ (plc kd (Q 57) io k : Int) + wsm T w
  | .const x, V, k, up, w, t, a, c, hO, hw, h => by
    show (plc kd (Q 57) io (k + 1) : Int) ≤ (plc kd (Q 57) io k : Int) + w
    exact plc_1 h.1.2.2.2.2.1 (by omega)
  | .unary x A, V, k, up, w, t, a, c, hO, hw, ⟨h1, h2⟩ => by
    have b := bw6 (c := (lT x).1 = 6)
    have p1 := plc_1 (kd := kd) (io := io) h1.1.2.2.2.2.1 (by omega)
    have p2 := plc_T (kd := kd) (io := io) A _ _ _ _ _ _ _ hO.2 (by omega) h2
    show (plc kd (Q 57) io (k + (1 + tsz A)) : Int) ≤ (plc kd (Q 57) io k : Int) + (w + wsm A (w + if (lT x).1 = 6 then 1 else 0))
    rw [show k + (1 + tsz A) = k + 1 + tsz A by omega]
    omega
  | .binary x A B, V, k, up, w, t, a, c, hO, hw, ⟨h1, h2, h3⟩ => by
    have b := bw6 (c := (lT x).1 = 6)
    have b' := bw6 (c := (lT x).1 = 5)
    have p1 := plc_1 (kd := kd) (io := io) h1.1.2.2.2.2.1 (by omega)
    have p2 := plc_T (kd := kd) (io := io) A _ _ _ _ _ _ _ hO.2.1 (by omega) h2
    have p3 := plc_T (kd := kd) (io := io) B _ _ _ _ _ _ _ hO.2.2 (by omega) h3
    show (plc kd (Q 57) io (k + (1 + tsz A + tsz B)) : Int) ≤ (plc kd (Q 57) io k : Int) + (w + (wsm A (w + if (lT x).1 = 6 then 1 else 0) + wsm B (w + if (lT x).1 = 5 then 1 else 0)))
    rw [show k + (1 + tsz A + tsz B) = k + 1 + tsz A + tsz B by omega]
    omega
end LOC
