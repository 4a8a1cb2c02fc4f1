/-! where it must go on, a pause is chosen -/
theorem held_ex {C : Nat → Int32} {sel : Nat → Prop} {pa : Nat} (hsel : ∀ p, p < pa → (sel p ↔ (C p).toInt < (C (p + 1)).toInt)) : ∀ (d f : Nat), f + d ≤ pa → (C f).toInt < (C (f + d)).toInt → ∃ p, f ≤ p ∧ p < f + d ∧ sel p
  | 0, f, _, h => by
    rw [Nat.add_zero] at h
    omega
  | d + 1, f, hd, h => by
    by_cases z : (C f).toInt < (C (f + d)).toInt
    · obtain ⟨p, p1, p2, p3⟩ := held_ex hsel d f (by omega) z
      exact ⟨p, p1, by omega, p3⟩
    · refine ⟨f + d, by omega, by omega, (hsel (f + d) (by omega)).mpr ?_⟩
      rw [Nat.add_assoc]
      omega
section N1S
variable {M : md_S} {kk ff xx : Nat → Int32} {m n ps sg pa : Nat} {C : Nat → Int32} {sel : Nat → Prop} {tv : (Nat → Nat) → Int32 → Int32} {σ : Nat → Int32}
theorem z1_N (hm : m ≤ 1000) (hsel : ∀ p, p < pa → (sel p ↔ (C p).toInt < (C (p + 1)).toInt)) : ∀ (T : tT) (V : Int32 → Prop) (k : Nat) (up : Int32) (w : Int) (t : Int32) (a c : Int) (Es : List (Int32 × Int32)), gTr M kk ff xx m n ps sg pa T V k up w t a c Es → ∀ (ρ : Nat → Nat) (md : Option Nat) (s : Prop), (md = none → hsC M.2.1 C k) → zM (zv M.2.1 tv σ (hsC M.2.1 C) sel T k ρ md s) 1 → ∃ p, zN (zv M.2.1 tv σ (hsC M.2.1 C) sel T k ρ md s) p
  | .const x, V, k, up, w, t, a, c, Es, h, ρ, md, s, hh, z => by
    have hO := h.1.1
    unfold zv at z ⊢
    by_cases c1 : (lT x).1 = 1
    · rw [if_pos c1] at z ⊢
      cases md with
      | none =>
        have z : s ∧ 1 = 0 := z
        omega
      | some d => exact ⟨nuQ M.2.1 k, z.1, rfl⟩
    · rw [if_neg c1] at z
      by_cases c2 : (lT x).1 = 2
      · rw [if_pos c2] at z
        have z : s ∧ 1 = 0 := z
        omega
      · rw [if_neg c2] at z
        by_cases c9 : (lT x).1 = 9
        · rw [if_pos c9] at z
          have z : s ∧ 1 = nuQ M.2.1 k := z
          have ec := h.1.2.2.1.2.2 c9
          have hE : Es.length + 0 ≤ 26 := h.1.2.2.2.2.2.2.1
          have lt : ixE (lT x).2.2.2.2.1 (Es.map Prod.snd) ≤ 26 := by
            have mem : (lT x).2.2.2.2.1 ∈ Es.map Prod.snd := by
              rcases h.1.2.2.2.1 c9 with ⟨-, -, u⟩ | ⟨-, u⟩
              · cases Es with
                | nil => cases u
                | cons y E =>
                  have u : y = (-1, (lT x).2.2.2.2.1) := Option.some.inj u
                  rw [u]
                  exact List.mem_cons_self
              · exact List.mem_map.mpr ⟨_, u, rfl⟩
            have := ixE_lt _ mem
            rw [List.length_map] at this
            omega
          have nu : nuQ M.2.1 k = 2 + ixE (lT x).2.2.2.2.1 (Es.map Prod.snd) := by
            unfold nuQ
            rw [ec, Int32.toInt_ofNat_of_lt (by omega)]
            omega
          omega
        · rw [if_neg c9] at z
          have z : s ∧ 1 = 0 := z
          omega
  | .unary x A, V, k, up, w, t, a, c, Es, h, ρ, md, s, hh, z => by
    have ih := z1_N hm hsel A _ _ _ _ _ _ _ _ (gTr_un hm h)
    have hk1 : md = none → hsC M.2.1 C (k + 1) := fun e => (un_hs hm h C).mpr (hh e)
    unfold zv at z ⊢
    by_cases c4 : (lT x).1 = 4
    · rw [if_pos c4] at z ⊢
      cases md with
      | none =>
        rcases z with ⟨z0, z⟩ | ⟨z0, z⟩
        · obtain ⟨p, hp⟩ := ih _ _ _ hk1 z
          exact ⟨p, Or.inl ⟨z0, hp⟩⟩
        · have hs := hh rfl
          unfold hsC at hs
          have pp := pp_T hm (.unary x A) V k up w t a c Es h k (Nat.le_refl _) (by show k < k + (1 + tsz A); omega)
          have le : pfQ M.2.1 k ≤ ptQ M.2.1 k := (rg_b hm h.1).2.1
          obtain ⟨p, p1, p2, p3⟩ := held_ex hsel (ptQ M.2.1 k - pfQ M.2.1 k) (pfQ M.2.1 k) (by omega) (by rw [show pfQ M.2.1 k + (ptQ M.2.1 k - pfQ M.2.1 k) = ptQ M.2.1 k by omega]; exact hs)
          exact ⟨p, Or.inr ⟨z0, z.1, p1, by omega, p3⟩⟩
      | some d => exact ih _ _ _ (fun e => by cases e) z
    · rw [if_neg c4] at z ⊢
      by_cases c6 : (lT x).1 = 6
      · rw [if_pos c6] at z ⊢
        cases md with
        | none =>
          rcases z with ⟨z0, z⟩ | ⟨z0, z⟩
          · obtain ⟨p, hp⟩ := ih _ _ _ (fun e => by cases e) z
            exact ⟨p, Or.inr ⟨((zv_ok A _ _ _ _).2.2.2.2.1 0 z0 0).mpr rfl, hp⟩⟩
          · obtain ⟨p, hp⟩ := ih _ _ _ hk1 z
            exact ⟨p, Or.inl hp⟩
        | some d => exact ih _ _ _ (fun e => by cases e) z
      · rw [if_neg c6] at z ⊢
        by_cases c8 : (lT x).1 = 8
        · rw [if_pos c8] at z ⊢
          rcases z with ⟨e, -⟩ | ⟨-, z⟩ | ⟨e, -⟩
          · omega
          · obtain ⟨p, hp⟩ := ih _ _ _ hk1 z
            refine ⟨p, hp, fun u => ?_⟩
            have ok := zv_ok (Q := M.2.1) (tv := tv) (σ := σ) (hs := hsC M.2.1 C) (sel := sel) A (k + 1) ρ md s
            have := (ok.2.2.2.2.1 1 z 2).mp ((ok.2.2.2.2.1 2 u 2).mpr rfl)
            omega
          · omega
        · rw [if_neg c8] at z ⊢
          cases md with
          | none => exact ih _ _ _ hk1 z
          | some d => exact ih _ _ _ (fun e => by cases e) z
  | .binary x A B, V, k, up, w, t, a, c, Es, h, ρ, md, s, hh, z => by
    obtain ⟨tA, tB⟩ := gTr_bi hm h
    have ia := z1_N hm hsel A _ _ _ _ _ _ _ _ tA
    have ib := z1_N hm hsel B _ _ _ _ _ _ _ _ tB
    have hsb : md = none → ¬ hsC M.2.1 C (k + 1) → hsC M.2.1 C (k + 1 + tsz A) := by
      intro e hn
      have h0 := hh e
      obtain ⟨e1, e2, e3, e4, e5⟩ := bi_p hm h
      unfold hsC at h0 hn ⊢
      rw [e1, e2] at hn
      rw [e3]
      omega
    unfold zv at z ⊢
    by_cases c3 : (lT x).1 = 3
    · rw [if_pos c3] at z ⊢
      cases md with
      | none =>
        rcases z with ⟨z0, z⟩ | ⟨z0, z⟩
        · obtain ⟨p, hp⟩ := ia _ _ _ (fun _ => z0) z
          exact ⟨p, Or.inl ⟨z0, hp⟩⟩
        · obtain ⟨p, hp⟩ := ib _ _ _ (fun _ => hsb rfl z0) z
          exact ⟨p, Or.inr ⟨z0, hp⟩⟩
      | some d =>
        rcases z with ⟨z0, z⟩ | ⟨z0, z⟩
        · obtain ⟨p, hp⟩ := ia _ _ _ (fun e => by cases e) z
          exact ⟨p, Or.inl ⟨z0, hp⟩⟩
        · obtain ⟨p, hp⟩ := ib _ _ _ (fun e => by cases e) z
          exact ⟨p, Or.inr ⟨z0, hp⟩⟩
    · rw [if_neg c3] at z ⊢
      by_cases c5 : (lT x).1 = 5
      · rw [if_pos c5] at z ⊢
        cases md with
        | none =>
          rcases z with ⟨z0, z⟩ | ⟨z0, z⟩
          · rcases z with ⟨z1, z⟩ | ⟨z1, z⟩
            · obtain ⟨p, hp⟩ := ib _ _ _ (fun e => by cases e) z
              exact ⟨p, Or.inl ⟨z0, Or.inr ⟨((zv_ok A _ _ _ _).2.2.2.2.1 0 z1 0).mpr rfl, hp⟩⟩⟩
            · obtain ⟨p, hp⟩ := ia _ _ _ (fun _ => z0) z
              exact ⟨p, Or.inl ⟨z0, Or.inl hp⟩⟩
          · obtain ⟨p, hp⟩ := ib _ _ _ (fun _ => hsb rfl z0) z
            exact ⟨p, Or.inr ⟨z0, hp⟩⟩
        | some d =>
          rcases z with ⟨z1, z⟩ | ⟨z1, z⟩
          · obtain ⟨p, hp⟩ := ib _ _ _ (fun e => by cases e) z
            exact ⟨p, Or.inr ⟨((zv_ok A _ _ _ _).2.2.2.2.1 0 z1 0).mpr rfl, hp⟩⟩
          · obtain ⟨p, hp⟩ := ia _ _ _ (fun e => by cases e) z
            exact ⟨p, Or.inl hp⟩
      · rw [if_neg c5] at z ⊢
        cases md with
        | none =>
          obtain ⟨u, v, zu, zv', e⟩ := z
          have huv : u = 1 ∨ v = 1 := by omega
          rcases huv with hu | hv
          · subst hu
            rcases zu with ⟨z0, zu⟩ | ⟨z0, zu⟩
            · obtain ⟨p, hp⟩ := ia _ _ _ (fun _ => z0) zu
              exact ⟨p, Or.inl (Or.inl ⟨z0, hp⟩)⟩
            · have := zu.2
              omega
          · subst hv
            rcases zv' with ⟨z0, zv'⟩ | ⟨z0, zv'⟩
            · obtain ⟨p, hp⟩ := ib _ _ _ (fun _ => z0) zv'
              exact ⟨p, Or.inr (Or.inl ⟨z0, hp⟩)⟩
            · have := zv'.2
              omega
        | some d =>
          obtain ⟨u, v, zu, zv', e⟩ := z
          have huv : u = 1 ∨ v = 1 := by omega
          rcases huv with hu | hv
          · subst hu
            obtain ⟨p, hp⟩ := ia _ _ _ (fun e => by cases e) zu
            exact ⟨p, Or.inl hp⟩
          · subst hv
            obtain ⟨p, hp⟩ := ib _ _ _ (fun e => by cases e) zv'
            exact ⟨p, Or.inr hp⟩
  | .nodeWithAntiquot .., _, _, _, _, _, _, _, _, h, _, _, _, _, _ => h.1.1.elim
  | .node .., _, _, _, _, _, _, _, _, h, _, _, _, _, _ => h.1.1.elim
  | .trailingNode .., _, _, _, _, _, _, _, _, h, _, _, _, _, _ => h.1.1.elim
  | .symbol .., _, _, _, _, _, _, _, _, h, _, _, _, _, _ => h.1.1.elim
  | .nonReservedSymbol .., _, _, _, _, _, _, _, _, h, _, _, _, _, _ => h.1.1.elim
  | .cat .., _, _, _, _, _, _, _, _, h, _, _, _, _, _ => h.1.1.elim
  | .parser .., _, _, _, _, _, _, _, _, h, _, _, _, _, _ => h.1.1.elim
  | .sepBy .., _, _, _, _, _, _, _, _, h, _, _, _, _, _ => h.1.1.elim
  | .sepBy1 .., _, _, _, _, _, _, _, _, h, _, _, _, _, _ => h.1.1.elim
  | .unicodeSymbol .., _, _, _, _, _, _, _, _, h, _, _, _, _, _ => h.1.1.elim
end N1S
