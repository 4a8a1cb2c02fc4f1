/-! places of ids; codes of the whole; held pauses counted on both sides -/
section ZHS
variable {Q : Nat → Nat → Int32} {tv : (Nat → Nat) → Int32 → Int32} {σ : Nat → Int32} {hs hs' : Nat → Prop} {sel : Nat → Prop}
theorem zv_hs : ∀ (T : tT) (k : Nat), (∀ j, k ≤ j → j < k + tsz T → (hs j ↔ hs' j)) → ∀ (ρ : Nat → Nat) (md : Option Nat) (s : Prop), zv Q tv σ hs sel T k ρ md s = zv Q tv σ hs' sel T k ρ md s
  | .const x, k, h, ρ, md, s => by unfold zv; rfl
  | .unary x A, k, h, ρ, md, s => by
    have hA := zv_hs A (k + 1) (fun j j1 j2 => h j (by omega) (by show j < k + (1 + tsz A); omega))
    unfold zv
    cases md with
    | none => simp only [hA]
    | some d => simp only [hA]
  | .binary x A B, k, h, ρ, md, s => by
    have z1 := tsz_pos A
    have z2 := tsz_pos B
    have hA := zv_hs A (k + 1) (fun j j1 j2 => h j (by omega) (by show j < k + (1 + tsz A + tsz B); omega))
    have hB := zv_hs B (k + 1 + tsz A) (fun j j1 j2 => h j (by omega) (by show j < k + (1 + tsz A + tsz B); omega))
    have e1 : hs (k + 1) = hs' (k + 1) := propext (h (k + 1) (by omega) (by show k + 1 < k + (1 + tsz A + tsz B); omega))
    have e2 : hs (k + 1 + tsz A) = hs' (k + 1 + tsz A) := propext (h (k + 1 + tsz A) (by omega) (by show k + 1 + tsz A < k + (1 + tsz A + tsz B); omega))
    unfold zv
    cases md with
    | none => simp only [hA, hB, e1, e2]
    | some d => simp only [hA, hB]
  | .nodeWithAntiquot .., _, _, _, _, _ => by unfold zv; rfl
  | .node .., _, _, _, _, _ => by unfold zv; rfl
  | .trailingNode .., _, _, _, _, _ => by unfold zv; rfl
  | .symbol .., _, _, _, _, _ => by unfold zv; rfl
  | .nonReservedSymbol .., _, _, _, _, _ => by unfold zv; rfl
  | .cat .., _, _, _, _, _ => by unfold zv; rfl
  | .parser .., _, _, _, _, _ => by unfold zv; rfl
  | .sepBy .., _, _, _, _, _ => by unfold zv; rfl
  | .sepBy1 .., _, _, _, _, _ => by unfold zv; rfl
  | .unicodeSymbol .., _, _, _, _, _ => by unfold zv; rfl
end ZHS
section PPT
variable {M : md_S} {kk ff xx : Nat → Int32} {m n ps sg pa : Nat}
/-- the pauses of every row within -/
theorem pp_T (hm : m ≤ 1000) : ∀ (T : tT) (V : Int32 → Prop) (k : Nat) (up : Int32) (w : Int) (t : Int32) (a c : Int) (Es : List (Int32 × Int32)), gTr M kk ff xx m n ps sg pa T V k up w t a c Es → ∀ j, k ≤ j → j < k + tsz T → pfQ M.2.1 j ≤ pa ∧ ptQ M.2.1 j ≤ pa
  | .const x, V, k, up, w, t, a, c, Es, h, j, j1, j2 => by
    have j2 : j < k + 1 := j2
    have e : j = k := by omega
    subst e
    have h1 := sfT_p h.1
    have := h.2.2.2.1
    have := pas_nn (.const x)
    rw [h1.1, h1.2]
    omega
  | .unary x A, V, k, up, w, t, a, c, Es, h, j, j1, j2 => by
    have j2 : j < k + (1 + tsz A) := j2
    by_cases e : j = k
    · subst e
      have h1 := sfT_p h.1
      have := h.2.2.2.1
      have := pas_nn (.unary x A)
      rw [h1.1, h1.2]
      omega
    · exact pp_T hm A _ _ _ _ _ _ _ _ (gTr_un hm h) j (by omega) (by omega)
  | .binary x A B, V, k, up, w, t, a, c, Es, h, j, j1, j2 => by
    have j2 : j < k + (1 + tsz A + tsz B) := j2
    obtain ⟨tA, tB⟩ := gTr_bi hm h
    by_cases e : j = k
    · subst e
      have h1 := sfT_p h.1
      have := h.2.2.2.1
      have := pas_nn (.binary x A B)
      rw [h1.1, h1.2]
      omega
    · by_cases e2 : j < k + 1 + tsz A
      · exact pp_T hm A _ _ _ _ _ _ _ _ tA j (by omega) e2
      · exact pp_T hm B _ _ _ _ _ _ _ _ tB j (by omega) (by omega)
  | .nodeWithAntiquot .., _, _, _, _, _, _, _, _, h, _, _, _ => h.1.1.elim
  | .node .., _, _, _, _, _, _, _, _, h, _, _, _ => h.1.1.elim
  | .trailingNode .., _, _, _, _, _, _, _, _, h, _, _, _ => h.1.1.elim
  | .symbol .., _, _, _, _, _, _, _, _, h, _, _, _ => h.1.1.elim
  | .nonReservedSymbol .., _, _, _, _, _, _, _, _, h, _, _, _ => h.1.1.elim
  | .cat .., _, _, _, _, _, _, _, _, h, _, _, _ => h.1.1.elim
  | .parser .., _, _, _, _, _, _, _, _, h, _, _, _ => h.1.1.elim
  | .sepBy .., _, _, _, _, _, _, _, _, h, _, _, _ => h.1.1.elim
  | .sepBy1 .., _, _, _, _, _, _, _, _, h, _, _, _ => h.1.1.elim
  | .unicodeSymbol .., _, _, _, _, _, _, _, _, h, _, _, _ => h.1.1.elim
/-- codes it can end with: 0, 1, or one of the traps around -/
theorem zC_b {tv : (Nat → Nat) → Int32 → Int32} {σ : Nat → Int32} {hs sel : Nat → Prop} (hm : m ≤ 1000) : ∀ (T : tT) (V : Int32 → Prop) (k : Nat) (up : Int32) (w : Int) (t : Int32) (a c : Int) (Es : List (Int32 × Int32)), sfT M kk ff xx m T V k up w t a c Es → ∀ (ρ : Nat → Nat) (md : Option Nat) (s : Prop) (d : Nat), zC (zv M.2.1 tv σ hs sel T k ρ md s) d → d ≤ 1 + Es.length
  | .const x, V, k, up, w, t, a, c, Es, h, ρ, md, s, d, z => by
    obtain ⟨hO, hL, hC, hw, -⟩ := h
    unfold zv at z
    by_cases c1 : (lT x).1 = 1
    · rw [if_pos c1] at z
      cases md with
      | none =>
        have z : d = 0 := z
        omega
      | some d' =>
        have z : d = 1 := z
        omega
    · rw [if_neg c1] at z
      by_cases c2 : (lT x).1 = 2
      · rw [if_pos c2] at z
        have z : d = 0 := z
        omega
      · rw [if_neg c2] at z
        by_cases c9 : (lT x).1 = 9
        · rw [if_pos c9] at z
          have z : d = nuQ M.2.1 k := z
          have ec := hC.2.2 c9
          have mem : (lT x).2.2.2.2.1 ∈ Es.map Prod.snd := by
            rcases hw c9 with ⟨-, -, u⟩ | ⟨-, u⟩
            · cases Es with
              | nil => cases u
              | cons y E =>
                have u : y = (-1, (lT x).2.2.2.2.1) := Option.some.inj u
                rw [u]
                exact List.mem_cons_self
            · exact List.mem_map.mpr ⟨_, u, rfl⟩
          have lt := ixE_lt _ mem
          rw [List.length_map] at lt
          have nu : nuQ M.2.1 k ≤ 2 + ixE (lT x).2.2.2.2.1 (Es.map Prod.snd) := by
            unfold nuQ
            rw [ec]
            by_cases b : 2 + ixE (lT x).2.2.2.2.1 (Es.map Prod.snd) < 2147483648
            · rw [Int32.toInt_ofNat_of_lt b]
              omega
            · have := Int32.toInt_lt (Int32.ofNat (2 + ixE (lT x).2.2.2.2.1 (Es.map Prod.snd)))
              omega
          omega
        · rw [if_neg c9] at z
          have z : d = 0 := z
          omega
  | .unary x A, V, k, up, w, t, a, c, Es, h, ρ, md, s, d, z => by
    have hA := sfT_un hm h
    have ih := zC_b (tv := tv) (σ := σ) (hs := hs) (sel := sel) hm A _ _ _ _ _ _ _ _ hA
    unfold zv at z
    by_cases c4 : (lT x).1 = 4
    · rw [if_pos c4] at z
      rw [if_neg (by rw [c4]; decide)] at ih
      cases md with
      | none =>
        rcases z with ⟨-, z⟩ | ⟨-, z⟩
        · exact ih _ _ _ _ z
        · have z : d = 1 := z
          omega
      | some d' => exact ih _ _ _ _ z
    · rw [if_neg c4] at z
      by_cases c6 : (lT x).1 = 6
      · rw [if_pos c6] at z
        rw [if_neg (by rw [c6]; decide)] at ih
        cases md with
        | none =>
          rcases z with ⟨-, z⟩ | ⟨-, z⟩
          · exact ih _ _ _ _ z
          · exact ih _ _ _ _ z
        | some d' => exact ih _ _ _ _ z
      · rw [if_neg c6] at z
        by_cases c8 : (lT x).1 = 8
        · rw [if_pos c8] at z
          rw [if_pos c8] at ih
          rcases z with ⟨e, -⟩ | ⟨e, -⟩ | ⟨-, z⟩
          · omega
          · omega
          · have := ih _ _ _ _ z
            rw [List.length_cons] at this
            omega
        · rw [if_neg c8] at z
          rw [if_neg c8] at ih
          cases md with
          | none => exact ih _ _ _ _ z
          | some d' => exact ih _ _ _ _ z
  | .binary x A B, V, k, up, w, t, a, c, Es, h, ρ, md, s, d, z => by
    obtain ⟨hA, hB⟩ := sfT_bi hm h
    have ia := zC_b (tv := tv) (σ := σ) (hs := hs) (sel := sel) hm A _ _ _ _ _ _ _ _ hA
    have ib := zC_b (tv := tv) (σ := σ) (hs := hs) (sel := sel) hm B _ _ _ _ _ _ _ _ hB
    unfold zv at z
    by_cases c3 : (lT x).1 = 3
    · rw [if_pos c3] at z
      cases md with
      | none => exact z.elim (fun z => ia _ _ _ _ z.2) (fun z => ib _ _ _ _ z.2)
      | some d' => exact z.elim (fun z => ia _ _ _ _ z.2) (fun z => ib _ _ _ _ z.2)
    · rw [if_neg c3] at z
      by_cases c5 : (lT x).1 = 5
      · rw [if_pos c5] at z
        cases md with
        | none =>
          rcases z with ⟨-, z⟩ | ⟨-, z⟩
          · exact z.elim (fun z => ia _ _ _ _ z.2) (fun z => ib _ _ _ _ z.2)
          · exact ib _ _ _ _ z
        | some d' => exact z.elim (fun z => ia _ _ _ _ z.2) (fun z => ib _ _ _ _ z.2)
      · rw [if_neg c5] at z
        cases md with
        | none =>
          rcases z with ⟨z, -⟩ | ⟨z, -⟩
          · rcases z with ⟨-, z⟩ | ⟨-, z⟩
            · exact ia _ _ _ _ z
            · have z : d = 0 := z
              omega
          · rcases z with ⟨-, z⟩ | ⟨-, z⟩
            · exact ib _ _ _ _ z
            · have z : d = 0 := z
              omega
        | some d' => exact z.elim (fun z => ia _ _ _ _ z.1) (fun z => ib _ _ _ _ z.1)
  | .nodeWithAntiquot .., _, _, _, _, _, _, _, _, h, _, _, _, _, _ => h.1.elim
  | .node .., _, _, _, _, _, _, _, _, h, _, _, _, _, _ => h.1.elim
  | .trailingNode .., _, _, _, _, _, _, _, _, h, _, _, _, _, _ => h.1.elim
  | .symbol .., _, _, _, _, _, _, _, _, h, _, _, _, _, _ => h.1.elim
  | .nonReservedSymbol .., _, _, _, _, _, _, _, _, h, _, _, _, _, _ => h.1.elim
  | .cat .., _, _, _, _, _, _, _, _, h, _, _, _, _, _ => h.1.elim
  | .parser .., _, _, _, _, _, _, _, _, h, _, _, _, _, _ => h.1.elim
  | .sepBy .., _, _, _, _, _, _, _, _, h, _, _, _, _, _ => h.1.elim
  | .sepBy1 .., _, _, _, _, _, _, _, _, h, _, _, _, _, _ => h.1.elim
  | .unicodeSymbol .., _, _, _, _, _, _, _, _, h, _, _, _, _, _ => h.1.elim
end PPT
section PLI
variable {Q : Nat → Nat → Int32} {io n : Nat} {rs : Prop}
def idJ (Q : Nat → Nat → Int32) (n i : Nat) : Prop := ∃ jd : Nat × Nat, (jd.1 < n ∧ Q 51 jd.1 = 10 ∧ jd.2 ≤ wtQ Q jd.1) ∧ i = lis (Q 51) (Q 57) jd.1 + jd.2
/-- the class's place of an id -/
noncomputable def plI (Q : Nat → Nat → Int32) (io n i : Nat) : Nat := @dite _ (idJ Q n i) (Classical.propDecidable (idJ Q n i)) (fun h => plc (Q 51) (Q 57) io (Classical.choose h).1 + if (Classical.choose h).2 = wtQ Q (Classical.choose h).1 then 0 else (Classical.choose h).2) (fun _ => i)
theorem plI_l {j d : Nat} (h1 : j < n) (h2 : Q 51 j = 10) (h3 : d ≤ wtQ Q j) : plI Q io n (lis (Q 51) (Q 57) j + d) = plc (Q 51) (Q 57) io j + if d = wtQ Q j then 0 else d := by
  have h : idJ Q n (lis (Q 51) (Q 57) j + d) := ⟨(j, d), ⟨h1, h2, h3⟩, rfl⟩
  unfold plI
  rw [dif_pos h]
  have sp := Classical.choose_spec h
  generalize Classical.choose h = jd at sp
  obtain ⟨⟨s1, s2, s3⟩, s4⟩ := sp
  obtain ⟨e1, e2⟩ := lis_inj h2 s2 h3 s3 s4
  rw [← e1, ← e2]
theorem lis_62 {j : Nat} : 62 ≤ lis (Q 51) (Q 57) j := by
  have := lis_m (kd := Q 51) (wt := Q 57) (n := 0) j
  have e0 : lis (Q 51) (Q 57) 0 = 62 := rfl
  rw [Nat.zero_add, e0] at this
  exact this
theorem plI_s {i : Nat} (h : i < 62) : plI Q io n i = i := by
  unfold plI
  refine dif_neg ?_
  rintro ⟨jd, -, e⟩
  have := lis_62 (Q := Q) (j := jd.1)
  omega
/-- ids in use in an instant -/
def gAI (rs : Prop) (Q : Nat → Nat → Int32) (io n i : Nat) : Prop := i < io ∨ ∃ j d, (j < n ∧ Q 51 j = 10 ∧ d ≤ wtQ Q j) ∧ i = lis (Q 51) (Q 57) j + d ∧ ((rs ∧ 1 ≤ d) ∨ (¬ rs ∧ d = 0))
def DI (rs : Prop) (md : Option Nat) : Prop := (rs ∧ (md = none ∨ ∃ d, md = some d ∧ 1 ≤ d)) ∨ (¬ rs ∧ md = some 0)
theorem plc_s {j : Nat} (h : Q 51 j = 10) : plc (Q 51) (Q 57) io (j + 1) = plc (Q 51) (Q 57) io j + wtQ Q j := by
  show plc (Q 51) (Q 57) io j + (if Q 51 j = 10 then (Q 57 j).toInt.toNat else 0) = _
  rw [if_pos h]
  rfl
theorem plI_lt (hw : ∀ j, j < n → 1 ≤ wtQ Q j) (hio : io ≤ 62) {i : Nat} (h : gAI rs Q io n i) : plI Q io n i < plc (Q 51) (Q 57) io n := by
  rcases h with h | ⟨j, d, ⟨j1, j2, j3⟩, e, -⟩
  · rw [plI_s (by omega)]
    have := plc_le (kd := Q 51) (wt := Q 57) (io := io) (Nat.zero_le n)
    have e0 : plc (Q 51) (Q 57) io 0 = io := rfl
    omega
  · rw [e, plI_l j1 j2 j3]
    have h1 := plc_le (kd := Q 51) (wt := Q 57) (io := io) (show j + 1 ≤ n by omega)
    rw [plc_s j2] at h1
    have := hw j j1
    split <;> omega
theorem plI_in (hw : ∀ j, j < n → 1 ≤ wtQ Q j) (hio : io ≤ 62) {i i' : Nat} (h : gAI rs Q io n i) (h' : gAI rs Q io n i') (e : plI Q io n i = plI Q io n i') : i = i' := by
  have p0 : ∀ j, io ≤ plc (Q 51) (Q 57) io j := fun j => plc_le (kd := Q 51) (wt := Q 57) (io := io) (Nat.zero_le j)
  rcases h with h | ⟨j, d, ⟨j1, j2, j3⟩, ei, hd⟩
  · rw [plI_s (by omega)] at e
    rcases h' with h' | ⟨j, d, ⟨j1, j2, j3⟩, ei, -⟩
    · rw [plI_s (by omega)] at e
      exact e
    · rw [ei, plI_l j1 j2 j3] at e
      have := p0 j
      omega
  · rcases h' with h' | ⟨j', d', ⟨j1', j2', j3'⟩, ei', hd'⟩
    · rw [plI_s (i := i') (by omega), ei, plI_l j1 j2 j3] at e
      have := p0 j
      omega
    · rw [ei, ei', plI_l j1 j2 j3, plI_l j1' j2' j3'] at e
      have w1 := hw j j1
      have w2 := hw j' j1'
      have ej : j = j' := by
        by_cases u : j < j'
        · have h1 := plc_le (kd := Q 51) (wt := Q 57) (io := io) (show j + 1 ≤ j' by omega)
          rw [plc_s j2] at h1
          split at e <;> split at e <;> omega
        · by_cases v : j' < j
          · have h1 := plc_le (kd := Q 51) (wt := Q 57) (io := io) (show j' + 1 ≤ j by omega)
            rw [plc_s j2'] at h1
            split at e <;> split at e <;> omega
          · omega
      subst ej
      rw [ei, ei']
      rcases hd with ⟨r1, r2⟩ | ⟨r1, r2⟩
      · rcases hd' with ⟨r3, r4⟩ | ⟨r3, r4⟩
        · split at e <;> split at e <;> omega
        · exact absurd r1 r3
      · rcases hd' with ⟨r3, r4⟩ | ⟨r3, r4⟩
        · exact absurd r3 r1
        · omega
end PLI
