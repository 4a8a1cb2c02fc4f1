/-! a visit of the class: rows within, what is emitted within -/
section GOH
variable {G : hg_E} {E : rvP} {M : md_S} {P : gvP} {D : Option Nat → Prop} {names : Int32} {kk ff ss xx : Nat → Int32} {m n ps sg pa pls N : Nat} {T A B : tT} {V : Int32 → Prop} {k : Nat} {up : Int32} {w : Int} {t : Int32} {a c : Int} {Es : List (Int32 × Int32)} {S : hg_S} {q : rsT} {x : Lean.Name}
theorem LPr_up {G' H' : Prop} {pk pf : Nat → Int32} {Q : Nat → Nat → Int32} (h : LPr G' H' pk pf xx Q T k up w t a c) : Q 58 k = up := by
  cases T with
  | const x => exact h.1.2.2.2.2.2.1
  | unary x A => exact h.1.1.2.2.2.2.2.1
  | binary x A B => exact h.1.1.2.2.2.2.2.1
  | _ => exact h.elim
theorem b01 {p : Prop} [Decidable p] : (0 : Int) ≤ (if p then 1 else 0) := by split <;> decide
theorem wt_ge {G' H' : Prop} {pk pf : Nat → Int32} {Q : Nat → Nat → Int32} : ∀ (T : tT) (k : Nat) (up : Int32) (w : Int) (t : Int32) (a c : Int), LPr G' H' pk pf xx Q T k up w t a c → ∀ j, k ≤ j → j < k + tsz T → w ≤ (Q 57 j).toInt
  | .const x, k, up, w, t, a, c, h, j, j1, j2 => by
    have j2 : j < k + 1 := j2
    have e : j = k := by omega
    subst e
    rw [h.1.2.2.2.2.1]
    omega
  | .unary x A, k, up, w, t, a, c, ⟨h, hA⟩, j, j1, j2 => by
    have j2 : j < k + (1 + tsz A) := j2
    by_cases e : j = k
    · subst e
      rw [h.1.2.2.2.2.1]
      omega
    · have := wt_ge A _ _ _ _ _ _ hA j (by omega) (by omega)
      have := @b01 ((lT x).1 = 6) _
      omega
  | .binary x A B, k, up, w, t, a, c, ⟨h, hA, hB⟩, j, j1, j2 => by
    have j2 : j < k + (1 + tsz A + tsz B) := j2
    by_cases e : j = k
    · subst e
      rw [h.1.2.2.2.2.1]
      omega
    · by_cases e2 : j < k + 1 + tsz A
      · have := wt_ge A _ _ _ _ _ _ hA j (by omega) (by omega)
        have := @b01 ((lT x).1 = 6) _
        omega
      · have := wt_ge B _ _ _ _ _ _ hB j (by omega) (by omega)
        have := @b01 ((lT x).1 = 5) _
        omega
  | .nodeWithAntiquot .., _, _, _, _, _, _, h, _, _, _ => h.elim
  | .node .., _, _, _, _, _, _, h, _, _, _ => h.elim
  | .trailingNode .., _, _, _, _, _, _, h, _, _, _ => h.elim
  | .symbol .., _, _, _, _, _, _, h, _, _, _ => h.elim
  | .nonReservedSymbol .., _, _, _, _, _, _, h, _, _, _ => h.elim
  | .cat .., _, _, _, _, _, _, h, _, _, _ => h.elim
  | .parser .., _, _, _, _, _, _, h, _, _, _ => h.elim
  | .sepBy .., _, _, _, _, _, _, h, _, _, _ => h.elim
  | .sepBy1 .., _, _, _, _, _, _, h, _, _, _ => h.elim
  | .unicodeSymbol .., _, _, _, _, _, _, h, _, _, _ => h.elim
/-- places of locals within are in use -/
theorem gI_A (hS : gSt M E P D n ps sg pa pls N) (hT : gTr M kk ff xx m n ps sg pa T V k up w t a c Es) {md : Option Nat} (hD : D md) (hd : ∀ d, md = some d → d < w.toNat) {i : Nat} (hi : INq M.2.1 k (tsz T) md w.toNat i) : gA P i := by
  obtain ⟨j, d, ⟨j1, j2⟩, j3, ei, d1, d2⟩ := hi
  have hw := wt_ge T k up w t a c hT.1.2.1 j j1 j2
  have w1 := hT.1.2.2.2.2.1.2.2.2.1
  have hj : j < n := by have := hT.2.1; omega
  obtain ⟨g1, g2⟩ := hS.2.2.2.2.2.2.1 j hj j3
  have e : wtQ M.2.1 j = (M.2.1 57 j).toInt.toNat := rfl
  rw [ei]
  cases md with
  | none =>
    have d2 : w.toNat ≤ d := d2
    by_cases z : d = wtQ M.2.1 j
    · rw [z]; exact (g1 hD).1
    · exact (g2 d (by omega) (hS.2.2.2.2.2.2.2 hD d (by omega))).1
  | some d0 =>
    have d2 : d = d0 := d2
    subst d2
    have := hd d rfl
    exact (g2 d (by omega) hD).1
theorem gMd_lt {md : Option Nat} {v : Nat} (h : gMd md v q) : ∀ d, md = some d → d < v := by
  rintro d rfl
  exact h.2.2
theorem gTr_un (hm : m ≤ 1000) (h : gTr M kk ff xx m n ps sg pa (.unary x A) V k up w t a c Es) : gTr M kk ff xx m n ps sg pa A (vL V (lT x)) (k + 1) (Int32.ofNat k) (w + if (lT x).1 = 6 then 1 else 0) (if (lT x).1 = 8 then Int32.ofNat k else t) a (c + txx xx (lT x).2.2.2.2.2) (if (lT x).1 = 8 then ((lT x).2.2.2.1, (lT x).2.2.2.2.1) :: Es else Es) := by
  obtain ⟨h1, h2, h3, h4, h5, h6⟩ := h
  have h2 : k + (1 + tsz A) ≤ n := h2
  have h3 : c + (txx xx (lT x).2.2.2.2.2 + tsm xx A) ≤ (ps : Int) := h3
  refine ⟨sfT_un hm h1, by omega, by omega, by rw [← pa_un h1]; exact h4, fun y hy => ?_, fun y hy => h6 y ?_⟩
  · unfold vL at hy
    by_cases z : (lT x).1 = 10
    · rw [if_pos z] at hy
      rcases hy with hy | hy
      · exact h5 y hy
      · refine h6 y ?_
        show y ∈ (if (lT x).1 = 10 then (lT x).2.2.1 :: lcT A else lcT A)
        rw [if_pos z, hy]
        exact List.mem_cons_self
    · rw [if_neg z] at hy
      exact h5 y hy
  · show y ∈ (if (lT x).1 = 10 then (lT x).2.2.1 :: lcT A else lcT A)
    by_cases z : (lT x).1 = 10
    · rw [if_pos z]; exact List.mem_cons_of_mem _ hy
    · rw [if_neg z]; exact hy
theorem pas_nn : ∀ T : tT, 0 ≤ pas T
  | .const x => by
    show (0 : Int) ≤ (if (lT x).1 = 1 then 1 else 0)
    exact b01
  | .unary x A => by
    have := pas_nn A
    have := @b01 ((lT x).1 = 1) _
    show (0 : Int) ≤ (if (lT x).1 = 1 then 1 else 0) + pas A
    omega
  | .binary x A B => by
    have := pas_nn A
    have := pas_nn B
    have := @b01 ((lT x).1 = 1) _
    show (0 : Int) ≤ (if (lT x).1 = 1 then 1 else 0) + (pas A + pas B)
    omega
  | .nodeWithAntiquot .. => Int.le_refl _
  | .node .. => Int.le_refl _
  | .trailingNode .. => Int.le_refl _
  | .symbol .. => Int.le_refl _
  | .nonReservedSymbol .. => Int.le_refl _
  | .cat .. => Int.le_refl _
  | .parser .. => Int.le_refl _
  | .sepBy .. => Int.le_refl _
  | .sepBy1 .. => Int.le_refl _
  | .unicodeSymbol .. => Int.le_refl _
theorem pa_bi (h : sfT M kk ff xx m (.binary x A B) V k up w t a c Es) : pas (.binary x A B) = pas A + pas B := by
  have n1 : ¬ (lT x).1 = 1 := by rcases h.1.1.1 with ⟨z, -⟩ | ⟨z | z, -⟩ <;> (rw [z]; decide)
  show (if (lT x).1 = 1 then 1 else 0) + (pas A + pas B) = _
  rw [if_neg n1]
  omega
theorem gTr_bi (hm : m ≤ 1000) (h : gTr M kk ff xx m n ps sg pa (.binary x A B) V k up w t a c Es) : gTr M kk ff xx m n ps sg pa A V (k + 1) (Int32.ofNat k) w (if (lT x).1 = 8 then Int32.ofNat k else t) a (c + txx xx (lT x).2.2.2.2.2) Es ∧ gTr M kk ff xx m n ps sg pa B V (k + 1 + tsz A) (Int32.ofNat k) (w + if (lT x).1 = 5 then 1 else 0) (if (lT x).1 = 8 then Int32.ofNat k else t) (a + pas A) (c + txx xx (lT x).2.2.2.2.2 + tsm xx A) Es := by
  obtain ⟨h1, h2, h3, h4, h5, h6⟩ := h
  have h2 : k + (1 + tsz A + tsz B) ≤ n := h2
  have h3 : c + (txx xx (lT x).2.2.2.2.2 + (tsm xx A + tsm xx B)) ≤ (ps : Int) := h3
  rw [pa_bi h1] at h4
  obtain ⟨sA, sB⟩ := sfT_bi hm h1
  have pB : 0 ≤ pas B := pas_nn B
  have tB := tsm_0 (fun V e h => pO_b hm h) B _ sB.1
  refine ⟨⟨sA, by omega, by omega, by omega, h5, fun y hy => h6 y (List.mem_append.mpr (Or.inl hy))⟩, sB, by omega, by omega, by omega, h5, fun y hy => h6 y (List.mem_append.mpr (Or.inr hy))⟩
theorem zSd_m {e : zF} {I I' : Nat → Prop} {s : Prop} {κ κ' : Nat → Int32} (h : zSd e I s κ κ') (u : ∀ i, I i → I' i) : zSd e I' s κ κ' := fun μ r s' hk hs h1 h0 => h μ r s' hk hs h1 (fun i hi => h0 i (u i hi))
theorem zDN_g {e : zF} {g g' : Nat → Prop} {s : Prop} {κ κ' : Nat → Int32} {db db' : Prop} {ch ch' : Nat → Prop} {z : zvT} (h : zDN e s κ κ' db db' g ch ch' z) (u : ∀ p, g p ↔ g' p) : zDN e s κ κ' db db' g' ch ch' z := by
  have : g = g' := funext (fun p => propext (u p))
  rw [← this]
  exact h
/-- what was not emitted before, and is neither around nor within, is not emitted -/
theorem gEm {e : zF} {I R g : Nat → Prop} {s : Prop} {X X' : zX4} {z : zvT} {Aa : Nat → Prop} (h : zA e I Aa g s X X' z) (ie : zEi e R I) {i : Nat} (hA : Aa i) (n0 : ¬ X.2.1 i) (nR : ¬ R i) (nI : ¬ I i) : ¬ X'.2.1 i := by
  intro y
  rcases (h.1.2.2.2.2.1 i hA).mp y with y | y
  · exact n0 y
  · exact (ie _ _ _ (h.1.2.1.2.2.1 i y)).elim nR nI
/-- a visit with quiet steps ahead and behind -/
theorem gWr {ρ : Nat → Nat} {md : Option Nat} {s : Prop} {v : Nat} {q1 q2 q3 : rsT} {z : zvT} (h1 : gQ k (k + tsz T) (lcT T) q q1) (hf : gFr k (k + tsz T) (lcT T) q1 q2) (hk : gKn pls q1 q2) (hI : gIv P q2) (h2 : gQ k (k + tsz T) (lcT T) q2 q3) (hfl : q3.2 15 = q.2 15 ∧ q3.2 16 = q.2 16 ∧ q3.2 17 = q.2 17) (hc : cB (q3.1 7 k) (zC z)) (hm : mB (q3.1 8 k) (zM z)) (hz : zA (gZ M P T k ρ md) (INq M.2.1 k (tsz T) md v) (gA P) (gRg M k) s (sem P q1) (sem P q2) z) : gPost M P pls T k v ρ md s q q3 := by
  refine ⟨gFr_tr (gFr_tr h1.1 hf) h2.1, hfl, gKn_tr (gKn_tr (gQ_kn h1) hk) (gQ_kn h2), ⟨by rw [h2.1.2.2.1]; exact hI.1, by rw [h2.1.2.2.2.1]; exact hI.2.1, by rw [h2.2.1.1]; exact hI.2.2.1, by rw [h2.2.2.2]; exact hI.2.2.2⟩, z, ⟨hc, hm⟩, ?_⟩
  rw [gQ_sem h2, ← gQ_sem h1]
  exact hz
theorem gIv_q {lo hi : Nat} {L : List Int32} {q1 : rsT} (h : gQ lo hi L q q1) (hI : gIv P q) : gIv P q1 := ⟨by rw [h.1.2.2.1]; exact hI.1, by rw [h.1.2.2.2.1]; exact hI.2.1, by rw [h.2.1.1]; exact hI.2.2.1, by rw [h.2.2.2]; exact hI.2.2.2⟩
theorem emS_q {lo hi : Nat} {L : List Int32} {q1 : rsT} (h : gQ lo hi L q q1) : emS P q1 = emS P q := by
  have := gQ_sem (P := P) h
  exact congrArg (fun z => z.2.1) this
theorem nk_1 {j : Nat} (hj : j < 1200) : ¬ Int32.ofNat j = -1 := by
  intro z
  have := congrArg Int32.toInt z
  rw [Int32.toInt_ofNat_of_lt (by omega), show (-1 : Int32).toInt = -1 by decide] at this
  omega
theorem nk_0 {j : Nat} (hj : j < 1200) (h0 : 1 ≤ j) : ¬ Int32.ofNat j = 0 := by
  intro z
  have := congrArg Int32.toInt z
  rw [Int32.toInt_ofNat_of_lt (by omega), show (0 : Int32).toInt = 0 by decide] at this
  omega
theorem nk_i {i j : Nat} (hi : i < 1200) (hj : j < 1200) (h : ¬ i = j) : ¬ Int32.ofNat i = Int32.ofNat j := by
  intro z
  have := congrArg Int32.toInt z
  rw [Int32.toInt_ofNat_of_lt (by omega), Int32.toInt_ofNat_of_lt (by omega)] at this
  omega
theorem b9_s {j : Nat} {s : Prop} (h : bB (q.1 9 j) s) : q.1 9 j = 0 ∨ q.1 9 j = 1 := h.elim (fun z => Or.inr z.2) (fun z => Or.inl z.2)
end GOH
