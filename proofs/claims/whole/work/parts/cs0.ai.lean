/-! the class's atlas is made; arrays are filled -/
abbrev at0 : List Value := [.null, .null, .null, .null, .null, .null, .null, .null, .int 0, .int 0, .int 0, .int 0, .int 0, .int 0, .int 0]
section ATI
variable {G : hg_E} {S : hg_S} {o : Nat}
theorem ati_w (h0 : hw S) (ho : hg_at S.1 o = some (.inr (11, at0))) (r1 : 8 ≤ S.2.2.1) (r2 : 9766 ≤ S.2.2.2) : dc_wp (hm_AT_init G S o) (fun S' => (hw S' ∧ S'.2 = (S.2.1 + 8, S.2.2.1 - 8, S.2.2.2 - 9766)) ∧ (∀ b, b < S.2.1 → b ≠ o → hg_at S'.1 b = hg_at S.1 b) ∧ ATv G S' o (fun i => S.2.1 + i) (fun _ _ => 0) (fun _ => 0)) := by
  have t1 : (4112 : Int32).toInt = ((4112 : Nat) : Int) := by decide
  have t2 : (257 : Int32).toInt = ((257 : Nat) : Int) := by decide
  have v0 : AV S S o 11 at0 0 0 (fun _ => .inl (G.1 0, 257, .inl (fun _ => 0))) := AV_0 h0 ho
  delta hm_AT_init
  refine wa_nf v0 t1 (by omega) (by omega) (by omega) (Nat.le_of_ble_eq_true rfl) (fun S1 v1 => ?_)
  refine wa_nf v1 t1 (by omega) (by omega) (by omega) (Nat.le_of_ble_eq_true rfl) (fun S2 v2 => ?_)
  refine wa_nf v2 t2 (by omega) (by omega) (by omega) (Nat.le_of_ble_eq_true rfl) (fun S3 v3 => ?_)
  refine wa_nf v3 t2 (by omega) (by omega) (by omega) (Nat.le_of_ble_eq_true rfl) (fun S4 v4 => ?_)
  refine wa_nf v4 t2 (by omega) (by omega) (by omega) (Nat.le_of_ble_eq_true rfl) (fun S5 v5 => ?_)
  refine wa_nf v5 t2 (by omega) (by omega) (by omega) (Nat.le_of_ble_eq_true rfl) (fun S6 v6 => ?_)
  refine wa_nf v6 t2 (by omega) (by omega) (by omega) (Nat.le_of_ble_eq_true rfl) (fun S7 v7 => ?_)
  refine wa_nf v7 t2 (by omega) (by omega) (by omega) (Nat.le_of_ble_eq_true rfl) (fun S8 v8 => ?_)
  clear v0 v1 v2 v3 v4 v5 v6 v7
  obtain ⟨⟨y1, y2⟩, y3, y4, y5, y6⟩ := v8
  refine ⟨S8, rfl, ⟨y1, y4⟩, y5, y3, fun i hi => ?_⟩
  have : i = 0 ∨ i = 1 ∨ i = 2 ∨ i = 3 ∨ i = 4 ∨ i = 5 ∨ i = 6 ∨ i = 7 := by omega
  rcases this with e | e | e | e | e | e | e | e <;> subst e
  · exact y6 0 (by omega)
  · exact y6 1 (by omega)
  · exact y6 2 (by omega)
  · exact y6 3 (by omega)
  · exact y6 4 (by omega)
  · exact y6 5 (by omega)
  · exact y6 6 (by omega)
  · exact y6 7 (by omega)
variable {a N : Nat} {f : Nat → Int32} {v : Int32}
/-- Arrays.fill, of an array of numbers -/
theorem fil_w (h0 : hw S) (ha : hg_at S.1 a = some (.inl (G.1 0, N, .inl f))) (hN : N ≤ 100000) : dc_wp (hm_JA_fill G S (some a) v) (fun S' => (hw S' ∧ S'.2 = S.2) ∧ (∀ b, b ≠ a → hg_at S'.1 b = hg_at S.1 b) ∧ hg_at S'.1 a = some (.inl (G.1 0, N, .inl (fun p => if p < N then v else f p)))) := by
  have tN : (Int32.ofNat N).toInt = (N : Int) := Int32.toInt_ofNat_of_lt (by omega)
  have key := dc_itK (step := hm_JA_fill_s5 G (some a) v (Int32.ofNat N)) (fun d (z : hg_S × Int32) => ∃ j, z.2 = Int32.ofNat j ∧ j ≤ N ∧ d = N - j ∧ (hw z.1 ∧ z.1.2 = S.2) ∧ (∀ b, b ≠ a → hg_at z.1.1 b = hg_at S.1 b) ∧ hg_at z.1.1 a = some (.inl (G.1 0, N, .inl (fun p => if p < j then v else f p)))) (F := fun S' => (hw S' ∧ S'.2 = S.2) ∧ (∀ b, b ≠ a → hg_at S'.1 b = hg_at S.1 b) ∧ hg_at S'.1 a = some (.inl (G.1 0, N, .inl (fun p => if p < N then v else f p)))) (by
    rintro d ⟨Y, z⟩ ⟨j, ev, j1, ed, ⟨g1, g2⟩, g3, g4⟩
    have ev : z = Int32.ofNat j := ev
    have g1 : hw Y := g1
    have g2 : Y.2 = S.2 := g2
    have g3 : ∀ b, b ≠ a → hg_at Y.1 b = hg_at S.1 b := g3
    have g4 : hg_at Y.1 a = some (.inl (G.1 0, N, .inl (fun p => if p < j then v else f p))) := g4
    subst ev
    have tj : (Int32.ofNat j).toInt = (j : Int) := Int32.toInt_ofNat_of_lt (by omega)
    have tjn : (Int32.ofNat j).toInt.toNat = j := by omega
    show dc_wp (hm_JA_fill_b5 G Y (some a) v (Int32.ofNat j) (Int32.ofNat N)) _
    delta hm_JA_fill_b5
    refine wq_if (fun c => ?_) (fun c => ?_)
    · have c := i_lt.mp c
      rw [tj, tN] at c
      refine wq_st g4 (by omega) (by omega) ?_
      rw [tjn]
      refine ⟨_, rfl, N - (j + 1), by omega, j + 1, ad_m (by omega), by omega, rfl, ⟨g1.hu, g2⟩, fun b hb => by rw [hu_ne hb]; exact g3 b hb, ?_⟩
      rw [hu_self g4]
      have e : upd (fun p => if p < j then v else f p) j v = fun p => if p < j + 1 then v else f p := by
        funext p
        by_cases ep : p = j
        · rw [ep, upd_s, if_pos (by omega)]
        · rw [upd_n ep]
          by_cases c2 : p < j
          · rw [if_pos c2, if_pos (by omega)]
          · rw [if_neg c2, if_neg (by omega)]
      rw [e]
    · have c : ¬ (Int32.ofNat j).toInt < (Int32.ofNat N).toInt := fun z => c (i_lt.mpr z)
      rw [tj, tN] at c
      have ej : j = N := by omega
      rw [ej] at g4
      exact ⟨_, rfl, ⟨g1, g2⟩, g3, g4⟩)
  delta hm_JA_fill hm_JA_fill_L5
  refine wq_ln ha ?_
  refine wq_call (key N (S, 0) ⟨0, rfl, by omega, rfl, ⟨h0, rfl⟩, fun _ _ => rfl, ?_⟩) ?_
  · show hg_at S.1 a = _
    rw [ha]
    congr 4
  · intro S' h
    delta hm_JA_fill_L20
    exact ⟨_, rfl, h⟩
theorem AW_u {E : awP} {q : rsT} {S' : hg_S} {i : Nat} {f : Nat → Int32} (h : AW G E S q) (i2 : i < 8) (h0 : hw S') (h1 : S'.2 = S.2) (h2 : ∀ b, b ≠ wB E i → hg_at S'.1 b = hg_at S.1 b) (h3 : hg_at S'.1 (wB E i) = some (.inl (G.1 0, wN i, .inl f))) : AW G E S' (fX q i f) := by
  obtain ⟨⟨g1, g2, g3⟩, ⟨g4, g5⟩, g9⟩ := h
  have hi := g5 i i2
  have no : wO E ≠ wB E i := at_ne g4 hi (fun z => by cases z)
  refine ⟨⟨h0, h1.trans g2, g3⟩, ⟨by rw [h2 _ no]; exact g4, fun j j2 => ?_⟩, fun e e1 e2 => ?_⟩
  · by_cases c : j = i
    · subst c
      rw [h3, fX_s]
    · rw [h2 _ (fun z => c (g3 j i j2 i2 z)), fX_n c]
      exact g5 j j2
  · rw [h2 _ (e2 i i2)]
    exact g9 e e1 e2
end ATI
