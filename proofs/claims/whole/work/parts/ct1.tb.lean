/-! the reference's tables: the truths of all functions on all choices -/
/-- a choice's state and inputs -/
def sN (c : Nat) : Nat := bitN (fun p => c.testBit (11 - p) = true) 8
def eN (c : Nat) : Nat := bitN (fun p => c.testBit (3 - p) = true) 4
/-- state k reacts on choice c -/
def clC (M : md_S) (cnt ins c k : Nat) : Prop := k < cnt ∧ eN c < 2 ^ ins ∧ ((c < 4096 ∧ M.2.1 88 k = Int32.ofNat (sN c)) ∨ (4096 ≤ c ∧ sN c = 0 ∧ M.2.1 88 k = 256))
/-- function i is true where state k reacts on inputs e -/
def trK (M : md_S) (out pa i k e : Nat) : Prop := ¬ M.2.1 92 (16 * k + e) = -1 ∧ ((i < out ∧ gb (M.2.1 93 (16 * k + e)) i = true) ∨ (out ≤ i ∧ i < out + pa ∧ ¬ M.2.1 92 (16 * k + e) = 257 ∧ gb (M.2.1 92 (16 * k + e)) (i - out) = true) ∨ (i = out + pa ∧ M.2.1 92 (16 * k + e) = 257))
def trT (M : md_S) (cnt ins out pa c i : Nat) : Prop := ∃ k, clC M cnt ins c k ∧ trK M out pa i k (eN c)
/-- what tables are made of -/
def tbH (M : md_S) (cnt ins out pa : Nat) : Prop := (M.1 87 = Int32.ofNat cnt ∧ cnt ≤ 257) ∧ (M.1 45 = Int32.ofNat ins ∧ ins ≤ 4) ∧ (M.1 46 = Int32.ofNat out ∧ out ≤ 31) ∧ (M.1 47 = Int32.ofNat pa ∧ pa ≤ 8) ∧ (∀ i j, i < cnt → j < cnt → M.2.1 88 i = M.2.1 88 j → i = j) ∧ ∀ j i, j < cnt → i < 2 ^ ins → ∀ k, out ≤ k → gb (M.2.1 93 (16 * j + i)) k = false
/-- only the table was written -/
def tbF (M Y : md_S) : Prop := Y.1 = M.1 ∧ Y.2.1 = M.2.1
section TBL
variable {M Y : md_S} {cnt ins out pa : Nat}
theorem eN_lt (c : Nat) : eN c < 16 := bitN_lt 4
theorem sN_lt (c : Nat) : sN c < 256 := bitN_lt 8
/-- bits gathered by the reference's loops -/
theorem bt_oB {c b n : Nat} (hc : c < 8192) (hn : n ≤ 8) : oB (fun p => if c.testBit (b - p) = true then (1 : Int32) <<< (Int32.ofNat p &&& (31 : Int32)) else 0) n = Int32.ofNat (bitN (fun p => c.testBit (b - p) = true) n) := by
  refine gb_eq (fun k hk => ?_)
  have lt := bitN_lt (ch := fun p => c.testBit (b - p) = true) n
  have p8 : 2 ^ n ≤ 2 ^ 8 := Nat.pow_le_pow_right (by decide) hn
  have p256 : 2 ^ 8 = 256 := rfl
  rw [gb_n (by omega), gb_oB (b := fun k => c.testBit (b - k)) (fun k _ => rfl) n (by omega) k]
  have h := bitN_t (ch := fun p => c.testBit (b - p) = true) n k
  cases hh : (bitN (fun p => c.testBit (b - p) = true) n).testBit k
  · rw [hh] at h
    by_cases d : k < n
    · rw [decide_eq_true d, Bool.true_and]
      cases hc : c.testBit (b - k)
      · rfl
      · exact absurd (h.mpr ⟨d, hc⟩) (by decide)
    · rw [decide_eq_false d, Bool.false_and]
  · rw [hh] at h
    obtain ⟨d, e⟩ := h.mp rfl
    rw [decide_eq_true d, e]
    rfl
theorem bt_st {c b p : Nat} (hc : c < 8192) (hb : b < 31) (hp : p ≤ b) : (((Int32.ofNat c >>> ((Int32.ofNat (b - p)) &&& (31 : Int32))) &&& 1) <<< (Int32.ofNat p &&& (31 : Int32))) = if c.testBit (b - p) = true then (1 : Int32) <<< (Int32.ofNat p &&& (31 : Int32)) else 0 := by
  rw [gb_v (by omega), gb_n (by omega)]
  by_cases h : c.testBit (b - p) = true
  · rw [if_pos h, if_pos h]
  · rw [if_neg h, if_neg h, Int32.zero_shiftLeft]
/-- the pauses of what follows, and whether it ends -/
theorem tb_167 (hH : tbH M cnt ins out pa) (hF : tbF M Y) {c k e : Nat} (hc : c < 8192) {x5 : Int32} {x6 : Int64} {P : Nat → Prop} (h6 : ∀ i, g64 x6 i = true ↔ (¬ x5 = -1 ∧ i < out ∧ P i)) : dc_wp (mm_tables_L162 Y (Int32.ofNat c) x5 x6) (fun z => ∃ v, z = .inl (md_t Y c v, Int32.ofNat (c + 1)) ∧ ∀ i, g64 v i = true ↔ (¬ x5 = -1 ∧ ((i < out ∧ P i) ∨ (out ≤ i ∧ i < out + pa ∧ ¬ x5 = 257 ∧ gb x5 (i - out) = true) ∨ (i = out + pa ∧ x5 = 257)))) := by
  obtain ⟨-, -, ⟨e46, o31⟩, ⟨e47, p8⟩, -⟩ := hH
  have y46 : Y.1 46 = Int32.ofNat out := by rw [hF.1]; exact e46
  have y47 : Y.1 47 = Int32.ofNat pa := by rw [hF.1]; exact e47
  have tp : (Int32.ofNat pa).toInt = (pa : Int) := Int32.toInt_ofNat_of_lt (by omega)
  have tcn : (Int32.ofNat c).toInt = (c : Int) := Int32.toInt_ofNat_of_lt (by omega)
  have key := dc_itK (step := mm_tables_s167 Y (Int32.ofNat c) x5) (fun d (w : Int64 × Int32) => ∃ p, w.2 = Int32.ofNat p ∧ p ≤ pa ∧ d = pa - p ∧ ∀ i, g64 w.1 i = true ↔ (¬ x5 = -1 ∧ ((i < out ∧ P i) ∨ (out ≤ i ∧ i < out + p ∧ ¬ x5 = 257 ∧ gb x5 (i - out) = true)))) (F := fun v => ∀ i, g64 v i = true ↔ (¬ x5 = -1 ∧ ((i < out ∧ P i) ∨ (out ≤ i ∧ i < out + pa ∧ ¬ x5 = 257 ∧ gb x5 (i - out) = true)))) (by
    rintro d ⟨v, w⟩ ⟨p, ew, p1, ed, hv⟩
    have ew : w = Int32.ofNat p := ew
    have hv : ∀ i, g64 v i = true ↔ (¬ x5 = -1 ∧ ((i < out ∧ P i) ∨ (out ≤ i ∧ i < out + p ∧ ¬ x5 = 257 ∧ gb x5 (i - out) = true))) := hv
    subst ew
    have tpp : (Int32.ofNat p).toInt = (p : Int) := Int32.toInt_ofNat_of_lt (by omega)
    show dc_wp (mm_tables_b167 Y (Int32.ofNat c) x5 v (Int32.ofNat p)) _
    delta mm_tables_b167
    rw [y47]
    refine wq_if (fun a => ?_) (fun a => ?_)
    · have a := i_lt.mp a
      rw [tpp, tp] at a
      have e4 : Y.1 46 + Int32.ofNat p = Int32.ofNat (out + p) := by rw [y46, Int32.ofNat_add]
      refine wq_if (fun b => ?_) (fun b => ?_)
      · refine ⟨_, rfl, fun i => ?_⟩
        rw [hv i]
        exact ⟨fun z => absurd b z.1, fun z => absurd b z.1⟩
      · have fin : ∀ y0 : Int64, ((y0 = 1 ∧ ¬ x5 = 257 ∧ gb x5 p = true) ∨ (y0 = 0 ∧ ¬ (¬ x5 = 257 ∧ gb x5 p = true))) → dc_wp (mm_tables_L208 Y (Int32.ofNat c) x5 (Int32.ofNat p) y0 v) (Sum.elim (fun (w : Int64 × Int32) => ∃ k', k' < d ∧ ∃ p, w.2 = Int32.ofNat p ∧ p ≤ pa ∧ k' = pa - p ∧ ∀ i, g64 w.1 i = true ↔ (¬ x5 = -1 ∧ ((i < out ∧ P i) ∨ (out ≤ i ∧ i < out + p ∧ ¬ x5 = 257 ∧ gb x5 (i - out) = true)))) (fun v => ∀ i, g64 v i = true ↔ (¬ x5 = -1 ∧ ((i < out ∧ P i) ∨ (out ≤ i ∧ i < out + pa ∧ ¬ x5 = 257 ∧ gb x5 (i - out) = true))))) := by
          intro y0 hy
          delta mm_tables_L208
          refine wq_let (fun v3 ev3 => ?_)
          rw [e4] at ev3
          refine ⟨_, rfl, pa - (p + 1), by omega, p + 1, ad_m (by omega), by omega, rfl, fun i => ?_⟩
          show g64 v3 i = true ↔ _
          rw [ev3, g64_or, Bool.or_eq_true, hv i]
          rcases hy with ⟨y1, y2⟩ | ⟨y1, y2⟩
          · rw [y1]
            have gi : g64 ((1 : Int64) <<< (Int32.toInt64 (Int32.ofNat (out + p)) &&& 63)) i = true ↔ i = out + p := by
              by_cases i6 : i < 64
              · rw [g64_1s (out + p) (by omega) i i6]
                exact decide_eq_true_iff
              · rw [g64_ge (by omega)]
                exact ⟨fun z => (by cases z), fun z => absurd z (by omega)⟩
            rw [gi]
            constructor
            · rintro (⟨z1, z2⟩ | z)
              · refine ⟨z1, z2.imp id (fun w => ⟨w.1, by omega, w.2.2⟩)⟩
              · refine ⟨b, Or.inr ⟨by omega, by omega, y2.1, ?_⟩⟩
                rw [z, show out + p - out = p by omega]
                exact y2.2
            · rintro ⟨z1, z2⟩
              by_cases ei : i = out + p
              · exact Or.inr ei
              · exact Or.inl ⟨z1, z2.imp id (fun w => ⟨w.1, by omega, w.2.2⟩)⟩
          · rw [y1, g64_s0 (out + p) (by omega), g64_0]
            constructor
            · rintro (⟨z1, z2⟩ | z)
              · exact ⟨z1, z2.imp id (fun w => ⟨w.1, by omega, w.2.2⟩)⟩
              · cases z
            · rintro ⟨z1, z2⟩
              refine Or.inl ⟨z1, z2.imp id (fun w => ⟨w.1, ?_, w.2.2⟩)⟩
              apply Classical.byContradiction
              intro c2
              have ei : i = out + p := by omega
              apply y2
              refine ⟨w.2.2.1, ?_⟩
              have := w.2.2.2
              rw [ei, show out + p - out = p by omega] at this
              exact this
        have g1 : ((x5 >>> (Int32.ofNat p &&& (31 : Int32))) &&& 1) = 1 ↔ gb x5 p = true := by
          rw [gb_v (by omega)]
          cases gb x5 p
          · rw [if_neg (by decide)]; exact ⟨fun z => absurd z (by decide), fun z => (by cases z)⟩
          · rw [if_pos rfl]; exact ⟨fun _ => rfl, fun _ => rfl⟩
        refine wq_if (fun b2 => ?_) (fun b2 => ?_)
        · delta mm_tables_L207
          exact fin 0 (Or.inr ⟨rfl, fun z => z.1 b2⟩)
        · refine wq_if (fun b3 => ?_) (fun b3 => ?_)
          · exact fin 1 (Or.inl ⟨rfl, b2, g1.mp b3⟩)
          · delta mm_tables_L207
            exact fin 0 (Or.inr ⟨rfl, fun z => b3 (g1.mpr z.2)⟩)
    · have a : ¬ (Int32.ofNat p).toInt < (Int32.ofNat pa).toInt := fun z => a (i_lt.mpr z)
      rw [tpp, tp] at a
      have ep : p = pa := by omega
      rw [ep] at hv
      exact ⟨_, rfl, hv⟩)
  delta mm_tables_L162 mm_tables_L167
  refine wq_call (key pa (x6, 0) ⟨0, rfl, by omega, rfl, fun i => ?_⟩) ?_
  · show g64 x6 i = true ↔ _
    rw [h6 i]
    constructor
    · exact fun z => ⟨z.1, Or.inl z.2⟩
    · rintro ⟨z1, z2⟩
      exact ⟨z1, z2.elim id (fun w => absurd w.2.1 (by omega))⟩
  · intro v hv
    have last : ∀ v', (∀ i, g64 v' i = true ↔ (¬ x5 = -1 ∧ ((i < out ∧ P i) ∨ (out ≤ i ∧ i < out + pa ∧ ¬ x5 = 257 ∧ gb x5 (i - out) = true) ∨ (i = out + pa ∧ x5 = 257)))) → dc_wp (mm_tables_L257 Y (Int32.ofNat c) v' (Int32.ofNat c)) (fun z => ∃ v, z = .inl (md_t Y c v, Int32.ofNat (c + 1)) ∧ ∀ i, g64 v i = true ↔ (¬ x5 = -1 ∧ ((i < out ∧ P i) ∨ (out ≤ i ∧ i < out + pa ∧ ¬ x5 = 257 ∧ gb x5 (i - out) = true) ∨ (i = out + pa ∧ x5 = 257)))) := by
      intro v' hv'
      delta mm_tables_L257
      refine wq_ix (by omega) (by omega) ?_
      rw [show (Int32.ofNat c).toInt.toNat = c by omega]
      exact ⟨_, rfl, v', by rw [← ad_m (by omega)], hv'⟩
    delta mm_tables_L225
    have e4 : Y.1 46 + Y.1 47 = Int32.ofNat (out + pa) := by rw [y46, y47, Int32.ofNat_add]
    refine wq_if (fun a => ?_) (fun a => ?_)
    · refine last _ (fun i => ?_)
      rw [e4, g64_or, Bool.or_eq_true, hv i]
      have gi : g64 ((1 : Int64) <<< (Int32.toInt64 (Int32.ofNat (out + pa)) &&& 63)) i = true ↔ i = out + pa := by
        by_cases i6 : i < 64
        · rw [g64_1s (out + pa) (by omega) i i6]
          exact decide_eq_true_iff
        · rw [g64_ge (by omega)]
          exact ⟨fun z => (by cases z), fun z => absurd z (by omega)⟩
      rw [gi]
      have n1 : ¬ x5 = -1 := by rw [a]; decide
      constructor
      · rintro (⟨z1, z2⟩ | z)
        · exact ⟨z1, z2.imp id Or.inl⟩
        · exact ⟨n1, Or.inr (Or.inr ⟨z, a⟩)⟩
      · rintro ⟨z1, z2 | z2 | z2⟩
        · exact Or.inl ⟨z1, Or.inl z2⟩
        · exact Or.inl ⟨z1, Or.inr z2⟩
        · exact Or.inr z2.1
    · refine last _ (fun i => ?_)
      rw [hv i]
      constructor
      · rintro ⟨z1, z2⟩
        exact ⟨z1, z2.imp id Or.inl⟩
      · rintro ⟨z1, z2 | z2 | z2⟩
        · exact ⟨z1, Or.inl z2⟩
        · exact ⟨z1, Or.inr z2⟩
        · exact absurd z2.2 a
end TBL
