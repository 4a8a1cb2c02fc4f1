/-! the reference's tables, whole -/
section TBW
variable {M Y : md_S} {cnt ins out pa : Nat}
/-- what stands at a choice -/
def tbC (M : md_S) (cnt ins out pa c : Nat) (v : Int64) : Prop := ∀ i, g64 v i = true ↔ trT M cnt ins out pa c i
theorem tb_103 (hH : tbH M cnt ins out pa) (hF : tbF M Y) {c : Nat} (hc : c < 8192) {y0 : Int32} (hy : (∃ k, k < cnt ∧ y0 = Int32.ofNat k ∧ ((c < 4096 ∧ M.2.1 88 k = Int32.ofNat (sN c)) ∨ (4096 ≤ c ∧ sN c = 0 ∧ M.2.1 88 k = 256))) ∨ (y0 = -1 ∧ ∀ k, k < cnt → ¬ ((c < 4096 ∧ M.2.1 88 k = Int32.ofNat (sN c)) ∨ (4096 ≤ c ∧ sN c = 0 ∧ M.2.1 88 k = 256)))) : dc_wp (mm_tables_L103 Y (Int32.ofNat c) (Int32.ofNat (eN c)) y0) (fun z => ∃ v, z = .inl (md_t Y c v, Int32.ofNat (c + 1)) ∧ tbC M cnt ins out pa c v) := by
  have hH0 := hH
  obtain ⟨⟨e87, c257⟩, ⟨e45, i4⟩, ⟨e46, o31⟩, ⟨e47, p8⟩, hd, hb⟩ := hH
  obtain ⟨sh1, sh2, sh3⟩ := sh_ins ins i4
  have tW : (Int32.ofNat (2 ^ ins)).toInt = ((2 ^ ins : Nat) : Int) := Int32.toInt_ofNat_of_lt (by omega)
  have el := eN_lt c
  have te : (Int32.ofNat (eN c)).toInt = (eN c : Int) := Int32.toInt_ofNat_of_lt (by omega)
  have none : (∀ k, ¬ clC M cnt ins c k) → dc_wp (mm_tables_L162 Y (Int32.ofNat c) (-1) 0) (fun z => ∃ v, z = .inl (md_t Y c v, Int32.ofNat (c + 1)) ∧ tbC M cnt ins out pa c v) := by
    intro hn
    refine wq_w (tb_167 (k := 0) (e := 0) hH0 hF hc (x5 := -1) (x6 := 0) (P := fun _ => False) (fun i => ?_)) ?_
    · rw [g64_0]
      exact ⟨fun z => (by cases z), fun z => absurd rfl z.1⟩
    · rintro z ⟨v, ez, hv⟩
      refine ⟨v, ez, fun i => ?_⟩
      rw [hv i]
      exact ⟨fun z => absurd rfl z.1, fun ⟨k, z, _⟩ => absurd z (hn k)⟩
  delta mm_tables_L103 mm_tables_L121 mm_tables_L137
  rw [if_pos (rfl : (-1 : Int32) = -1)]
  rcases hy with ⟨k, k1, ek, hk⟩ | ⟨ey, hn⟩
  · rw [if_neg (by rw [ek]; exact nk_1 (by omega)), hF.1, e45, sh1, ek, cel_m]
    have c1 : (Int32.ofNat (16 * k + eN c)).toInt = ((16 * k + eN c : Nat) : Int) := Int32.toInt_ofNat_of_lt (by omega)
    have c1n : (Int32.ofNat (16 * k + eN c)).toInt.toNat = 16 * k + eN c := by omega
    refine wq_if (fun a => ?_) (fun a => ?_)
    · have a := i_lt.mp a
      rw [te, tW] at a
      have ae : eN c < 2 ^ ins := by omega
      have hcl : clC M cnt ins c k := ⟨k1, ae, hk⟩
      have un : ∀ k', clC M cnt ins c k' → k' = k := by
        rintro k' ⟨b1, b2, b3⟩
        refine hd k' k b1 k1 ?_
        rcases b3 with b3 | b3 <;> rcases hk with hk | hk
        · rw [b3.2, hk.2]
        · exact absurd b3.1 (by omega)
        · exact absurd hk.1 (by omega)
        · rw [b3.2.2, hk.2.2]
      refine wq_ix (by omega) (by omega) ?_
      rw [c1n, hF.2]
      have fin : ∀ z, (∃ v, z = (.inl (md_t Y c v, Int32.ofNat (c + 1)) : (md_S × Int32) ⊕ md_S) ∧ ∀ i, g64 v i = true ↔ (¬ M.2.1 92 (16 * k + eN c) = -1 ∧ ((i < out ∧ gb (M.2.1 93 (16 * k + eN c)) i = true) ∨ (out ≤ i ∧ i < out + pa ∧ ¬ M.2.1 92 (16 * k + eN c) = 257 ∧ gb (M.2.1 92 (16 * k + eN c)) (i - out) = true) ∨ (i = out + pa ∧ M.2.1 92 (16 * k + eN c) = 257)))) → ∃ v, z = .inl (md_t Y c v, Int32.ofNat (c + 1)) ∧ tbC M cnt ins out pa c v := by
        rintro z ⟨v, ez, hv⟩
        refine ⟨v, ez, fun i => ?_⟩
        rw [hv i]
        constructor
        · exact fun w => ⟨k, hcl, w⟩
        · rintro ⟨k', w1, w2⟩
          rw [un k' w1] at w2
          exact w2
      refine wq_if (fun b => ?_) (fun b => ?_)
      · rw [b]
        refine wq_w (tb_167 (k := 0) (e := 0) hH0 hF hc (x5 := -1) (x6 := 0) (P := fun i => gb (M.2.1 93 (16 * k + eN c)) i = true) (fun i => ?_)) ?_
        · rw [g64_0]
          exact ⟨fun z => (by cases z), fun z => absurd rfl z.1⟩
        · rintro z ⟨v, ez, hv⟩
          refine fin z ⟨v, ez, fun i => ?_⟩
          rw [hv i, b]
      · refine wq_ix (by omega) (by omega) ?_
        rw [c1n]
        refine wq_w (tb_167 (k := 0) (e := 0) hH0 hF hc (x5 := M.2.1 92 (16 * k + eN c)) (P := fun i => gb (M.2.1 93 (16 * k + eN c)) i = true) (fun i => ?_)) (fun z hz => fin z hz)
        have hb' := hb k (eN c) k1 ae
        rw [g64_x (hb' 31 (by omega)) i]
        constructor
        · intro z
          refine ⟨b, ?_, z⟩
          apply Classical.byContradiction
          intro w
          rw [hb' i (by omega)] at z
          cases z
        · exact fun z => z.2.2
    · have a : ¬ (Int32.ofNat (eN c)).toInt < (Int32.ofNat (2 ^ ins)).toInt := fun z => a (i_lt.mpr z)
      rw [te, tW] at a
      exact none (fun k' z => by have := z.2.1; omega)
  · rw [if_pos ey]
    exact none (fun k' z => hn k' z.1 z.2.2)
theorem sb_11 : ∀ p, p < 8 → (11 : Int32) - Int32.ofNat p = Int32.ofNat (11 - p) := by decide +kernel
theorem sb_3 : ∀ p, p < 4 → (3 : Int32) - Int32.ofNat p = Int32.ofNat (3 - p) := by decide +kernel
theorem tb_16 (hH : tbH M cnt ins out pa) (hF : tbF M Y) {c : Nat} (hc : c < 8192) : dc_wp (mm_tables_L16 Y (Int32.ofNat c) 0 0 0) (fun z => ∃ v, z = .inl (md_t Y c v, Int32.ofNat (c + 1)) ∧ tbC M cnt ins out pa c v) := by
  have tc : (Int32.ofNat c).toInt = (c : Int) := Int32.toInt_ofNat_of_lt (by omega)
  have key := dc_itK (step := mm_tables_s16 Y (Int32.ofNat c) 0) (fun d (w : Int32 × Int32) => ∃ p, w.2 = Int32.ofNat p ∧ p ≤ 8 ∧ d = 8 - p ∧ w.1 = oB (fun p => if c.testBit (11 - p) = true then (1 : Int32) <<< (Int32.ofNat p &&& (31 : Int32)) else 0) p) (F := fun v => v = Int32.ofNat (sN c)) (by
    rintro d ⟨v, w⟩ ⟨p, ew, p1, ed, hv0⟩
    have ew : w = Int32.ofNat p := ew
    have hv : v = oB (fun p => if c.testBit (11 - p) = true then (1 : Int32) <<< (Int32.ofNat p &&& (31 : Int32)) else 0) p := hv0
    clear hv0
    subst ew
    have tp : (Int32.ofNat p).toInt = (p : Int) := Int32.toInt_ofNat_of_lt (by omega)
    show dc_wp (mm_tables_b16 Y (Int32.ofNat c) v 0 (Int32.ofNat p)) _
    delta mm_tables_b16
    refine wq_if (fun a => ?_) (fun a => ?_)
    · have a := i_lt.mp a
      rw [tp, il_8] at a
      rw [sb_11 p (by omega), bt_st hc (by omega) (by omega)]
      refine ⟨_, rfl, 8 - (p + 1), by omega, p + 1, ad_m (by omega), by omega, rfl, ?_⟩
      show v ||| _ = _
      rw [hv]
      rfl
    · have a : ¬ (Int32.ofNat p).toInt < (8 : Int32).toInt := fun z => a (i_lt.mpr z)
      rw [tp, il_8] at a
      have ep : p = 8 := by omega
      rw [ep, bt_oB hc (by omega)] at hv
      exact ⟨_, rfl, hv⟩)
  delta mm_tables_L16
  refine wq_call (key 8 (0, 0) ⟨0, rfl, by omega, rfl, rfl⟩) (fun s es => ?_)
  subst es
  have key2 := dc_itK (step := mm_tables_s47 Y (Int32.ofNat c) (Int32.ofNat (sN c))) (fun d (w : Int32 × Int32) => ∃ p, w.2 = Int32.ofNat p ∧ p ≤ 4 ∧ d = 4 - p ∧ w.1 = oB (fun p => if c.testBit (3 - p) = true then (1 : Int32) <<< (Int32.ofNat p &&& (31 : Int32)) else 0) p) (F := fun v => v = Int32.ofNat (eN c)) (by
    rintro d ⟨v, w⟩ ⟨p, ew, p1, ed, hv0⟩
    have ew : w = Int32.ofNat p := ew
    have hv : v = oB (fun p => if c.testBit (3 - p) = true then (1 : Int32) <<< (Int32.ofNat p &&& (31 : Int32)) else 0) p := hv0
    clear hv0
    subst ew
    have tp : (Int32.ofNat p).toInt = (p : Int) := Int32.toInt_ofNat_of_lt (by omega)
    show dc_wp (mm_tables_b47 Y (Int32.ofNat c) (Int32.ofNat (sN c)) v (Int32.ofNat p)) _
    delta mm_tables_b47
    refine wq_if (fun a => ?_) (fun a => ?_)
    · have a := i_lt.mp a
      rw [tp, il_4] at a
      rw [sb_3 p (by omega), bt_st hc (by omega) (by omega)]
      refine ⟨_, rfl, 4 - (p + 1), by omega, p + 1, ad_m (by omega), by omega, rfl, ?_⟩
      show v ||| _ = _
      rw [hv]
      rfl
    · have a : ¬ (Int32.ofNat p).toInt < (4 : Int32).toInt := fun z => a (i_lt.mpr z)
      rw [tp, il_4] at a
      have ep : p = 4 := by omega
      rw [ep, bt_oB hc (by omega)] at hv
      exact ⟨_, rfl, hv⟩)
  delta mm_tables_L44 mm_tables_L47
  refine wq_call (key2 4 (0, 0) ⟨0, rfl, by omega, rfl, rfl⟩) (fun e ee => ?_)
  subst ee
  have sl := sN_lt c
  have ts : (Int32.ofNat (sN c)).toInt = (sN c : Int) := Int32.toInt_ofNat_of_lt (by omega)
  have y87 : Y.1 87 = Int32.ofNat cnt := by rw [hF.1]; exact hH.1.1
  delta mm_tables_L73
  refine wq_if (fun a => ?_) (fun a => ?_)
  · have a := i_lt.mp a
    rw [tc, il_4096] at a
    refine wq_call (fnd_t hH.1.2 y87) (fun v hv => ?_)
    rw [hF.2] at hv
    refine tb_103 hH hF hc ?_
    rcases hv with ⟨k, k1, k2, k3, -⟩ | ⟨e, no⟩
    · exact Or.inl ⟨k, k1, k2, Or.inl ⟨by omega, k3⟩⟩
    · exact Or.inr ⟨e, fun k hk z => z.elim (fun w => no k hk w.2) (fun w => by omega)⟩
  · have a : ¬ (Int32.ofNat c).toInt < (4096 : Int32).toInt := fun z => a (i_lt.mpr z)
    rw [tc, il_4096] at a
    refine wq_if (fun b => ?_) (fun b => ?_)
    · have s0 : sN c = 0 := by
        have := i_eq.mp b
        rw [ts, il_0] at this
        omega
      refine wq_call (fnd_t hH.1.2 y87) (fun v hv => ?_)
      rw [hF.2] at hv
      refine tb_103 hH hF hc ?_
      rcases hv with ⟨k, k1, k2, k3, -⟩ | ⟨e, no⟩
      · exact Or.inl ⟨k, k1, k2, Or.inr ⟨by omega, s0, k3⟩⟩
      · exact Or.inr ⟨e, fun k hk z => z.elim (fun w => by omega) (fun w => no k hk w.2.2)⟩
    · refine tb_103 hH hF hc (Or.inr ⟨rfl, fun k hk z => z.elim (fun w => by omega) (fun w => b (by rw [w.2.1]; rfl))⟩)
theorem tb_t (hH : tbH M cnt ins out pa) : dc_wp (mm_tables M) (fun r => tbF M r ∧ ∀ c, c < 8192 → tbC M cnt ins out pa c (r.2.2.2 c)) := by
  have key := dc_itK (step := mm_tables_s2) (fun d (w : md_S × Int32) => ∃ c, w.2 = Int32.ofNat c ∧ c ≤ 8192 ∧ d = 8192 - c ∧ tbF M w.1 ∧ ∀ c', c' < c → tbC M cnt ins out pa c' (w.1.2.2.2 c')) (F := fun r => tbF M r ∧ ∀ c, c < 8192 → tbC M cnt ins out pa c (r.2.2.2 c)) (by
    rintro d ⟨Y, w⟩ ⟨c, ew, c1, ed, hF, hT⟩
    have ew : w = Int32.ofNat c := ew
    have hF : tbF M Y := hF
    have hT : ∀ c', c' < c → tbC M cnt ins out pa c' (Y.2.2.2 c') := hT
    subst ew
    have tc : (Int32.ofNat c).toInt = (c : Int) := Int32.toInt_ofNat_of_lt (by omega)
    show dc_wp (mm_tables_b2 Y (Int32.ofNat c)) _
    delta mm_tables_b2
    refine wq_if (fun a => ?_) (fun a => ?_)
    · have a := i_lt.mp a
      rw [tc, il_8192] at a
      refine wq_w (tb_16 hH hF (by omega)) ?_
      rintro z ⟨v, ez, hv⟩
      subst ez
      refine ⟨8192 - (c + 1), by omega, c + 1, rfl, by omega, rfl, hF, fun c' hc' => ?_⟩
      show tbC M cnt ins out pa c' (vp_updL Y.2.2.2 c v c')
      unfold vp_updL
      by_cases e : c' = c
      · rw [e, if_pos rfl]; exact hv
      · rw [if_neg e]; exact hT c' (by omega)
    · have a : ¬ (Int32.ofNat c).toInt < (8192 : Int32).toInt := fun z => a (i_lt.mpr z)
      rw [tc, il_8192] at a
      exact ⟨_, rfl, hF, fun c' hc' => hT c' (by omega)⟩)
  delta mm_tables mm_tables_L2
  refine wq_call (key 8192 (M, 0) ⟨0, rfl, by omega, rfl, ⟨rfl, rfl⟩, fun c hc => absurd hc (by omega)⟩) (fun r hr => ?_)
  delta mm_tables_L264
  exact ⟨_, rfl, hr⟩
end TBW
