/-! the reference's lay: a level, a function, all functions -/
/-- blocks of a depth: those of 13 - w -/
def nlD (Y : md_S) (n : Nat) (tb : Nat → Int32) (w : Nat) : Prop := ∀ k, k < 2 ^ w → vr Y n tb (13 - w) k (Y.2.1 99 k)
/-- those made, for functions before i -/
def nlM (Y : md_S) (tbf : Nat → Nat → Int32) (n i : Nat) : Prop := ∀ m, m < n → ∃ j d c, j < i ∧ d ≤ 12 ∧ c < 2 ^ (12 - d) ∧ vr Y n (tbf j) (d + 1) c (Int32.ofNat m) ∧ Y.2.1 101 m = Int32.ofNat (12 - d)
section LYL
variable {M Y : md_S} {tbf : Nat → Nat → Int32} {n i v c w : Nat}
theorem nl_L118 (htb : ∀ k, tbf i k = -1 ∨ tbf i k = -2) (hz : ∀ k, 4112 ≤ k → k < 8192 → tbf i k = -2) (hi : i < 40) (hv : v ≤ 12) (hB : nlB M Y tbf n i) (hD : nlD Y n (tbf i) (v + 1)) (hN : nlN Y n ≤ 521 * i + als (v + 1)) : dc_wp (mm_lay_0_L118 Y (Int32.ofNat i) (Int32.ofNat v) 0) (fun z => ∃ Z n', z = .inl (Z, Int32.ofNat v + (-1)) ∧ nlB M Z tbf n' i ∧ nlD Z n' (tbf i) v ∧ nlN Z n' ≤ 521 * i + als v) := by
  obtain ⟨p1, p2⟩ := p2_v v hv
  have tv : (Int32.ofNat (2 ^ v)).toInt = ((2 ^ v : Nat) : Int) := Int32.toInt_ofNat_of_lt (by omega)
  have a0 : als (v + 1) ≤ alw v 0 ∨ 10 ≤ v := by
    by_cases d : v ≤ 9
    · left
      unfold alw
      rw [if_pos d]
      omega
    · right; omega
  have a10 : 10 ≤ v → als (v + 1) = 0 ∧ als v = 0 := by
    intro h
    unfold als
    rw [show 10 - (v + 1) = 0 by omega, show 10 - v = 0 by omega]
    exact ⟨rfl, rfl⟩
  have a1 : alw v (2 ^ v) ≤ als v := by
    unfold alw
    by_cases d : v ≤ 9
    · rw [if_pos d]
      have := als_s d
      split <;> omega
    · rw [if_neg d]; omega
  have key := dc_itK (step := mm_lay_0_s118 (Int32.ofNat i) (Int32.ofNat v)) (fun d (u : md_S × Int32) => ∃ c n', u.2 = Int32.ofNat c ∧ c ≤ 2 ^ v ∧ d = 2 ^ v - c ∧ nlB M u.1 tbf n' i ∧ nlC u.1 n' (tbf i) v c ∧ nlN u.1 n' ≤ 521 * i + alw v c) (F := fun Z => ∃ n', nlB M Z tbf n' i ∧ nlC Z n' (tbf i) v (2 ^ v) ∧ nlN Z n' ≤ 521 * i + alw v (2 ^ v)) (by
    rintro d ⟨Z, u⟩ ⟨c, n', eu, c1, ed, gB, gC, gN⟩
    have eu : u = Int32.ofNat c := eu
    have gB : nlB M Z tbf n' i := gB
    have gC : nlC Z n' (tbf i) v c := gC
    have gN : nlN Z n' ≤ 521 * i + alw v c := gN
    subst eu
    have tc : (Int32.ofNat c).toInt = (c : Int) := Int32.toInt_ofNat_of_lt (by omega)
    show dc_wp (mm_lay_0_b118 Z (Int32.ofNat i) (Int32.ofNat v) (Int32.ofNat c)) _
    by_cases cc : c < 2 ^ v
    · refine wq_w (nl_118 htb hz hi hv cc gB gC gN) ?_
      rintro z ⟨Z', n'', ez, k1, k2, k3⟩
      subst ez
      exact ⟨2 ^ v - (c + 1), by omega, c + 1, n'', rfl, by omega, rfl, k1, k2, k3⟩
    · have ec : c = 2 ^ v := by omega
      delta mm_lay_0_b118
      rw [p1, if_neg (by rw [i_lt, tc, tv]; omega)]
      rw [ec] at gC gN
      exact ⟨_, rfl, n', gB, gC, gN⟩)
  delta mm_lay_0_L118
  refine wq_call (key (2 ^ v) (Y, 0) ⟨0, n, rfl, Nat.zero_le _, rfl, hB, ⟨fun k hk => absurd hk (by omega), fun k _ hk => ?_⟩, ?_⟩) ?_
  · have := hD k hk
    rw [show 13 - (v + 1) = 12 - v by omega] at this
    exact this
  · show nlN Y n ≤ 521 * i + alw v 0
    rcases a0 with a0 | a0
    · omega
    · have := a10 a0
      omega
  · rintro Z ⟨n', k1, k2, k3⟩
    delta mm_lay_0_L180
    exact ⟨_, rfl, Z, n', rfl, k1, fun k hk => k2.1 k hk, by omega⟩
/-- all levels of a function -/
theorem nl_L112 (htb : ∀ k, tbf i k = -1 ∨ tbf i k = -2) (hz : ∀ k, 4112 ≤ k → k < 8192 → tbf i k = -2) (hi : i < 40) (hB : nlB M Y tbf n i) (hD : nlD Y n (tbf i) 13) (hN : nlN Y n ≤ 521 * i) : dc_wp (mm_lay_0_L109 Y (Int32.ofNat i)) (fun z => ∃ Z n', z = .inl (Z, Int32.ofNat (i + 1)) ∧ nlB M Z tbf n' (i + 1) ∧ nlN Z n' ≤ 521 * (i + 1) ∧ nlM Z tbf n' (i + 1)) := by
  have key := dc_itK (step := mm_lay_0_s112 (Int32.ofNat i)) (fun d (u : md_S × Int32) => d ≤ 13 ∧ u.2.toInt = (d : Int) - 1 ∧ ∃ n', nlB M u.1 tbf n' i ∧ nlD u.1 n' (tbf i) d ∧ nlN u.1 n' ≤ 521 * i + als d) (F := fun Z => ∃ n', nlB M Z tbf n' i ∧ nlD Z n' (tbf i) 0 ∧ nlN Z n' ≤ 521 * i + als 0) (by
    rintro d ⟨Z, u⟩ ⟨d1, eu, n', gB, gD, gN⟩
    have eu : u.toInt = (d : Int) - 1 := eu
    show dc_wp (mm_lay_0_b112 Z (Int32.ofNat i) u) _
    delta mm_lay_0_b112
    refine wq_if (fun a => ?_) (fun a => ?_)
    · have a := i_lt.mp a
      rw [il_0] at a
      have e0 : d = 0 := by omega
      rw [e0] at gD gN
      exact ⟨_, rfl, n', gB, gD, gN⟩
    · have a : ¬ u.toInt < (0 : Int32).toInt := fun z => a (i_lt.mpr z)
      rw [il_0] at a
      obtain ⟨v, ev⟩ : ∃ v, d = v + 1 := ⟨d - 1, by omega⟩
      have ue : u = Int32.ofNat v := by
        rw [i_eq, eu, Int32.toInt_ofNat_of_lt (by omega)]
        omega
      subst ev
      have v12 : v ≤ 12 := by omega
      clear eu a
      subst ue
      refine wq_w (nl_L118 htb hz hi v12 gB gD gN) ?_
      rintro z ⟨Z', n'', ez, k1, k2, k3⟩
      subst ez
      exact ⟨v, Nat.lt_succ_self v, Nat.le_of_succ_le d1, dn_1 rfl (Nat.le_trans v12 (by decide)), n'', k1, k2, k3⟩)
  delta mm_lay_0_L109 mm_lay_0_L112
  refine wq_call (key 13 (Y, 12) ⟨Nat.le_refl _, by show (12 : Int32).toInt = ((13 : Nat) : Int) - 1; decide, n, hB, hD, ?_⟩) ?_
  · show nlN Y n ≤ 521 * i + als 13
    have : als 13 = 0 := rfl
    omega
  · rintro Z ⟨n', gB, gD, gN⟩
    have a0 : als 0 = 521 := by decide +kernel
    have ti : (Int32.ofNat i).toInt = (i : Int) := Int32.toInt_ofNat_of_lt (by omega)
    have root := gD 0 (by decide)
    delta mm_lay_0_L186
    refine wq_ix (by decide) (by decide) ?_
    refine wq_ix (by omega) (by omega) ?_
    rw [show (Int32.ofNat i).toInt.toNat = i by omega, show (0 : Int32).toInt.toNat = 0 by decide]
    refine wq_let (fun Z' eZ => ?_)
    obtain ⟨⟨f1, f2, f3⟩, h2, h3, h4, h5⟩ := gB
    have zr : ∀ k, ¬ k = 100 → Z'.2.1 k = Z.2.1 k := fun k hk => by rw [eZ, md_a2, if_neg hk]
    have z100 : Z'.2.1 100 = upd (Z.2.1 100) i (Z.2.1 99 0) := by rw [eZ, md_a2, if_pos rfl]
    have z1 : Z'.1 = Z.1 := by rw [eZ]; rfl
    have g : mxG Z Z' n' n' := ⟨Nat.le_refl _, fun m _ => ⟨by rw [zr 101 (by omega)], by rw [zr 102 (by omega)], by rw [zr 103 (by omega)]⟩⟩
    refine ⟨_, rfl, Z', n', by rw [ad_m (by omega)], ⟨⟨fun k hk => by rw [z1]; exact f1 k hk, fun k hk => by rw [zr k (by omega)]; exact f2 k hk, ?_⟩, ?_, ?_, fun m hm => ?_, fun j hj => ?_⟩, ?_, fun m hm => ?_⟩
    · rw [eZ]; exact f3
    · unfold mxI
      rw [z1, zr 101 (by omega), zr 102 (by omega), zr 103 (by omega), zr 104 (by omega)]
      exact h2
    · unfold mxL vl
      rw [zr 101 (by omega), zr 102 (by omega), zr 103 (by omega)]
      exact h3
    · obtain ⟨j, d, c, a1, a2, a3, a4, a5⟩ := h4 m hm
      exact ⟨j, d, c, by omega, a2, a3, vr_m g _ _ _ a4, by rw [zr 101 (by omega)]; exact a5⟩
    · rw [z100]
      by_cases e : j = i
      · rw [e, upd_s]
        exact vr_m g _ _ _ root
      · rw [upd_n e]
        exact vr_m g _ _ _ (h5 j (by omega))
    · have : nlN Z' n' = nlN Z n' := by unfold nlN; rw [zr 101 (by omega)]
      omega
    · obtain ⟨j, d, c, a1, a2, a3, a4, a5⟩ := h4 m hm
      exact ⟨j, d, c, by omega, a2, a3, vr_m g _ _ _ a4, by rw [zr 101 (by omega)]; exact a5⟩
/-- the truths of a function, as the reference has them -/
noncomputable def tbv (M : md_S) (i c : Nat) : Int32 := if g64 (M.2.2.2 c) i = true then -1 else -2
theorem nl_L69 (hz : ∀ k, 4112 ≤ k → k < 8192 → g64 (M.2.2.2 k) i = false) (hi : i < 40) (hB : nlB M Y (tbv M) n i) (hN : nlN Y n ≤ 521 * i) : dc_wp (mm_lay_0_L69 Y (Int32.ofNat i) 0) (fun z => ∃ Z n', z = .inl (Z, Int32.ofNat (i + 1)) ∧ nlB M Z (tbv M) n' (i + 1) ∧ nlN Z n' ≤ 521 * (i + 1) ∧ nlM Z (tbv M) n' (i + 1)) := by
  have htb : ∀ k, tbv M i k = -1 ∨ tbv M i k = -2 := fun k => by
    unfold tbv
    split
    · exact Or.inl rfl
    · exact Or.inr rfl
  have hz' : ∀ k, 4112 ≤ k → k < 8192 → tbv M i k = -2 := fun k k1 k2 => by
    unfold tbv
    rw [if_neg (by rw [hz k k1 k2]; decide)]
  have key := dc_itK (step := mm_lay_0_s69 (Int32.ofNat i)) (fun d (u : md_S × Int32) => ∃ c, u.2 = Int32.ofNat c ∧ c ≤ 8192 ∧ d = 8192 - c ∧ nlB M u.1 (tbv M) n i ∧ nlN u.1 n ≤ 521 * i ∧ ∀ k, k < c → u.1.2.1 99 k = tbv M i k) (F := fun Z => nlB M Z (tbv M) n i ∧ nlN Z n ≤ 521 * i ∧ ∀ k, k < 8192 → Z.2.1 99 k = tbv M i k) (by
    rintro d ⟨Z, u⟩ ⟨c, eu, c1, ed, gB, gN, gk⟩
    have eu : u = Int32.ofNat c := eu
    have gB : nlB M Z (tbv M) n i := gB
    have gk : ∀ k, k < c → Z.2.1 99 k = tbv M i k := gk
    subst eu
    have tc : (Int32.ofNat c).toInt = (c : Int) := Int32.toInt_ofNat_of_lt (by omega)
    show dc_wp (mm_lay_0_b69 Z (Int32.ofNat i) (Int32.ofNat c)) _
    delta mm_lay_0_b69
    refine wq_if (fun a => ?_) (fun a => ?_)
    · have a := i_lt.mp a
      rw [tc, il_8192] at a
      refine wq_ix (by omega) (by omega) ?_
      rw [show (Int32.ofNat c).toInt.toNat = c by omega]
      have put : ∀ x, x = tbv M i c → dc_wp (mm_lay_0_L102 Z (Int32.ofNat i) (Int32.ofNat c) x (Int32.ofNat c)) (Sum.elim (fun (u : md_S × Int32) => ∃ k', k' < d ∧ ∃ c, u.2 = Int32.ofNat c ∧ c ≤ 8192 ∧ k' = 8192 - c ∧ nlB M u.1 (tbv M) n i ∧ nlN u.1 n ≤ 521 * i ∧ ∀ k, k < c → u.1.2.1 99 k = tbv M i k) (fun Z => nlB M Z (tbv M) n i ∧ nlN Z n ≤ 521 * i ∧ ∀ k, k < 8192 → Z.2.1 99 k = tbv M i k)) := by
        intro x ex
        delta mm_lay_0_L102
        refine wq_ix (by omega) (by omega) ?_
        rw [show (Int32.ofNat c).toInt.toNat = c by omega]
        refine wq_let (fun Z' eZ => ?_)
        obtain ⟨k1, k2, k3⟩ := nlB_b (Z := Z') gB (by rw [eZ]; rfl) (fun k hk => by rw [eZ, md_a2, if_neg hk]) (by rw [eZ]; rfl)
        refine ⟨_, rfl, 8192 - (c + 1), by omega, c + 1, ad_m (by omega), by omega, rfl, k1, by show nlN Z' n ≤ _; rw [k3]; exact gN, fun k hk => ?_⟩
        show Z'.2.1 99 k = _
        rw [eZ, md_a2, if_pos rfl]
        by_cases e : k = c
        · rw [e, upd_s]; exact ex
        · rw [upd_n e]; exact gk k (by omega)
      have tt : Z.2.2.2 c = M.2.2.2 c := by rw [gB.1.2.2]
      rw [tt]
      refine wq_if (fun e => put _ ?_) (fun e => put _ ?_)
      · unfold tbv
        rw [if_pos ((g64_c hi).mp e)]
      · unfold tbv
        rw [if_neg (fun z => e ((g64_c hi).mpr z))]
    · have a : ¬ (Int32.ofNat c).toInt < (8192 : Int32).toInt := fun z => a (i_lt.mpr z)
      rw [tc, il_8192] at a
      exact ⟨_, rfl, gB, gN, fun k hk => gk k (by omega)⟩)
  delta mm_lay_0_L69
  refine wq_call (key 8192 (Y, 0) ⟨0, rfl, by omega, rfl, hB, hN, fun k hk => absurd hk (by omega)⟩) ?_
  rintro Z ⟨gB, gN, gk⟩
  exact nl_L112 htb hz' hi gB (fun k hk => gk k hk) gN
/-- what lay leaves -/
def nlO (M r : md_S) (F n : Nat) : Prop := ((∀ k, ¬ (k = 86 ∨ k = 106) → r.1 k = M.1 k) ∧ (∀ k, ¬ (99 ≤ k ∧ k ≤ 104) → r.2.1 k = M.2.1 k) ∧ r.2.2 = M.2.2) ∧ r.1 86 = 1 ∧ (r.1 106 = Int32.ofNat n ∧ n ≤ 24000) ∧ mxU r n ∧ mxL r n ∧ (∀ m, m < n → ∃ j d c, j < F ∧ d ≤ 12 ∧ c < 2 ^ (12 - d) ∧ vr r n (tbv M j) (d + 1) c (Int32.ofNat m) ∧ r.2.1 101 m = Int32.ofNat (12 - d)) ∧ ∀ j, j < F → vr r n (tbv M j) 13 0 (r.2.1 100 j)
theorem nl_L33 {F : Nat} (hF : F ≤ 40) (hF1 : 1 ≤ F) (eF : M.1 46 + M.1 47 = Int32.ofNat (F - 1)) (e106 : M.1 106 = 0) (hz : ∀ i, i < F → ∀ k, 4112 ≤ k → k < 8192 → g64 (M.2.2.2 k) i = false) : dc_wp (mm_lay_0_L33 M 0) (fun r => ∃ n, r.2 = Int32.ofNat n ∧ nlO M r.1 F n) := by
  have key := dc_itK (step := mm_lay_0_s33) (fun d (u : md_S × Int32) => ∃ p, u.2 = Int32.ofNat p ∧ p ≤ 65536 ∧ d = 65536 - p ∧ (u.1.1 = M.1 ∧ (∀ k, ¬ k = 104 → u.1.2.1 k = M.2.1 k) ∧ u.1.2.2 = M.2.2) ∧ ∀ k, k < p → u.1.2.1 104 k = 0) (F := fun Z => (Z.1 = M.1 ∧ (∀ k, ¬ k = 104 → Z.2.1 k = M.2.1 k) ∧ Z.2.2 = M.2.2) ∧ ∀ k, k < 65536 → Z.2.1 104 k = 0) (by
    rintro d ⟨Z, u⟩ ⟨p, eu, p1, ed, ⟨f1, f2, f3⟩, gk⟩
    have eu : u = Int32.ofNat p := eu
    have f1 : Z.1 = M.1 := f1
    have f2 : ∀ k, ¬ k = 104 → Z.2.1 k = M.2.1 k := f2
    have f3 : Z.2.2 = M.2.2 := f3
    have gk : ∀ k, k < p → Z.2.1 104 k = 0 := gk
    subst eu
    have tp : (Int32.ofNat p).toInt = (p : Int) := Int32.toInt_ofNat_of_lt (by omega)
    show dc_wp (mm_lay_0_b33 Z (Int32.ofNat p)) _
    delta mm_lay_0_b33
    refine wq_if (fun a => ?_) (fun a => ?_)
    · have a := i_lt.mp a
      rw [tp, il_65536] at a
      refine wq_ix (by omega) (by omega) ?_
      rw [show (Int32.ofNat p).toInt.toNat = p by omega]
      refine wq_let (fun Z' eZ => ?_)
      refine ⟨_, rfl, 65536 - (p + 1), by omega, p + 1, ad_m (by omega), by omega, rfl, ⟨by show Z'.1 = _; rw [eZ]; exact f1, fun k hk => by show Z'.2.1 k = _; rw [eZ, md_a2, if_neg hk]; exact f2 k hk, by show Z'.2.2 = _; rw [eZ]; exact f3⟩, fun k hk => ?_⟩
      show Z'.2.1 104 k = 0
      rw [eZ, md_a2, if_pos rfl]
      by_cases e : k = p
      · rw [e, upd_s]
      · rw [upd_n e]; exact gk k (by omega)
    · have a : ¬ (Int32.ofNat p).toInt < (65536 : Int32).toInt := fun z => a (i_lt.mpr z)
      rw [tp, il_65536] at a
      exact ⟨_, rfl, ⟨f1, f2, f3⟩, fun k hk => gk k (by omega)⟩)
  delta mm_lay_0_L33
  refine wq_call (key 65536 (M, 0) ⟨0, rfl, by omega, rfl, ⟨rfl, fun _ _ => rfl, rfl⟩, fun k hk => absurd hk (by omega)⟩) ?_
  rintro Y ⟨⟨f1, f2, f3⟩, gk⟩
  have ct0 : ∀ n, (∀ k, k < n → Y.2.1 104 k = 0) → ctP (fun p => ¬ Y.2.1 104 p = 0) n = 0 := by
    intro n
    induction n with
    | zero => exact fun _ => rfl
    | succ n ih =>
      intro h
      have no : ¬ ¬ Y.2.1 104 n = 0 := fun z => z (h n (by omega))
      have e1 := ctP_n (P := fun p => ¬ Y.2.1 104 p = 0) no
      rw [e1, ih (fun k hk => h k (by omega))]
  have B0 : nlB M Y (tbv M) 0 0 := ⟨⟨fun k _ => by rw [f1], fun k hk => f2 k (by omega), f3⟩, ⟨⟨by rw [f1, e106]; rfl, by omega⟩, fun p hp => Or.inl (gk p hp), fun m hm => absurd hm (by omega), by rw [ct0 65536 gk]; exact Nat.le_refl _, fun m m' hm => absurd hm (by omega)⟩, fun m hm => absurd hm (by omega), fun m hm => absurd hm (by omega), fun j hj => absurd hj (by omega)⟩
  have key2 := dc_itK (step := mm_lay_0_s54) (fun d (u : md_S × Int32) => ∃ i n, u.2 = Int32.ofNat i ∧ i ≤ F ∧ d = F - i ∧ nlB M u.1 (tbv M) n i ∧ nlN u.1 n ≤ 521 * i ∧ nlM u.1 (tbv M) n i) (F := fun Z => ∃ n, nlB M Z (tbv M) n F ∧ nlM Z (tbv M) n F) (by
    rintro d ⟨Z, u⟩ ⟨i, n, eu, i1, ed, gB, gN, gM⟩
    have eu : u = Int32.ofNat i := eu
    have gB : nlB M Z (tbv M) n i := gB
    have gM : nlM Z (tbv M) n i := gM
    have gN : nlN Z n ≤ 521 * i := gN
    subst eu
    have ti : (Int32.ofNat i).toInt = (i : Int) := Int32.toInt_ofNat_of_lt (by omega)
    have tF : (Int32.ofNat (F - 1)).toInt = ((F - 1 : Nat) : Int) := Int32.toInt_ofNat_of_lt (by omega)
    show dc_wp (mm_lay_0_b54 Z (Int32.ofNat i)) _
    delta mm_lay_0_b54
    rw [gB.1.1 46 (by omega), gB.1.1 47 (by omega), eF]
    refine wq_if (fun a => ?_) (fun a => ?_)
    · have a := i_lt.mp a
      rw [ti, tF] at a
      have ei : i = F := by omega
      rw [ei] at gB gM
      exact ⟨_, rfl, n, gB, gM⟩
    · have a : ¬ (Int32.ofNat (F - 1)).toInt < (Int32.ofNat i).toInt := fun z => a (i_lt.mpr z)
      rw [ti, tF] at a
      refine wq_w (nl_L69 (hz i (by omega)) (by omega) gB gN) ?_
      rintro z ⟨Z', n', ez, k1, k2, k3⟩
      subst ez
      exact ⟨F - (i + 1), by omega, i + 1, n', rfl, by omega, rfl, k1, k2, k3⟩)
  delta mm_lay_0_L52 mm_lay_0_L54
  refine wq_call (key2 F (Y, 0) ⟨0, 0, rfl, by omega, rfl, B0, Nat.zero_le _, fun m hm => absurd hm (by omega)⟩) ?_
  rintro Z ⟨n, ⟨⟨g1, g2, g3⟩, hI, hL, -, hR⟩, hM⟩
  delta mm_lay_0_L204
  refine wq_let (fun S1 e1 => ?_)
  have s106 : S1.1 106 = Int32.ofNat n := by rw [e1, md_i1, if_neg (by decide)]; exact hI.1.1
  have er : S1.2 = Z.2 := by rw [e1]; rfl
  have g : mxG Z S1 n n := ⟨Nat.le_refl _, fun m _ => ⟨by rw [er], by rw [er], by rw [er]⟩⟩
  refine ⟨_, rfl, n, s106, ⟨fun k hk => ?_, fun k hk => by show S1.2.1 k = _; rw [er]; exact g2 k hk, by show S1.2.2 = _; rw [er]; exact g3⟩, by show S1.1 86 = 1; rw [e1, md_i1, if_pos rfl], ⟨s106, hI.1.2⟩, ?_, ?_, fun m hm => ?_, fun j hj => ?_⟩
  · show S1.1 k = _
    rw [e1, md_i1, if_neg (by omega)]
    exact g1 k (by omega)
  · unfold mxU
    rw [er]
    exact hI.2.2.2.2
  · unfold mxL vl
    rw [er]
    exact hL
  · obtain ⟨j, d, c, a1, a2, a3, a4, a5⟩ := hM m hm
    exact ⟨j, d, c, a1, a2, a3, vr_m g _ _ _ a4, by show S1.2.1 101 m = _; rw [er]; exact a5⟩
  · show vr S1 n (tbv M j) 13 0 (S1.2.1 100 j)
    rw [er]
    exact vr_m g _ _ _ (hR j hj)
end LYL
