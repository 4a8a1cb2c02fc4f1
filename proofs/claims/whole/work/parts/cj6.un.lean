/-! the reference's run at rows of one, and at present -/
section UN
variable {M : md_S} {names : Int32} {kk ff ss xx : Nat → Int32} {m : Nat} {V : Int32 → Prop} {k : Nat} {up : Int32} {w : Int} {t : Int32} {a c : Int} {E : List (Int32 × Int32)} {x : Lean.Name} {A B : tT}
def mdP (md : Option Nat) (p2 v : Int32) (w : Nat) : Prop := match md with | none => p2 = 0 | some d => p2 = 1 ∧ v = Int32.ofNat (d + 1) ∧ d ≤ w
theorem rn_d {d : Nat} {S q : md_S} {p2 p3 v : Int32} (hk : k < 1200) (h51 : S.2.1 51 k = v) (h10 : ¬ v = 10) (hq : (mm_P3 d).1 S (Int32.ofNat k) p2 p3 = some q) : ∃ d', d = d' + 1 ∧ mm_run_L108 (mm_P3 d') S p2 p3 (Int32.ofNat k) = some q := by
  cases d with
  | zero => exact (rn_z hq).elim
  | succ d => exact ⟨d, rfl, rn_108 hk (by rw [h51]; exact h10) hq⟩
/-- meanings of signals around stay -/
theorem sc_k {S S1 : md_S} {ρ : Nat → Nat} {T : tT} {lo hi : Nat} {e : zvT} (hg : rnG S S1 (lcI T) lo hi e) (hV : ∀ y, V y → (0 ≤ y.toInt ∧ y.toInt < 400) ∧ ¬ y ∈ lcT T) (hl : ∀ y, y ∈ lcT T → 0 ≤ y.toInt ∧ y.toInt < 400) (hv : ∀ y, V y → S.2.1 73 y.toInt.toNat = Int32.ofNat (ρ y.toInt.toNat) ∧ ρ y.toInt.toNat < 1662) : ∀ y, V y → S1.2.1 73 y.toInt.toNat = Int32.ofNat (ρ y.toInt.toNat) ∧ ρ y.toInt.toNat < 1662 := by
  intro y hy
  have n : ¬ lcI T y.toInt.toNat := by
    rintro ⟨z, hz, ez⟩
    have h1 := hV y hy
    have h2 := hl z hz
    have : y = z := i_eq.mpr (by omega)
    exact h1.2 (this ▸ hz)
  exact ⟨(hg.2.2.2.1 _ n).trans (hv y hy).1, (hv y hy).2⟩
theorem g78 {S q : md_S} {lc : Nat → Prop} {lo hi : Nat} {e : zvT} (h : rnG S q lc lo hi e) (h78 : S.1 78 = 0 ∨ S.1 78 = 1) : q.1 78 = 0 ∨ q.1 78 = 1 := by
  by_cases z : zD e
  · exact Or.inr (h.2.2.2.2.1.1 z)
  · rw [h.2.2.2.2.1.2 z]; exact h78
theorem lc_un (n10 : ¬ (lT x).1 = 10) : lcT (.unary x A) = lcT A := if_neg n10
theorem pa_un (h : sfT M kk ff xx m (.unary x A) V k up w t a c E) : pas (.unary x A) = pas A := by
  have n1 : ¬ (lT x).1 = 1 := by rcases h.1.1.1 with ⟨z, -⟩ | ⟨z | z | z, -⟩ <;> (rw [z]; decide)
  show (if (lT x).1 = 1 then (1 : Int) else 0) + pas A = _
  rw [if_neg n1]; omega
theorem rg_un (hm : m ≤ 1000) (h : sfT M kk ff xx m (.unary x A) V k up w t a c E) : pfQ M.2.1 (k + 1) = pfQ M.2.1 k ∧ ptQ M.2.1 (k + 1) = ptQ M.2.1 k := by
  have r1 := sfT_p h
  have r2 := sfT_p (sfT_un hm h)
  rw [pa_un h] at r1
  exact ⟨r2.1.trans r1.1.symm, r2.2.trans r1.2.symm⟩
theorem n_un (hm : m ≤ 1000) (h : sfT M kk ff xx m (.unary x A) V k up w t a c E) {tv : (Nat → Nat) → Int32 → Int32} {σ : Nat → Int32} {hs sel : Nat → Prop} {ρ : Nat → Nat} {md : Option Nat} {s : Prop} : ∀ p, zN (zv M.2.1 tv σ hs sel A (k + 1) ρ md s) p → pfQ M.2.1 (k + 1) ≤ p ∧ p < ptQ M.2.1 (k + 1) := by
  intro p hp
  have r2 := sfT_p (sfT_un hm h)
  have := N_in hm A _ _ _ _ _ _ _ _ _ _ _ (sfT_un hm h) p hp
  rw [r2.1, r2.2]
  exact this
/-- loop -/
theorem rn_loop (hm : m ≤ 1000) (h : sfT M kk ff xx m (.unary x A) V k up w t a c E) (k6 : (lT x).1 = 6) (hT : rnT M A V (k + 1) (w + 1).toNat) : rnT M (.unary x A) V k w.toNat := by
  intro d S q ρ md s p2 p3 hP hq
  have hA := sfT_un hm h
  have rg := rg_un hm h
  have nn := fun (ρ : Nat → Nat) (md : Option Nat) (s : Prop) => n_un hm h (tv := tvQ M.2.1 (siM M)) (σ := siM M) (hs := hsM M) (sel := seM M) (ρ := ρ) (md := md) (s := s)
  have hsz : k + (1 + tsz A) ≤ 1200 := h.2.2.2.2.1.1
  have hw1 := h.2.2.2.2.1.2.2.2.1
  have hw2 := h.2.2.2.2.1.2.2.2.2.1
  have hl := h.2.2.2.2.2.2.2.2.2.1
  have hV := h.2.2.2.2.2.2.2.2.2.2
  have row := h.2.1.1
  have tk : (Int32.ofNat k).toInt.toNat = k := by rw [Int32.toInt_ofNat_of_lt (by omega)]; omega
  obtain ⟨hF, hv, hmd, hs, h78⟩ := hP
  have lcu : lcT (.unary x A) = lcT A := lc_un (by rw [k6]; decide)
  have lce : lcI (.unary x A) = lcI A := by unfold lcI; rw [lcu]
  rw [lcu] at hl hV
  have e51 : S.2.1 51 k = 6 := by rw [hF.2 51 (by omega)]; exact row.1.1.trans k6
  have e52 : S.2.1 52 k = Int32.ofNat (k + 1) := by rw [hF.2 52 (by omega)]; exact row.1.2.1
  have wk : M.2.1 57 k = Int32.ofNat (wtQ M.2.1 k) := by
    have := row.1.2.2.2.2.1
    unfold wtQ
    exact ofN_m (by omega) (by omega)
  have wk' := lw_row row
  obtain ⟨d', -, hq⟩ := rn_d (by omega) e51 (by decide) hq
  delta mm_run_L108 at hq
  obtain ⟨-, -, hq⟩ := iv_ix hq
  rw [tk] at hq
  delta dc_let at hq
  dsimp only at hq
  rw [e51, if_neg (by decide), if_neg (by decide), if_neg (by decide), if_neg (by decide), if_neg (by decide), if_neg (by decide), if_pos rfl] at hq
  obtain ⟨-, -, hq⟩ := iv_ix hq
  rw [tk, e52] at hq
  obtain ⟨q17, e17, hq⟩ := iv_bind hq
  unfold zv
  rw [if_neg (by rw [k6]; decide), if_pos k6]
  cases md with
  | some d0 =>
    obtain ⟨m1, m2, m3⟩ : p2 = 1 ∧ S.1 79 = Int32.ofNat (d0 + 1) ∧ d0 ≤ w.toNat := hmd
    rw [if_neg (by rw [m1]; decide)] at hq
    have hq : some q17 = some q := hq
    rw [← Option.some.inj hq]
    have ro := hT d' S q17 ρ (some d0) s p2 p3 ⟨hF, hv, ⟨m1, m2, by omega⟩, hs, h78⟩ e17
    have G := rnO_G ro
    rw [rg.1, rg.2, ← lce] at G
    exact rnG_O G ro.2.1.1 ro.2.1.2
  | none =>
    have hmd : p2 = 0 := hmd
    rw [if_pos hmd] at hq
    obtain ⟨-, -, hq⟩ := iv_ix hq
    rw [tk] at hq
    obtain ⟨q19, e19, hq⟩ := iv_bind hq
    have hq : some q19 = some q := hq
    rw [← Option.some.inj hq]
    have ro := hT d' S q17 ρ none s p2 p3 ⟨hF, hv, hmd, hs, h78⟩ e17
    have G := rnO_G ro
    have F17 := rnF_tr hF G.1.1
    have e52' : q17.2.1 52 k = Int32.ofNat (k + 1) := by rw [F17.2 52 (by omega)]; exact row.1.2.1
    rw [e52'] at e19
    obtain ⟨⟨cc, mm⟩, bh⟩ := bh_r hT (by omega) F17 (sc_k G hV hl hv) (Or.inl ⟨rfl, wk, by omega⟩) (by omega) hs ro.2.1.1 ro.2.1.2 (zv_ok A _ _ _ _) (g78 G h78) e19
    refine rnG_O ?_ cc mm
    rw [lce]
    rcases bh with ⟨n0, eq⟩ | ⟨h0, G2⟩
    · rw [eq]
      exact rnG_T0 G n0 (zv_ok A _ _ _ _) (nn _ _ _) ⟨by omega, by omega⟩ (fun _ z => z)
    · exact rnG_Th G G2 h0 (zv_ok A _ _ _ _) (zv_ok A _ _ _ _) (nn _ _ _) (nn _ _ _) ⟨⟨by omega, by omega⟩, by omega, by omega⟩ (Or.inl ⟨rfl, rfl⟩) (fun _ z => z.elim id id)
/-- a local signal -/
theorem rn_local (hm : m ≤ 1000) (h : sfT M kk ff xx m (.unary x A) V k up w t a c E) (k10 : (lT x).1 = 10) (hT : rnT M A (vL V (lT x)) (k + 1) w.toNat) : rnT M (.unary x A) V k w.toNat := by
  intro d S q ρ md s p2 p3 hP hq
  have rg := rg_un hm h
  have hsz : k + (1 + tsz A) ≤ 1200 := h.2.2.2.2.1.1
  have hw1 := h.2.2.2.2.1.2.2.2.1
  have hw2 := h.2.2.2.2.1.2.2.2.2.1
  have hB := h.2.2.2.2.2.2.2.1
  have hn := h.2.2.2.2.2.2.2.2.1
  have hl := h.2.2.2.2.2.2.2.2.2.1
  have hV := h.2.2.2.2.2.2.2.2.2.2
  have row := h.2.1.1
  have tk : (Int32.ofNat k).toInt.toNat = k := by rw [Int32.toInt_ofNat_of_lt (by omega)]; omega
  obtain ⟨hF, hv, hmd, hs, h78⟩ := hP
  have kM : M.2.1 51 k = 10 := row.1.1.trans k10
  have e51 : S.2.1 51 k = 10 := by rw [hF.2 51 (by omega)]; exact kM
  have e52 : S.2.1 52 k = Int32.ofNat (k + 1) := by rw [hF.2 52 (by omega)]; exact row.1.2.1
  have en : M.2.1 54 k = (lT x).2.2.1 := (lc_row (Or.inr (Or.inl h.1.1)) row kM).2
  have lcc : lcT (.unary x A) = (lT x).2.2.1 :: lcT A := if_pos k10
  rw [lcc] at hl hn hV
  have hnum := hl _ List.mem_cons_self
  obtain ⟨e61, b61⟩ := hB k (by omega) (by show k < k + (1 + tsz A); omega) kM
  have wk' := lw_row row
  have nu : nuQ M.2.1 k = (lT x).2.2.1.toInt.toNat := by unfold nuQ; rw [en]
  have hba : baQ M.2.1 k = lis (M.2.1 51) (M.2.1 57) k := by
    unfold baQ
    rw [e61, Int32.toInt_ofNat_of_lt (by omega)]
    omega
  have wk : M.2.1 57 k = Int32.ofNat (wtQ M.2.1 k) := by
    have := row.1.2.2.2.2.1
    unfold wtQ
    exact ofN_m (by omega) (by omega)
  cases d with
  | zero => exact (rn_z hq).elim
  | succ d =>
    have hq : (dc_it (mm_run_s3 (mm_P3 d) p2 p3) (S, Int32.ofNat k)).bind (fun (z : md_S × Int32) => mm_run_L108 (mm_P3 d) z.1 p2 p3 z.2) = some q := hq
    rw [dc_it_eq] at hq
    obtain ⟨z, ez, hq⟩ := iv_bind hq
    obtain ⟨y, ey, ez⟩ := iv_bind ez
    -- the step
    have step : ∀ (o : Nat), o ≤ wtQ M.2.1 k → mm_run_L53 (mm_P3 d) S p2 p3 (Int32.ofNat k) (Int32.ofNat o) (M.2.1 61 k) (M.2.1 54 k) = some y → ∃ S', y = .inl (S', Int32.ofNat (k + 1)) ∧ rnF S S' ∧ S'.1 79 = S.1 79 ∧ (∀ i, ¬ i = 73 → S'.2.1 i = S.2.1 i) ∧ S'.2.1 73 = upd (S.2.1 73) (nuQ M.2.1 k) (Int32.ofNat (baQ M.2.1 k + o)) ∧ ((s ∧ siM M (baQ M.2.1 k + o) = 2) → S'.1 78 = 1) ∧ (¬ (s ∧ siM M (baQ M.2.1 k + o) = 2) → S'.1 78 = S.1 78) := by
      intro o ho hy
      have ad : M.2.1 61 k + Int32.ofNat o = Int32.ofNat (baQ M.2.1 k + o) := by
        rw [e61, hba, i_eq, i_addS (by rw [Int32.toInt_ofNat_of_lt (by omega), Int32.toInt_ofNat_of_lt (by omega)]; omega), Int32.toInt_ofNat_of_lt (by omega), Int32.toInt_ofNat_of_lt (by omega), Int32.toInt_ofNat_of_lt (by omega)]
        omega
      delta mm_run_L53 at hy
      obtain ⟨-, -, hy⟩ := iv_ix hy
      have hy : (if (md_a S 73 (nuQ M.2.1 k) (M.2.1 61 k + Int32.ofNat o)).1 78 = 0 then (if p3 = 0 then (mm_run_L92 (mm_P3 d) (md_a S 73 (nuQ M.2.1 k) (M.2.1 61 k + Int32.ofNat o)) p2 p3 (Int32.ofNat k)) else ((dc_ix (Int32.ofNat k) 1200).bind fun j34 => (dc_ix ((md_a S 73 (nuQ M.2.1 k) (M.2.1 61 k + Int32.ofNat o)).2.1 54 j34) 400).bind fun j35 => (dc_ix ((md_a S 73 (nuQ M.2.1 k) (M.2.1 61 k + Int32.ofNat o)).2.1 73 j35) 1662).bind fun j36 => if ((md_a S 73 (nuQ M.2.1 k) (M.2.1 61 k + Int32.ofNat o)).2.1 70 j36) = 2 then (mm_run_L88 (mm_P3 d) (md_a S 73 (nuQ M.2.1 k) (M.2.1 61 k + Int32.ofNat o)) p2 p3 (Int32.ofNat k)) else (mm_run_L92 (mm_P3 d) (md_a S 73 (nuQ M.2.1 k) (M.2.1 61 k + Int32.ofNat o)) p2 p3 (Int32.ofNat k)))) else (mm_run_L88 (mm_P3 d) (md_a S 73 (nuQ M.2.1 k) (M.2.1 61 k + Int32.ofNat o)) p2 p3 (Int32.ofNat k))) = some y := hy
      rw [ad] at hy
      have g0 : (md_a S 73 (nuQ M.2.1 k) (Int32.ofNat (baQ M.2.1 k + o))).1 = S.1 := rfl
      have g1 : ∀ i, ¬ i = 73 → (md_a S 73 (nuQ M.2.1 k) (Int32.ofNat (baQ M.2.1 k + o))).2.1 i = S.2.1 i := fun i hi => by rw [md_a2, if_neg hi]
      have g2 : (md_a S 73 (nuQ M.2.1 k) (Int32.ofNat (baQ M.2.1 k + o))).2.1 73 = upd (S.2.1 73) (nuQ M.2.1 k) (Int32.ofNat (baQ M.2.1 k + o)) := rfl
      generalize md_a S 73 (nuQ M.2.1 k) (Int32.ofNat (baQ M.2.1 k + o)) = X at hy g0 g1 g2
      have fin : ∀ v : Int32, (v = 0 ∨ v = 1) → ((s ∧ siM M (baQ M.2.1 k + o) = 2) → v = 1) → (¬ (s ∧ siM M (baQ M.2.1 k + o) = 2) → v = S.1 78) → mm_run_L93 (mm_P3 d) X p2 p3 (Int32.ofNat k) v = some y → ∃ S', y = .inl (S', Int32.ofNat (k + 1)) ∧ rnF S S' ∧ S'.1 79 = S.1 79 ∧ (∀ i, ¬ i = 73 → S'.2.1 i = S.2.1 i) ∧ S'.2.1 73 = upd (S.2.1 73) (nuQ M.2.1 k) (Int32.ofNat (baQ M.2.1 k + o)) ∧ ((s ∧ siM M (baQ M.2.1 k + o) = 2) → S'.1 78 = 1) ∧ (¬ (s ∧ siM M (baQ M.2.1 k + o) = 2) → S'.1 78 = S.1 78) := by
        intro v _ v1 v2 hy
        delta mm_run_L93 at hy
        obtain ⟨_, _, hy⟩ := iv_bind hy
        have hy : (dc_ix (Int32.ofNat k) 1200).bind (fun j30 => some (.inl (md_i X 78 v, (md_i X 78 v).2.1 52 j30))) = some y := hy
        obtain ⟨-, -, hy⟩ := iv_ix hy
        rw [tk] at hy
        have hy := Option.some.inj hy
        have x52 : (md_i X 78 v).2.1 52 k = Int32.ofNat (k + 1) := by
          show X.2.1 52 k = _
          rw [g1 52 (by omega)]; exact e52
        rw [x52] at hy
        refine ⟨md_i X 78 v, hy.symm, ⟨fun i hi => by rw [md_ij (by omega), g0], fun i hi => by show X.2.1 i = _; exact g1 i (by omega)⟩, by rw [md_ij (by omega), g0], fun i hi => g1 i hi, g2, fun z => by rw [md_ii]; exact v1 z, fun z => by rw [md_ii]; exact v2 z⟩
      rw [g0] at hy
      rcases iv_if hy with ⟨c0, hy⟩ | ⟨c0, hy⟩
      · rcases iv_if hy with ⟨c1, hy⟩ | ⟨c1, hy⟩
        · have ns : ¬ s := hs.elim (fun z => absurd (z.2.symm.trans c1) (by decide)) (fun z => z.1)
          exact fin 0 (Or.inl rfl) (fun z => absurd z.1 ns) (fun _ => c0.symm) hy
        · have s1 : s := hs.elim (fun z => z.1) (fun z => absurd z.2 c1)
          obtain ⟨-, -, hy⟩ := iv_ix hy
          obtain ⟨-, -, hy⟩ := iv_ix hy
          obtain ⟨-, -, hy⟩ := iv_ix hy
          have x54 : (X.2.1 54 k).toInt.toNat = nuQ M.2.1 k := by rw [g1 54 (by omega), hF.2 54 (by omega)]; rfl
          rw [tk, x54, g2, upd_s, g1 70 (by omega), hF.2 70 (by omega), Int32.toInt_ofNat_of_lt (by omega)] at hy
          rcases iv_if hy with ⟨c2, hy⟩ | ⟨c2, hy⟩
          · exact fin 1 (Or.inr rfl) (fun _ => rfl) (fun z => absurd ⟨s1, c2⟩ z) hy
          · exact fin 0 (Or.inl rfl) (fun z => absurd z.2 c2) (fun _ => c0.symm) hy
      · have c1 : S.1 78 = 1 := h78.resolve_left c0
        exact fin 1 (Or.inr rfl) (fun _ => rfl) (fun _ => c1.symm) hy
    have ey : mm_run_b3 (mm_P3 d) S p2 p3 (Int32.ofNat k) = some y := ey
    delta mm_run_b3 at ey
    obtain ⟨-, -, ey⟩ := iv_ix ey
    rw [tk, if_pos e51] at ey
    obtain ⟨-, -, ey⟩ := iv_ix ey
    obtain ⟨-, -, ey⟩ := iv_ix ey
    rw [tk, hF.2 54 (by omega), hF.2 61 (by omega)] at ey
    -- the rest of the run
    have rest : ∀ (o : Nat) (md : Option Nat), o ≤ wtQ M.2.1 k → mdP md p2 (S.1 79) w.toNat → mm_run_L53 (mm_P3 d) S p2 p3 (Int32.ofNat k) (Int32.ofNat o) (M.2.1 61 k) (M.2.1 54 k) = some y → rnO M S q (.unary x A) k (zLc (siM M) (baQ M.2.1 k + o) s (zv M.2.1 (tvQ M.2.1 (siM M)) (siM M) (hsM M) (seM M) A (k + 1) (rhU ρ (nuQ M.2.1 k) (baQ M.2.1 k + o)) md s)) := by
      intro o md ho hmd hy
      obtain ⟨S', ey', F', s79, s1, s73, d1, d2⟩ := step o ho hy
      rw [ey'] at ez
      have ez : dc_it (mm_run_s3 (mm_P3 d) p2 p3) (S', Int32.ofNat (k + 1)) = some z := ez
      have hq' : (mm_P3 (d + 1)).1 S' (Int32.ofNat (k + 1)) p2 p3 = some q := by
        show (dc_it (mm_run_s3 (mm_P3 d) p2 p3) (S', Int32.ofNat (k + 1))).bind (fun (z : md_S × Int32) => mm_run_L108 (mm_P3 d) z.1 p2 p3 z.2) = some q
        rw [ez]
        exact hq
      have sc : ∀ y, vL V (lT x) y → S'.2.1 73 y.toInt.toNat = Int32.ofNat (rhU ρ (nuQ M.2.1 k) (baQ M.2.1 k + o) y.toInt.toNat) ∧ rhU ρ (nuQ M.2.1 k) (baQ M.2.1 k + o) y.toInt.toNat < 1662 := by
        intro y hy
        unfold vL at hy
        rw [if_pos k10] at hy
        rw [s73]
        unfold rhU
        by_cases e : y.toInt.toNat = nuQ M.2.1 k
        · rw [e, upd_s, if_pos rfl]
          exact ⟨rfl, by omega⟩
        · rw [upd_n e, if_neg e]
          rcases hy with hy | hy
          · exact hv y hy
          · exact absurd (by rw [hy, nu]) e
      have p78 : S'.1 78 = 0 ∨ S'.1 78 = 1 := by
        by_cases c : s ∧ siM M (baQ M.2.1 k + o) = 2
        · exact Or.inr (d1 c)
        · rw [d2 c]; exact h78
      have hmd' : mdP md p2 (S'.1 79) w.toNat := by rw [s79]; exact hmd
      have ro := hT (d + 1) S' q _ md s p2 p3 ⟨rnF_tr hF F', sc, hmd', hs, p78⟩ hq'
      have G := rnO_G ro
      obtain ⟨⟨r1, r2⟩, r3, r4, r5, r6, r7, r8⟩ := G
      refine rnG_O ⟨⟨rnF_tr F' r1, r2.trans s79⟩, ?_, ?_, fun j hj => ?_, ⟨fun z => ?_, fun z => ?_⟩, ?_, ?_⟩ ro.2.1.1 ro.2.1.2
      · rw [s1 72 (by omega)] at r3; exact r3
      · rw [s1 71 (by omega)] at r4; exact r4
      · have nj : ¬ j = nuQ M.2.1 k := fun e => hj ⟨(lT x).2.2.1, by rw [lcc]; exact List.mem_cons_self, by rw [e, nu]⟩
        rw [r5 j (fun ⟨y, hy, e⟩ => hj ⟨y, by rw [lcc]; exact List.mem_cons_of_mem _ hy, e⟩), s73, upd_n nj]
      · by_cases c : zD (zv M.2.1 (tvQ M.2.1 (siM M)) (siM M) (hsM M) (seM M) A (k + 1) (rhU ρ (nuQ M.2.1 k) (baQ M.2.1 k + o)) md s)
        · exact r6.1 c
        · rw [r6.2 c]
          exact d1 (z.resolve_right c)
      · rw [r6.2 (fun t => z (Or.inr t))]
        exact d2 (fun t => z (Or.inl t))
      · rw [rg.1, rg.2, s1 75 (by omega)] at r7; exact r7
      · rw [rg.1, rg.2, s1 75 (by omega)] at r8; exact r8
    unfold zv
    rw [if_neg (by rw [k10]; decide), if_neg (by rw [k10]; decide), if_neg (by rw [k10]; decide)]
    cases md with
    | none =>
      have hmd0 : p2 = 0 := hmd
      rw [if_pos hmd0] at ey
      obtain ⟨-, -, ey⟩ := iv_ix ey
      rw [tk, hF.2 57 (by omega), wk] at ey
      exact rest (wtQ M.2.1 k) none (Nat.le_refl _) hmd ey
    | some d0 =>
      have hmd0 : p2 = 1 ∧ S.1 79 = Int32.ofNat (d0 + 1) ∧ d0 ≤ w.toNat := hmd
      rw [if_neg (by rw [hmd0.1]; decide)] at ey
      have e79 : S.1 79 - 1 = Int32.ofNat d0 := by
        rw [hmd0.2.1, i_eq, i_subS (by rw [Int32.toInt_ofNat_of_lt (by omega), il_1]; omega), Int32.toInt_ofNat_of_lt (by omega), il_1, Int32.toInt_ofNat_of_lt (by omega)]
        omega
      rw [e79] at ey
      exact rest d0 (some d0) (by omega) hmd ey
end UN
