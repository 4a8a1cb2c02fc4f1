/-! calls on an engine that has explored: doubt, and two of count -/
section XCD
variable {G : hg_E} {S : hg_S} {M : md_S} {o t oA cnt pa ins : Nat} {bA : Nat → Nat} {nn f st en rn la p1 p2 b : Int32} {tn pg rc hd sh : Value} {q : rsT}
/-- the nearest state without a reaction among those before k, and its first inputs -/
def dbO (M : md_S) (W k : Nat) (x y : Int32) : Prop := (x = -1 ∧ ∀ j i, j < k → i < W → ¬ M.2.1 92 (16 * j + i) = -1) ∨ ∃ d e, d < k ∧ e < W ∧ x = Int32.ofNat d ∧ y = Int32.ofNat e ∧ M.2.1 92 (16 * d + e) = -1 ∧ (∀ i, i < e → ¬ M.2.1 92 (16 * d + i) = -1) ∧ ∀ j i, j < k → i < W → M.2.1 92 (16 * j + i) = -1 → (M.2.1 89 d).toInt < (M.2.1 89 j).toInt ∨ ((M.2.1 89 d).toInt = (M.2.1 89 j).toInt ∧ (M.2.1 88 d).toInt ≤ (M.2.1 88 j).toInt)
/-- a row under way: inputs from m on are looked at -/
def dbI (M : md_S) (W k m : Nat) (x0 y0 x y : Int32) : Prop :=
  ((x = x0 ∧ y = y0) ∧ ((∀ i, m ≤ i → i < W → ¬ M.2.1 92 (16 * k + i) = -1) ∨ ¬ (x0 = -1 ∨ (M.2.1 89 k = M.2.1 89 x0.toInt.toNat ∧ M.2.1 88 k < M.2.1 88 x0.toInt.toNat)))) ∨
  ((x0 = -1 ∨ (M.2.1 89 k = M.2.1 89 x0.toInt.toNat ∧ M.2.1 88 k < M.2.1 88 x0.toInt.toNat)) ∧ x = Int32.ofNat k ∧ ∃ e, m ≤ e ∧ e < W ∧ y = Int32.ofNat e ∧ M.2.1 92 (16 * k + e) = -1 ∧ ∀ i, m ≤ i → i < e → ¬ M.2.1 92 (16 * k + i) = -1)
theorem dn_1 {w : Int32} {i : Nat} (e : w = Int32.ofNat i) (h : i ≤ 1000) : (w + (-1)).toInt = (i : Int) - 1 := by
  rw [e, a_add, Int32.toInt_ofNat_of_lt (by omega), il_m1]
  omega
theorem db_row {W k : Nat} {x0 y0 x y : Int32} (hk : k < 257) (mono : ∀ i j, i ≤ j → j ≤ k → (M.2.1 89 i).toInt ≤ (M.2.1 89 j).toInt) (h0 : dbO M W k x0 y0) (h : dbI M W k 0 x0 y0 x y) : dbO M W (k + 1) x y := by
  rcases h with ⟨⟨e1, e2⟩, h⟩ | ⟨hb, e1, e, m1, m2, m3, m4, m5⟩
  · rw [e1, e2]
    rcases h0 with ⟨z1, z2⟩ | ⟨d, e, d1, d2, d3, d4, d5, d6, d7⟩
    · rcases h with h | h
      · refine Or.inl ⟨z1, fun j i hj hi => ?_⟩
        by_cases c : j = k
        · rw [c]; exact h i (Nat.zero_le _) hi
        · exact z2 j i (by omega) hi
      · exact absurd (Or.inl z1) h
    · refine Or.inr ⟨d, e, by omega, d2, d3, d4, d5, d6, fun j i hj hi hz => ?_⟩
      by_cases c : j = k
      · rw [c] at hz ⊢
        rcases h with h | h
        · exact absurd hz (h i (Nat.zero_le _) hi)
        · have td : (Int32.ofNat d).toInt.toNat = d := by rw [Int32.toInt_ofNat_of_lt (by omega)]; omega
          rw [d3, td] at h
          have mo := mono d k (by omega) (Nat.le_refl _)
          by_cases c2 : (M.2.1 89 d).toInt = (M.2.1 89 k).toInt
          · right
            refine ⟨c2, ?_⟩
            apply Classical.byContradiction
            intro c3
            exact h (Or.inr ⟨(i_eq.mpr c2).symm, i_lt.mpr (by omega)⟩)
          · left; omega
      · exact d7 j i (by omega) hi hz
  · refine Or.inr ⟨k, e, by omega, m2, e1, m3, m4, fun i hi => m5 i (Nat.zero_le _) hi, fun j i hj hi hz => ?_⟩
    by_cases c : j = k
    · rw [c]; exact Or.inr ⟨rfl, Int.le_refl _⟩
    · rcases h0 with ⟨z1, z2⟩ | ⟨d, e', d1, d2, d3, d4, d5, d6, d7⟩
      · exact absurd hz (z2 j i (by omega) hi)
      · have td : (Int32.ofNat d).toInt.toNat = d := by rw [Int32.toInt_ofNat_of_lt (by omega)]; omega
        rcases hb with hb | ⟨hb1, hb2⟩
        · rw [d3] at hb
          exact absurd hb (nk_1 (by omega))
        · rw [d3, td] at hb1 hb2
          have hb1 := i_eq.mp hb1
          have hb2 := i_lt.mp hb2
          have := d7 j i (by omega) hi hz
          omega
theorem db_r (h : EXa G S M oA bA q cnt pa ins) (h85 : M.1 85 = 1) {r : md_S × Int32} (hq : mm_doubt M p1 = some r) : ∃ x y, dbO M (2 ^ ins) cnt x y ∧ mm_doubt_L148 (md_i M 0 0) p1 x y = some r := by
  obtain ⟨-, ⟨hS, -, hD⟩, ⟨-, h45, i4, -⟩, -⟩ := h
  have c257 := hS.1.2.2
  obtain ⟨sh1, sh2, sh3⟩ := sh_ins ins i4
  have tc : (Int32.ofNat cnt).toInt = (cnt : Int) := Int32.toInt_ofNat_of_lt (by omega)
  have e45 : (md_i M 0 0).1 45 = Int32.ofNat ins := by rw [md_i1, if_neg (by decide)]; exact h45
  have e87 : (md_i M 0 0).1 87 = Int32.ofNat cnt := by rw [md_i1, if_neg (by decide)]; exact hS.1.2.1
  have e85 : ¬ (md_i M 0 0).1 85 = 0 := by rw [md_i1, if_neg (by decide), h85]; decide
  have w1 : Int32.ofNat (2 ^ ins) - 1 = Int32.ofNat (2 ^ ins - 1) := by
    obtain ⟨w, ew⟩ : ∃ w, 2 ^ ins = w + 1 := ⟨2 ^ ins - 1, by omega⟩
    rw [ew, ← ad_m (by omega), Int32.add_sub_cancel]
    rfl
  have inner : ∀ k x0 y0, k < cnt → dbO M (2 ^ ins) k x0 y0 → dc_pw (mm_doubt_L38 (md_i M 0 0) p1 x0 y0 (Int32.ofNat k) (Int32.ofNat (2 ^ ins - 1))) (fun z => ∃ x y, z = .inl (x, y, Int32.ofNat (k + 1)) ∧ dbO M (2 ^ ins) (k + 1) x y) := by
    intro k x0 y0 hk h0
    have tk : (Int32.ofNat k).toInt = (k : Int) := Int32.toInt_ofNat_of_lt (by omega)
    have tkn : (Int32.ofNat k).toInt.toNat = k := by omega
    have x0k : ¬ x0 = Int32.ofNat k := fun z => by
      rcases h0 with ⟨z1, -⟩ | ⟨d, e, d1, -, d3, -⟩
      · rw [z] at z1; exact nk_1 (by omega) z1
      · rw [d3] at z
        have := ofN_j (by omega) (by omega) z
        omega
    delta mm_doubt_L38
    refine pw_loop (fun (v : Int32 × Int32 × Int32) => ∃ m : Nat, m ≤ 2 ^ ins ∧ v.2.2.toInt = (m : Int) - 1 ∧ dbI M (2 ^ ins) k m x0 y0 v.1 v.2.1) (fun v => dbI M (2 ^ ins) k 0 x0 y0 v.1 v.2) ⟨2 ^ ins, by omega, by
      show (Int32.ofNat (2 ^ ins - 1)).toInt = _
      rw [Int32.toInt_ofNat_of_lt (by omega)]; omega, Or.inl ⟨⟨rfl, rfl⟩, Or.inl (fun i h1 h2 => absurd h1 (by omega))⟩⟩ ?_ (fun v hv => ?_)
    · rintro ⟨x, y, w⟩ ⟨m, m1, ew, hI⟩
      have ew : w.toInt = (m : Int) - 1 := ew
      have hI : dbI M (2 ^ ins) k m x0 y0 x y := hI
      show dc_pw (mm_doubt_b38 (md_i M 0 0) p1 x y (Int32.ofNat k) w) _
      delta mm_doubt_b38
      refine pw_ifc (fun c => ?_) (fun c => ?_)
      · have c := i_lt.mp c
        rw [il_0] at c
        have e0 : m = 0 := by omega
        rw [e0] at hI
        exact pw_some hI
      · have c : ¬ w.toInt < (0 : Int32).toInt := fun z => c (i_lt.mpr z)
        rw [il_0] at c
        obtain ⟨i, ei⟩ : ∃ i, m = i + 1 := ⟨m - 1, by omega⟩
        have ewi : w = Int32.ofNat i := by
          rw [i_eq, ew, Int32.toInt_ofNat_of_lt (by omega)]
          omega
        rw [ei] at hI m1
        have i16 : i ≤ 1000 := by omega
        clear ei ew c
        have fin : ∀ x' y', dbI M (2 ^ ins) k i x0 y0 x' y' → dc_pw (mm_doubt_L136 (md_i M 0 0) p1 x' y' (Int32.ofNat k) w) (Sum.elim (fun (v : Int32 × Int32 × Int32) => ∃ m : Nat, m ≤ 2 ^ ins ∧ v.2.2.toInt = (m : Int) - 1 ∧ dbI M (2 ^ ins) k m x0 y0 v.1 v.2.1) (fun v => dbI M (2 ^ ins) k 0 x0 y0 v.1 v.2)) := by
          intro x' y' hI'
          delta mm_doubt_L136
          exact pw_some ⟨i, Nat.le_of_succ_le m1, dn_1 ewi i16, hI'⟩
        have c1n : ((16 : Int32) * Int32.ofNat k + w).toInt.toNat = 16 * k + i := by rw [ewi, cel_m, Int32.toInt_ofNat_of_lt (by omega)]; omega
        -- not without a reaction
        have quiet : ¬ M.2.1 92 (16 * k + i) = -1 → dbI M (2 ^ ins) k i x0 y0 x y := by
          intro hn
          rcases hI with ⟨e, hI⟩ | ⟨hb, e1, e, k1, k2, k3, k4, k5⟩
          · refine Or.inl ⟨e, hI.imp (fun g j h1 h2 => ?_) id⟩
            by_cases cj : j = i
            · rw [cj]; exact hn
            · exact g j (by omega) h2
          · refine Or.inr ⟨hb, e1, e, by omega, k2, k3, k4, fun j h1 h2 => ?_⟩
            by_cases cj : j = i
            · rw [cj]; exact hn
            · exact k5 j (by omega) h2
        refine pw_ix (fun _ _ => ?_)
        rw [c1n]
        refine pw_ifc (fun d => ?_) (fun d => ?_)
        · have d : M.2.1 92 (16 * k + i) = -1 := d
          -- sooner
          have take : (x0 = -1 ∨ (M.2.1 89 k = M.2.1 89 x0.toInt.toNat ∧ M.2.1 88 k < M.2.1 88 x0.toInt.toNat)) → dc_pw (mm_doubt_L110 (md_i M 0 0) p1 x y (Int32.ofNat k) w 1) (Sum.elim (fun (v : Int32 × Int32 × Int32) => ∃ m : Nat, m ≤ 2 ^ ins ∧ v.2.2.toInt = (m : Int) - 1 ∧ dbI M (2 ^ ins) k m x0 y0 v.1 v.2.1) (fun v => dbI M (2 ^ ins) k 0 x0 y0 v.1 v.2)) := by
            intro hb
            delta mm_doubt_L110 mm_doubt_L115
            rw [if_neg (by decide), if_neg (by decide)]
            exact fin _ _ (Or.inr ⟨hb, rfl, i, Nat.le_refl _, by omega, ewi, d, fun j h1 h2 => absurd h1 (by omega)⟩)
          have leave : (x = x0 ∧ y = y0) → ¬ (x0 = -1 ∨ (M.2.1 89 k = M.2.1 89 x0.toInt.toNat ∧ M.2.1 88 k < M.2.1 88 x0.toInt.toNat)) → dc_pw (mm_doubt_L114 (md_i M 0 0) p1 x y (Int32.ofNat k) w 1) (Sum.elim (fun (v : Int32 × Int32 × Int32) => ∃ m : Nat, m ≤ 2 ^ ins ∧ v.2.2.toInt = (m : Int) - 1 ∧ dbI M (2 ^ ins) k m x0 y0 v.1 v.2.1) (fun v => dbI M (2 ^ ins) k 0 x0 y0 v.1 v.2)) := by
            intro hx hb
            delta mm_doubt_L114 mm_doubt_L115
            rw [if_neg (by decide), if_pos rfl]
            exact fin _ _ (Or.inl ⟨hx, Or.inr hb⟩)
          delta mm_doubt_L65
          rcases hI with ⟨e, -⟩ | ⟨hb, e1, -⟩
          · rw [e.1]
            rw [e.1] at take leave
            refine pw_ifc (fun z => take (Or.inl z)) (fun z => ?_)
            refine pw_ifc (fun z2 => absurd z2 x0k) (fun z2 => ?_)
            refine pw_ix (fun _ _ => ?_)
            refine pw_ix (fun _ _ => ?_)
            rw [tkn]
            refine pw_ifc (fun z3 => ?_) (fun z3 => leave ⟨rfl, e.2⟩ (fun w => w.elim z (fun w => z3 w.1)))
            refine pw_ix (fun _ _ => ?_)
            refine pw_ix (fun _ _ => ?_)
            rw [tkn]
            exact pw_ifc (fun z4 => take (Or.inr ⟨z3, z4⟩)) (fun z4 => leave ⟨rfl, e.2⟩ (fun w => w.elim z (fun w => z4 w.2)))
          · refine pw_ifc (fun z => take hb) (fun z => ?_)
            exact pw_ifc (fun z2 => take hb) (fun z2 => absurd e1 z2)
        · have d : ¬ M.2.1 92 (16 * k + i) = -1 := d
          have n1 : ∀ y0' : Int32, dc_pw (mm_doubt_L115 (md_i M 0 0) p1 x y (Int32.ofNat k) w 0 y0') (Sum.elim (fun (v : Int32 × Int32 × Int32) => ∃ m : Nat, m ≤ 2 ^ ins ∧ v.2.2.toInt = (m : Int) - 1 ∧ dbI M (2 ^ ins) k m x0 y0 v.1 v.2.1) (fun v => dbI M (2 ^ ins) k 0 x0 y0 v.1 v.2)) := by
            intro y0'
            delta mm_doubt_L115
            rw [if_pos rfl]
            exact fin _ _ (quiet d)
          delta mm_doubt_L65 mm_doubt_L110 mm_doubt_L114
          refine pw_ifc (fun _ => n1 _) (fun _ => ?_)
          refine pw_ifc (fun _ => n1 _) (fun _ => ?_)
          refine pw_ix (fun _ _ => ?_)
          refine pw_ix (fun _ _ => ?_)
          refine pw_ifc (fun _ => ?_) (fun _ => n1 _)
          refine pw_ix (fun _ _ => ?_)
          refine pw_ix (fun _ _ => ?_)
          exact pw_ifc (fun _ => n1 _) (fun _ => n1 _)
    · delta mm_doubt_L142
      exact pw_some ⟨v.1, v.2, by rw [ad_m (by omega)], db_row (by omega) (fun i j h1 h2 => hD.2.2.1.1 i j h1 (by omega)) h0 hv⟩
  have key : dc_pw (mm_doubt M p1) (fun r => ∃ x y, dbO M (2 ^ ins) cnt x y ∧ mm_doubt_L148 (md_i M 0 0) p1 x y = some r) := by
    delta mm_doubt mm_doubt_L12
    refine pw_loop (fun (v : Int32 × Int32 × Int32) => ∃ k, v.2.2 = Int32.ofNat k ∧ k ≤ cnt ∧ dbO M (2 ^ ins) k v.1 v.2.1) (fun v => dbO M (2 ^ ins) cnt v.1 v.2) ⟨0, rfl, by omega, Or.inl ⟨rfl, fun j i hj => absurd hj (by omega)⟩⟩ ?_ (fun v hv r hr => ⟨v.1, v.2, hv, hr⟩)
    rintro ⟨x, y, w⟩ ⟨k, ew, k1, hO⟩
    have ew : w = Int32.ofNat k := ew
    have hO : dbO M (2 ^ ins) k x y := hO
    subst ew
    have tk : (Int32.ofNat k).toInt = (k : Int) := Int32.toInt_ofNat_of_lt (by omega)
    show dc_pw (mm_doubt_b12 (md_i M 0 0) p1 x y (Int32.ofNat k)) _
    delta mm_doubt_b12
    rw [e87, e45, sh1, w1]
    refine pw_ifc (fun c => ?_) (fun c => ?_)
    · have c := i_lt.mp c
      rw [tk, tc] at c
      rw [if_neg e85]
      intro z hz0
      obtain ⟨x', y', ez, hO'⟩ := inner k x y (by omega) hO z hz0
      rw [ez]
      exact ⟨k + 1, rfl, by omega, hO'⟩
    · have c : ¬ (Int32.ofNat k).toInt < (Int32.ofNat cnt).toInt := fun z => c (i_lt.mpr z)
      rw [tk, tc] at c
      have ek : k = cnt := by omega
      rw [ek] at hO
      exact pw_some hO
  exact key r hq
theorem xd_doubt (he : hg_at S.1 o = some (.inr (0, enL t nn f pg rc hd sh st en rn (.ref oA) tn 1 la))) (h : EXa G S M oA bA q cnt pa ins) (h0 : hw S) (h85 : M.1 85 = 1) {r : md_S × Int32} (hq : mm_doubt M p1 = some r) : r.1 = md_i M 0 0 ∧ dc_wp (hm_SE_doubt G S o p1) (fun v => v = r.2) := by
  have aw := EXa_w h0 h
  obtain ⟨x, y, hO, hq⟩ := db_r h h85 hq
  obtain ⟨hat, ⟨hS, -, hD⟩, ⟨-, -, i4, -⟩, -⟩ := h
  have c257 := hS.1.2.2
  have hDd := hD.2.1
  delta mm_doubt_L148 mm_doubt_L194 at hq
  delta hm_SE_doubt hm_SE_doubt_L18
  rcases hO with ⟨z1, z2⟩ | ⟨d, e, d1, d2, d3, d4, d5, d6, d7⟩
  · rw [if_pos z1] at hq
    have er : r = (md_i M 0 0, -1) := (Option.some.inj hq).symm
    have q13 : q.2 13 = -1 := by
      rcases hDd with ⟨g, -⟩ | ⟨d', e', g1, g2, -⟩
      · exact g
      · have g3 := g2.1
        exact absurd g2.2 (z2 d' e' (by omega) (by omega))
    refine ⟨by rw [er], ?_⟩
    refine wq_gi (x := 1) he rfl ?_
    rw [if_neg (by decide)]
    refine wq_gr (x := some oA) he rfl ?_
    refine wq_gi (x := q.2 13) hat.1.1 rfl ?_
    rw [if_pos q13]
    exact ⟨_, rfl, by rw [er]⟩
  · have cls : q.2 13 = M.2.1 88 d ∧ q.2 14 = Int32.ofNat e := by
      rcases hDd with ⟨-, g⟩ | ⟨d', e', g1, g2, g3, g4, g5, g6⟩
      · exact absurd ⟨Or.inl ⟨d1, d2⟩, d5⟩ (g d e)
      · have g7 := g2.1
        have a1 := g6 d e ⟨Or.inl ⟨d1, d2⟩, d5⟩
        have a2 := d7 d' e' (by omega) (by omega) g2.2
        have es : M.2.1 88 d' = M.2.1 88 d := i_eq.mpr (by omega)
        have ed := hS.2.2.2.1 d' d g1 d1 es
        subst ed
        have ee : e' = e := by
          have b1 : ¬ e' < e := fun z => d6 e' z g2.2
          have b2 : ¬ e < e' := fun z => g5 e z d5
          omega
        rw [g3, g4, ee]
        exact ⟨rfl, rfl⟩
    have n13 : ¬ q.2 13 = -1 := fun z => by
      have := (hS.2.1 d d1).1.1
      rw [← cls.1, z] at this
      exact absurd this (by decide)
    have td : (Int32.ofNat d).toInt.toNat = d := tj_n d1 c257
    rw [if_neg (by rw [d3]; exact nj_1 d1 c257), d3, d4] at hq
    have sr := (hS.2.1 d d1).1
    have go : ∀ Φ : Int32 → Prop, dc_wp (dc_let (p1 : Int32) fun v4 => if v4 = 0 then ((hg_gr S (some o) 0 10).bind fun e5 => (hg_gr S e5 11 2).bind fun e6 => (hg_gr S (some o) 0 10).bind fun e7 => (hg_gi S e7 11 13).bind fun e8 => (hg_ld S e6 (G.1 0) e8).bind fun e9 => some e9) else if v4 = 1 then ((hg_gr S (some o) 0 10).bind fun e11 => (hg_gi S e11 11 13).bind fun e12 => some e12) else if v4 = 2 then ((hg_gr S (some o) 0 10).bind fun e14 => (hg_gi S e14 11 14).bind fun e15 => some e15) else (some (-1))) Φ → dc_wp ((hg_gi S (some o) 0 12).bind fun e1 => if e1 = 0 then some (-1) else ((hg_gr S (some o) 0 10).bind fun e2 => (hg_gi S e2 11 13).bind fun e3 => if e3 = (-1) then some (-1) else (dc_let (p1 : Int32) fun v4 => if v4 = 0 then ((hg_gr S (some o) 0 10).bind fun e5 => (hg_gr S e5 11 2).bind fun e6 => (hg_gr S (some o) 0 10).bind fun e7 => (hg_gi S e7 11 13).bind fun e8 => (hg_ld S e6 (G.1 0) e8).bind fun e9 => some e9) else if v4 = 1 then ((hg_gr S (some o) 0 10).bind fun e11 => (hg_gi S e11 11 13).bind fun e12 => some e12) else if v4 = 2 then ((hg_gr S (some o) 0 10).bind fun e14 => (hg_gi S e14 11 14).bind fun e15 => some e15) else (some (-1))))) Φ := by
      intro Φ k
      refine wq_gi (x := 1) he rfl ?_
      rw [if_neg (by decide)]
      refine wq_gr (x := some oA) he rfl ?_
      refine wq_gi (x := q.2 13) hat.1.1 rfl ?_
      rw [if_neg n13]
      exact k
    rcases iv_if hq with ⟨a0, hq⟩ | ⟨a0, hq⟩
    · obtain ⟨-, -, hq⟩ := iv_ix hq
      rw [td] at hq
      have er : r = (md_i M 0 0, M.2.1 89 d) := (Option.some.inj hq).symm
      refine ⟨by rw [er], go _ ?_⟩
      refine wq_let (fun v ev => ?_)
      subst ev
      rw [if_pos a0]
      refine wq_gr (x := some oA) he rfl ?_
      refine aw_g aw (i := 2) (by decide) ?_
      refine wq_gr (x := some oA) he rfl ?_
      refine wq_gi (x := q.2 13) hat.1.1 rfl ?_
      rw [cls.1]
      refine aw_l aw (i := 2) (by decide) sr.1 (by show (M.2.1 88 d).toInt < ((257 : Nat) : Int); exact sr.2) ?_
      exact ⟨_, rfl, by rw [er, (hS.2.1 d d1).2.2.2.1]⟩
    rcases iv_if hq with ⟨a1, hq⟩ | ⟨a1, hq⟩
    · obtain ⟨-, -, hq⟩ := iv_ix hq
      rw [td] at hq
      have er : r = (md_i M 0 0, M.2.1 88 d) := (Option.some.inj hq).symm
      refine ⟨by rw [er], go _ ?_⟩
      refine wq_let (fun v ev => ?_)
      subst ev
      rw [if_neg a0, if_pos a1]
      refine wq_gr (x := some oA) he rfl ?_
      refine wq_gi (x := q.2 13) hat.1.1 rfl ?_
      exact ⟨_, rfl, by rw [er, cls.1]⟩
    rcases iv_if hq with ⟨a2, hq⟩ | ⟨a2, hq⟩
    · have er : r = (md_i M 0 0, Int32.ofNat e) := (Option.some.inj hq).symm
      refine ⟨by rw [er], go _ ?_⟩
      refine wq_let (fun v ev => ?_)
      subst ev
      rw [if_neg a0, if_neg a1, if_pos a2]
      refine wq_gr (x := some oA) he rfl ?_
      refine wq_gi (x := q.2 14) hat.1.1 rfl ?_
      exact ⟨_, rfl, by rw [er, cls.2]⟩
    · have er : r = (md_i M 0 0, -1) := (Option.some.inj hq).symm
      refine ⟨by rw [er], go _ ?_⟩
      refine wq_let (fun v ev => ?_)
      subst ev
      rw [if_neg a0, if_neg a1, if_neg a2]
      exact ⟨_, rfl, by rw [er]⟩
end XCD
