/-! explore: a step of both sides, with all that stays -/
/-- what exploring may change of the reference -/
def mdX (M M' : md_S) : Prop := (∀ i, ¬ ((77 ≤ i ∧ i ≤ 81) ∨ i = 87) → M'.1 i = M.1 i) ∧ ∀ i, ¬ (i = 67 ∨ (70 ≤ i ∧ i ≤ 76) ∨ (88 ≤ i ∧ i ≤ 93)) → M'.2.1 i = M.2.1 i
theorem mdX_E {M M' : md_S} (h : mdX M M') : mdE M M' := ⟨fun i h1 h2 => h.1 i (by omega), fun i hi => h.2 i (by omega)⟩
theorem mdX_tr {M M' M'' : md_S} (h : mdX M M') (g : mdX M' M'') : mdX M M'' := ⟨fun i hi => (g.1 i hi).trans (h.1 i hi), fun i hi => (g.2 i hi).trans (h.2 i hi)⟩
theorem mdX_p {M P : md_S} {x : Int32} (h : mm_place M x = some P) : mdX M P ∧ (P.1 87 = M.1 87 ∧ ∀ i, 88 ≤ i → i ≤ 93 → P.2.1 i = M.2.1 i) := by
  obtain ⟨p1, -, p3, -⟩ := place_r h
  exact ⟨⟨fun i hi => p1 i (by omega), fun i hi => p3 i (by omega)⟩, p1 87 (by omega), fun i h1 h2 => p3 i (by omega)⟩
theorem mdX_r {M P : md_S} (h : rxF M P) : mdX M P ∧ (P.1 87 = M.1 87 ∧ ∀ i, 88 ≤ i → i ≤ 93 → P.2.1 i = M.2.1 i) := ⟨⟨fun i hi => h.1 i (by omega), fun i hi => h.2 i (by omega)⟩, h.1 87 (by omega), fun i h1 h2 => h.2 i (by omega)⟩
theorem mdX_a {M Z : md_S} {a x2 x3 : Int32} {cnt cl ins out pa : Nat} (h : ansO M Z a x2 x3 cnt cl ins out pa) : mdX M Z ∧ Z.2.1 70 = M.2.1 70 := by
  rcases h with ⟨-, r, hm, g1, g2, -, -⟩ | ⟨-, g1, g2, -, -⟩
  · have k : mdX M r ∧ r.2.1 70 = M.2.1 70 := by
      rcases hm with ⟨-, e⟩ | ⟨-, -, r1, -, rr, -⟩
      · rw [e]; exact ⟨⟨fun _ _ => rfl, fun _ _ => rfl⟩, rfl⟩
      · exact ⟨⟨fun i hi => r1 i (by omega), fun i hi => rr i (by omega)⟩, rr 70 (by omega)⟩
    exact ⟨mdX_tr k.1 ⟨fun i _ => by rw [g1], fun i hi => g2 i (by omega) (by omega)⟩, (g2 70 (by omega) (by omega)).trans k.2⟩
  · exact ⟨⟨fun i _ => by rw [g1], fun i hi => g2 i (by omega) (by omega)⟩, g2 70 (by omega) (by omega)⟩
section STP
variable {G : hg_E} {S0 S : hg_S} {M0 M : md_S} {T : tT} {t0 u n ps sg io pa hA o ins out W cnt J I : Nat} {b : Nat → Nat} {R : Nat → Nat → Int32} {c : Nat → Int32} {F3 : Nat → Int32} {q : rsT} {hf : Nat → Int32}
/-- where the atlas and the held array lie -/
def xpL (t0 u hA o : Nat) (b : Nat → Nat) : Prop := t0 ≤ u ∧ (o < t0 ∨ u + 32 ≤ o) ∧ (∀ i, i < 8 → b i < t0 ∨ u + 32 ≤ b i) ∧ u + 32 ≤ hA ∧ hA ≠ o ∧ ∀ i, i < 8 → hA ≠ b i
/-- the program as it was when exploring began -/
def xpP (G : hg_E) (S0 : hg_S) (M0 : md_S) (t0 u n ps sg io pa ins out : Nat) (R : Nat → Nat → Int32) (c : Nat → Int32) (T : tT) (F3 : Nat → Int32) : Prop := (pgS G S0 M0 t0 u n ps sg io pa R c ∧ pgT M0 T n ps ∧ pgB M0 n) ∧ plP (R 0) (R 4) (R 7) io n F3 ∧ (M0.1 45 = Int32.ofNat ins ∧ M0.1 46 = Int32.ofNat out ∧ ins ≤ 4 ∧ out ≤ 31 ∧ ins + out = io ∧ pa ≤ 8)
/-- explore under way -/
def xpW (G : hg_E) (S0 : hg_S) (M0 : md_S) (u n ps sg io pa hA o : Nat) (b : Nat → Nat) (R : Nat → Nat → Int32) (F3 : Nat → Int32) (S : hg_S) (M : md_S) (q : rsT) : Prop :=
  (hw S ∧ S.2 = S0.2) ∧ AW G (S, o, b) S q ∧ (∀ e, e ≠ o → (∀ i, i < 8 → e ≠ b i) → ¬ (u + 18 ≤ e ∧ e < u + 30) → e ≠ hA → hg_at S.1 e = hg_at S0.1 e) ∧ (∃ X cn, REv G S (u + 18) u (reB (u + 19)) (reN sg (plc (R 0) (R 7) io n) ps n pa) X cn ∧ X 3 = F3 ∧ reP F3 io (X, cn)) ∧ mdX M0 M ∧ ∀ i, v3 (M.2.1 70 i)
theorem stp_w {x5 r1 : Int32} {z : (md_S × Int32) ⊕ md_S} (hL : xpL t0 u hA o b) (hP : xpP G S0 M0 t0 u n ps sg io pa ins out R c T F3) (hX : xpW G S0 M0 u n ps sg io pa hA o b R F3 S M q) (hS : axS q M cnt pa) (hC : axC q M J I W) (hD : axD q M cnt J I W) (hJ : J < cnt) (hI : I < W) (hW : W ≤ 16) (h8 : q.2 8 = Int32.ofNat W) (hh : hg_at S.1 hA = some (.inl (G.1 2, pa, .inl hf))) (hb : ∀ p, p < pa → hf p = if inB (M.2.1 88 J) p = 0 then 0 else 1) (hz : mm_explore_b149 M r1 (Int32.ofNat J) (Int32.ofNat I) = some z) (hI2 : Int32.ofNat I < ((1 : Int32) <<< ((M.1 45) &&& (31 : Int32)))) : dc_wp (hm_AT_tryAll_b45 G S o (M.2.1 88 J) (some u) (some (u + 18)) (some hA) x5 (Int32.ofNat I)) (fun y => ∃ S' M' q' cnt', y = .inl (S', Int32.ofNat (I + 1)) ∧ z = .inl (M', Int32.ofNat (I + 1)) ∧ xpW G S0 M0 u n ps sg io pa hA o b R F3 S' M' q' ∧ cnt ≤ cnt' ∧ axS q' M' cnt' pa ∧ axC q' M' J (I + 1) W ∧ axD q' M' cnt' J (I + 1) W ∧ q'.2 8 = q.2 8 ∧ hg_at S'.1 hA = some (.inl (G.1 2, pa, .inl hf)) ∧ M'.2.1 88 J = M.2.1 88 J ∧ ∀ k, ¬ k = 16 * J + I → M'.2.1 92 k = M.2.1 92 k) := by
  obtain ⟨l1, l2, l3, l4, l5, l6⟩ := hL
  obtain ⟨⟨p1, p2, p3⟩, p4, e45, e46, i4, o31, eio, pa8⟩ := hP
  obtain ⟨⟨x1, x2⟩, x3, x4, ⟨X, cn, x5', x6', x7⟩, x8, x9⟩ := hX
  have c257 := hS.1.2.2
  obtain ⟨sr, sb, -, -, -, -⟩ := hS.2.1 J hJ
  have tJ : (Int32.ofNat J).toInt.toNat = J := by rw [Int32.toInt_ofNat_of_lt (by omega)]; omega
  have tI : (Int32.ofNat I).toInt = (I : Int) := Int32.toInt_ofNat_of_lt (by omega)
  have tW : (Int32.ofNat W).toInt = (W : Int) := Int32.toInt_ofNat_of_lt (by omega)
  rcases x149_r hz with ⟨-, -, P, hp, Rr, hr, h188⟩ | ⟨no, -⟩
  case inr => exact absurd hI2 no
  rw [tJ] at hp
  have mE := mdX_E x8
  have cells : ∀ e, t0 ≤ e → e < u + 18 → hg_at S.1 e = hg_at S0.1 e := fun e h1 h2 => x4 e (by omega) (fun i hi => by have := l3 i hi; omega) (by omega) (by omega)
  have q1 := pgS_c p1 mE cells l1
  have q2 := pgT_c p2 mE
  have q3 := pgB_c p3 mE
  rw [← x6'] at x7 p4
  -- both react
  have both : ∀ y : Int32, ((M.2.1 88 J = 256 ∧ y = 0) ∨ (¬ M.2.1 88 J = 256 ∧ y = 1)) → dc_wp (hm_AT_tryAll_L69 G S o (M.2.1 88 J) (some u) (some (u + 18)) (some hA) x5 (Int32.ofNat I) y (Int32.ofNat I) (some (u + 18))) (fun y => ∃ S' M' q' cnt', y = .inl (S', Int32.ofNat (I + 1)) ∧ z = .inl (M', Int32.ofNat (I + 1)) ∧ xpW G S0 M0 u n ps sg io pa hA o b R F3 S' M' q' ∧ cnt ≤ cnt' ∧ axS q' M' cnt' pa ∧ axC q' M' J (I + 1) W ∧ axD q' M' cnt' J (I + 1) W ∧ q'.2 8 = q.2 8 ∧ hg_at S'.1 hA = some (.inl (G.1 2, pa, .inl hf)) ∧ M'.2.1 88 J = M.2.1 88 J ∧ ∀ k, ¬ k = 16 * J + I → M'.2.1 92 k = M.2.1 92 k) := by
    intro y hy
    rw [t69_e]
    refine wq_chk x5'.1 ?_
    refine wq_call (xre_w (y := y) x1 q1 q2 q3 x5' p4 x7 x9 l1 (by omega) hh hb pa8 (by
      rcases sb with e | e
      · exact Or.inl e
      · by_cases c : M.2.1 88 J = 256
        · exact Or.inl c
        · exact Or.inr ⟨c, e.1⟩) hy hp hr) ?_
    rintro ⟨S1, a⟩ ⟨X', cn', ins', ⟨g1, g2⟩, g3, g4, g5, ⟨g6, g7⟩, g8, g9⟩
    have g1 : hw S1 := g1
    have g2 : S1.2 = S.2 := g2
    have g3 : ∀ b, ¬ (u + 18 ≤ b ∧ b < u + 30) → hg_at S1.1 b = hg_at S.1 b := g3
    have g4 : REv G S1 (u + 18) u (reB (u + 19)) (reN sg (plc (R 0) (R 7) io n) ps n pa) X' cn' := g4
    have g5 : reO P (X 3) ins' io pa Rr (X', cn') a := g5
    have ei : ins' = ins := by
      have t1 : (Int32.ofNat ins').toInt = (ins' : Int) := Int32.toInt_ofNat_of_lt (by omega)
      have t2 : (Int32.ofNat ins).toInt = (ins : Int) := Int32.toInt_ofNat_of_lt (by omega)
      rw [← g6, mE.1 45 (by omega) (by omega), e45, t2] at t1
      omega
    rw [ei] at g5
    -- the reference behind react
    obtain ⟨mp, mp7, mpr⟩ := mdX_p hp
    obtain ⟨mr, mr7, mrr⟩ := mdX_r g8
    have mx : mdX M0 Rr.1 := mdX_tr x8 (mdX_tr mp mr)
    have k87 : Rr.1.1 87 = M.1 87 := mr7.trans mp7
    have krr : ∀ i, 88 ≤ i → i ≤ 93 → Rr.1.2.1 i = M.2.1 i := fun i h1 h2 => (mrr i h1 h2).trans (mpr i h1 h2)
    have hS' : axS q Rr.1 cnt pa := axS_k hS (fun _ _ _ => rfl) rfl k87 (fun i h1 h2 => krr i h1 (by omega))
    have k46 : Rr.1.1 46 = M.1 46 := by rw [mx.1 46 (by omega), x8.1 46 (by omega)]
    have hC' : axC q Rr.1 J I W := by
      unfold axC
      rw [krr 88 (by omega) (by omega), krr 92 (by omega) (by omega), krr 93 (by omega) (by omega), k46]
      exact hC
    have hD' : axD q Rr.1 cnt J I W := by
      unfold axD dsO
      rw [krr 88 (by omega) (by omega), krr 89 (by omega) (by omega), krr 90 (by omega) (by omega), krr 92 (by omega) (by omega)]
      exact hD
    have r47 : Rr.1.1 47 = Int32.ofNat pa := by rw [mx.1 47 (by omega)]; exact p1.2.2.1.2.2.2.2.2.2.2.2.2
    have cl1 : (16 : Int32) * Int32.ofNat J + Int32.ofNat I = Int32.ofNat (16 * J + I) := by rw [show (16 : Int32) = Int32.ofNat 16 from rfl, ← Int32.ofNat_mul, ← Int32.ofNat_add]
    obtain ⟨Z, ez, hA'⟩ := x188_r (out := out) (ins := ins) (cl := 16 * J + I) (by omega) r47 c257 (k87.trans hS.1.2.1) o31 (by rw [mx.1 45 (by omega)]; exact e45) (by omega) (by rw [mx.1 46 (by omega)]; exact e46) cl1 (by omega) rfl h188
    -- the class behind react
    obtain ⟨oP, oA, oK, oR⟩ := g5
    have oA : (a = 2 ∧ Rr.2 = -1) ∨ (a = 1 ∧ Rr.2 = 0) ∨ (a = 0 ∧ Rr.2 = 1) := oA
    have no1 : ∀ e, (e < t0 ∨ u + 32 ≤ e) → hg_at S1.1 e = hg_at S.1 e := fun e he => g3 e (by omega)
    have aw1 : AW G (S1, o, b) S1 q := AW_o x3 g1 (no1 o l2) (fun i hi => no1 (b i) (l3 i hi))
    obtain ⟨nm, -, hpg, -, -⟩ := q1.1
    have hu1 : hg_at S1.1 u = hg_at S.1 u := g3 u (by omega)
    have ce := p1.2.2.1
    have c1 : c 1 = Int32.ofNat ins := ce.2.2.2.1.trans e45
    have c2 : c 2 = Int32.ofNat out := ce.2.2.2.2.1.trans e46
    have c3 : c 3 = Int32.ofNat pa := ce.2.2.2.2.2.1.trans ce.2.2.2.2.2.2.2.2.2
    have dr : q.2 13 = -1 ∨ (0 ≤ (q.2 13).toInt ∧ (q.2 13).toInt < 257) := by
      rcases hD.2.1 with ⟨e, -⟩ | ⟨d, e, d1, -, d3, -⟩
      · exact Or.inl e
      · rw [d3]; exact Or.inr (hS.2.1 d d1).1
    have k1 := g4.2 1 (by omega) (by omega)
    have k11 := g4.2 11 (by omega) (by omega)
    rw [if_neg (by omega)] at k1
    rw [if_pos (by omega)] at k11
    have n1 : reN sg (plc (R 0) (R 7) io n) ps n pa 1 = plc (R 0) (R 7) io n := if_pos (by omega)
    have n11 : reN sg (plc (R 0) (R 7) io n) ps n pa 11 = pa := by
      unfold reN
      rw [if_neg (by omega), if_neg (by omega), if_neg (by omega), if_neg (by omega), if_neg (by omega)]
    rw [n1] at k1
    rw [n11] at k11
    have pl : io ≤ plc (R 0) (R 7) io n := plc_le (kd := R 0) (wt := R 7) (io := io) (Nat.zero_le n)
    have io62 := p1.2.2.2.1.2.2.2.1
    have thE : a = 0 → oB (thB (X' 11)) pa = oB (thB (Rr.1.2.1 75)) pa := fun e => by
      have e1 : Rr.2 = 1 := by
        rcases oA with ⟨z, -⟩ | ⟨z, -⟩ | ⟨-, z⟩
        · rw [e] at z; exact absurd z (by decide)
        · rw [e] at z; exact absurd z (by decide)
        · exact z
      refine oB_g pa (fun p hp => ?_)
      have w := ((oR (by rw [e1]; decide)).2.1 p hp).1
      have w1 : (¬ X' 11 p = 0) ↔ Rr.1.2.1 75 p = 1 := w.1
      constructor
      · intro v
        rcases w.2 with v2 | v2
        · exact v2
        · exact absurd v (w1.mpr v2)
      · intro v
        apply Classical.byContradiction
        intro v2
        rw [w1.mp v2] at v
        exact absurd v (by decide)
    have thR : (0 ≤ (oB (thB (X' 11)) pa).toInt ∧ (oB (thB (X' 11)) pa).toInt < 257) := by
      have := (oB_b (σ := X' 11) pa8).1
      omega
    have st : (M.2.1 88 J).toInt.toNat < 257 := by omega
    have sx : M.2.1 88 J = Int32.ofNat (M.2.1 88 J).toInt.toNat := by
      have t : (Int32.ofNat (M.2.1 88 J).toInt.toNat).toInt = ((M.2.1 88 J).toInt.toNat : Int) := Int32.toInt_ofNat_of_lt (by omega)
      rw [i_eq, t]
      omega
    have cl2 : M.2.1 88 J * 16 + Int32.ofNat I = Int32.ofNat (16 * (M.2.1 88 J).toInt.toNat + I) := by
      have e : M.2.1 88 J * 16 = Int32.ofNat (16 * (M.2.1 88 J).toInt.toNat) := by
        rw [Int32.ofNat_mul, ← sx, Int32.mul_comm]
        rfl
      rw [e, ← Int32.ofNat_add]
    have key := t69_w (a := a) (x5 := x5) (x4 := some hA) (x1 := M.2.1 88 J) (x6 := Int32.ofNat I) (cl := 16 * (M.2.1 88 J).toInt.toNat + I) (pg := u) (rc := u + 18) (kA := reB (u + 19) 1) (cA := reB (u + 19) 11) (ins := ins) (out := out) (pa := pa) (L := plc (R 0) (R 7) io n) (kf := X' 1) (cf := X' 11) aw1 cl2 (by omega) sr dr (hu1.trans hpg) (by rw [← c1]; rfl) (by rw [← c2]; rfl) (by rw [← c3]; rfl) g4.1 rfl rfl k1 k11 ⟨by omega, by omega, pa8⟩ (fun _ => thR) (fun e no => by
      have e1 : Rr.2 = 1 := by
        rcases oA with ⟨z, -⟩ | ⟨z, -⟩ | ⟨-, z⟩
        · rw [e] at z; exact absurd z (by decide)
        · rw [e] at z; exact absurd z (by decide)
        · exact z
      have t9 : (q.2 9).toInt = (cnt : Int) := by rw [hS.1.1]; exact Int32.toInt_ofNat_of_lt (by omega)
      rcases hA' with ⟨-, r, hm, -⟩ | ⟨w, -⟩
      · rcases hm with ⟨⟨j, j1, j2⟩, -⟩ | ⟨-, lt, -⟩
        · rw [thE e] at no thR
          exact absurd ((axS_r hS' thR).mpr ⟨j, j1, j2⟩) no
        · omega
      · exact absurd e1 w)
    refine wq_w key ?_
    rintro y ⟨S2, q', ey, aw2, hT⟩
    have aw2 : AW G (S1, o, b) S2 q' := aw2
    rw [← krr 88 (by omega) (by omega)] at hT
    have hsh : ¬ a = 2 → oB (shB (X' 1) ins) out = oB (psB (Rr.1.2.1 70) ins) out := fun e => by
      have e1 : ¬ Rr.2 = -1 := by
        rcases oA with ⟨z, -⟩ | ⟨-, z⟩ | ⟨-, z⟩
        · exact absurd z e
        · rw [z]; decide
        · rw [z]; decide
      refine oB_s out (fun p hp => ?_)
      have w1 : X' 1 (ins + p) = Rr.1.2.1 70 (ins + p) := oK (ins + p) (by omega)
      have w2 := (oR e1).1 (ins + p) (by omega) (by omega)
      refine ⟨w1, ?_⟩
      rcases g9 (ins + p) with v | v | v
      · exact Or.inl v
      · exact Or.inr v
      · exact absurd v w2
    have hth : a = 0 → oB (thB (X' 11)) pa = oB (thB (Rr.1.2.1 75)) pa ∧ (0 ≤ (oB (thB (X' 11)) pa).toInt ∧ (oB (thB (X' 11)) pa).toInt < 257) ∧ ((∃ p, p < pa ∧ ¬ inB (oB (thB (X' 11)) pa) p = 0) ∧ ∀ k, pa ≤ k → gb (oB (thB (X' 11)) pa) k = false) := fun e => by
      have e1 : Rr.2 = 1 := by
        rcases oA with ⟨z, -⟩ | ⟨z, -⟩ | ⟨-, z⟩
        · rw [e] at z; exact absurd z (by decide)
        · rw [e] at z; exact absurd z (by decide)
        · exact z
      obtain ⟨p, hp, w⟩ := (oR (by rw [e1]; decide)).2.2 e1
      exact ⟨thE e, thR, ⟨p, hp, ((oB_b (σ := X' 11) pa8).2 p hp).mpr w⟩, gb_th pa (by omega)⟩
    obtain ⟨cnt', k3, hS2, hC2, k4⟩ := ax_t (W := W) (I := I) (ins := ins) (out := out) hS' hC' hJ (by omega) hW hT hA' oA hth hsh (by rw [mx.1 46 (by omega)]; exact e46) o31
    have hD2 := ax_d hS' hS2 hD' hJ hI hW rfl hT hA' oA pa8
    have q8 : q'.2 8 = q.2 8 := by
      rcases hT with ⟨-, -, e⟩ | ⟨-, -, e⟩ | ⟨-, -, e⟩ | ⟨-, -, e⟩ | ⟨-, -, e⟩
      · rw [e, uC_n (by omega), uC_n (by omega), awN_c]
      · rw [e, awN_c]
      · rw [e, uC_n (by omega), awN_c]
      · rw [e, uC_n (by omega), awN_c]
      · rw [e, awM_1.2.2.2.2.2.2 8 (by omega), uC_n (by omega), awN_c]
    have hn : ∀ e, e ≠ o → (∀ i, i < 8 → e ≠ b i) → hg_at S2.1 e = hg_at S1.1 e := aw2.2.2
    have hs2 : S2.2 = S1.2 := aw2.1.2.1
    have adi : Int32.ofNat I + 1 = Int32.ofNat (I + 1) := ad_m (by omega)
    obtain ⟨ma, m70⟩ := mdX_a hA'
    refine ⟨S2, Z, q', cnt', by rw [ey, adi], by rw [ez, adi], ⟨⟨aw2.1.1, hs2.trans (g2.trans x2)⟩, AW_b aw2, fun e e1 e2 e3 e4 => ?_, ⟨X', cn', REv_c g4 (fun i i1 i2 => ?_) (hn _ (by omega) (fun i hi => by have := l3 i hi; omega)), ?_, ?_⟩, mdX_tr mx ma, fun i => by rw [m70]; exact g9 i⟩, k3, hS2, hC2, hD2, q8, ?_, ?_, fun k hk => by rw [(ans_k (by omega) hA').2.1, upd_n hk, krr 92 (by omega) (by omega)]⟩
    · rw [hn e e1 e2, g3 e e3]
      exact x4 e e1 e2 e3 e4
    · have rb := reB_b (u := u) i1 i2
      exact hn _ (by omega) (fun i hi => by have := l3 i hi; omega)
    · have : X' 3 = X 3 := oP.1
      rw [this, x6']
    · rw [← x6']
      exact oP
    · rw [hn hA l5 l6, g3 hA (by omega)]
      exact hh
    · rw [k4 J hJ, krr 88 (by omega) (by omega)]
  delta hm_AT_tryAll_b45
  refine aw_i x3 (i := 8) (by decide) (by decide) ?_
  rw [if_pos (show Int32.ofNat I < q.2 8 by rw [h8, i_lt, tI, tW]; omega)]
  refine wq_if (fun c => both 0 (Or.inl ⟨c, rfl⟩)) (fun c => both 1 (Or.inr ⟨c, rfl⟩))
end STP
