/-! the reference's lay, whole -/
section LAYW
variable {names : Int32} {pk pf ps xx : Nat → Int32} {m : Nat} {θ : (Int32 → Prop) → Int32 → Prop} {G : Prop}
/-- what changes behind: numbers of traps and exits alone -/
theorem lrow_h (W : pcW names pk pf ps xx m) {H : Prop} {R R' : Nat → Nat → Int32} {k : Nat} {x : lbT} {f s up : Int32} {w : Int} {t : Int32} {a c : Int} (ht : x.2.2.2.2.2 = -1 ∨ ¬ (x.1 = 8 ∨ x.1 = 9)) (e : ∀ i, nRi i → ¬ i = 54 → R' i k = R i k) (e4 : ¬ (R 51 k = 8 ∨ R 51 k = 9) → R' 54 k = R 54 k) (g1 : R' 63 = R 63) (g2 : R' 64 = R 64) (g3 : R' 65 = R 65) (g4 : R' 66 = R 66) (h : lrow G H pk pf xx R k x f s up w t a c) : lrow G False pk pf xx R' k x f s up w t a c := by
  unfold lrow at h ⊢
  obtain ⟨h1, h2, h3, -⟩ := h
  rw [h1.1] at e4
  rw [e 51 (by omega) (by omega), e 52 (by omega) (by omega), e 53 (by omega) (by omega), e 56 (by omega) (by omega), e 57 (by omega) (by omega), e 58 (by omega) (by omega), e 62 (by omega) (by omega)]
  refine ⟨h1, fun n => ⟨fun y => ?_, fun y z => ?_⟩, fun n y => ?_, fun y => y.elim⟩
  · rw [e4 (fun z => by rw [y] at z; exact absurd z (by decide))]
    exact (h2 n).1 y
  · have z : ¬ (x.1 = 8 ∨ x.1 = 9) := z.elim id (fun z => z.elim)
    rw [e4 z]
    exact (h2 n).2 y (Or.inl z)
  · have z : ¬ (x.1 = 8 ∨ x.1 = 9) := ht.resolve_left n
    obtain ⟨u1, u2, u3⟩ := h3 n y
    rw [e4 z, g4]
    exact ⟨u1, PPr_c g1 g2 g3 _ _ _ u2, u3⟩
theorem LPr_h (W : pcW names pk pf ps xx m) {H : Prop} {R R' : Nat → Nat → Int32} (g1 : R' 63 = R 63) (g2 : R' 64 = R 64) (g3 : R' 65 = R 65) (g4 : R' 66 = R 66) : ∀ (T : tT) (V : Int32 → Prop) (k : Nat) (up : Int32) (w : Int) (t : Int32) (a c : Int), okT θ V T → (∀ i j, nRi i → ¬ i = 54 → k ≤ j → j < k + tsz T → R' i j = R i j) → (∀ j, k ≤ j → j < k + tsz T → ¬ (R 51 j = 8 ∨ R 51 j = 9) → R' 54 j = R 54 j) → LPr G H pk pf xx R T k up w t a c → LPr G False pk pf xx R' T k up w t a c
  | .const x, V, k, up, w, t, a, c, hO, he, h4, h => by
    have he : ∀ i j, nRi i → ¬ i = 54 → k ≤ j → j < k + 1 → R' i j = R i j := he
    have h4 : ∀ j, k ≤ j → j < k + 1 → ¬ (R 51 j = 8 ∨ R 51 j = 9) → R' 54 j = R 54 j := h4
    exact lrow_h W (Or.inl hO.2.1) (fun i hi n => he i k hi n (Nat.le_refl _) (by omega)) (h4 k (Nat.le_refl _) (by omega)) g1 g2 g3 g4 h
  | .unary x A, V, k, up, w, t, a, c, hO, he, h4, ⟨h1, h2⟩ => by
    have he : ∀ i j, nRi i → ¬ i = 54 → k ≤ j → j < k + (1 + tsz A) → R' i j = R i j := he
    have h4 : ∀ j, k ≤ j → j < k + (1 + tsz A) → ¬ (R 51 j = 8 ∨ R 51 j = 9) → R' 54 j = R 54 j := h4
    refine ⟨lrow_h W ?_ (fun i hi n => he i k hi n (Nat.le_refl _) (by omega)) (h4 k (Nat.le_refl _) (by omega)) g1 g2 g3 g4 h1, LPr_h W g1 g2 g3 g4 A _ _ _ _ _ _ _ hO.2 (fun i j hi n j1 j2 => he i j hi n (by omega) (by omega)) (fun j j1 j2 => h4 j (by omega) (by omega)) h2⟩
    rcases hO.1.1 with ⟨y, -⟩ | ⟨-, y⟩
    · exact Or.inr (by rw [y]; decide)
    · exact Or.inl y
  | .binary x A B, V, k, up, w, t, a, c, hO, he, h4, ⟨h1, h2, h3⟩ => by
    have he : ∀ i j, nRi i → ¬ i = 54 → k ≤ j → j < k + (1 + tsz A + tsz B) → R' i j = R i j := he
    have h4 : ∀ j, k ≤ j → j < k + (1 + tsz A + tsz B) → ¬ (R 51 j = 8 ∨ R 51 j = 9) → R' 54 j = R 54 j := h4
    refine ⟨lrow_h W ?_ (fun i hi n => he i k hi n (Nat.le_refl _) (by omega)) (h4 k (Nat.le_refl _) (by omega)) g1 g2 g3 g4 h1, LPr_h W g1 g2 g3 g4 A _ _ _ _ _ _ _ hO.2.1 (fun i j hi n j1 j2 => he i j hi n (by omega) (by omega)) (fun j j1 j2 => h4 j (by omega) (by omega)) h2, LPr_h W g1 g2 g3 g4 B _ _ _ _ _ _ _ hO.2.2 (fun i j hi n j1 j2 => he i j hi n (by omega) (by omega)) (fun j j1 j2 => h4 j (by omega) (by omega)) h3⟩
    rcases hO.1.1 with ⟨y, -⟩ | ⟨y | y, -⟩ <;> exact Or.inr (by rw [y]; decide)
theorem dmx_0 : ∀ (T : tT) (d : Int), d ≤ dmx T d
  | .const _, d => Int.le_refl _
  | .unary x a, d => Int.le_max_left _ _
  | .binary x a b, d => Int.le_max_left _ _
  | .nodeWithAntiquot .., d => Int.le_refl _
  | .node .., d => Int.le_refl _
  | .trailingNode .., d => Int.le_refl _
  | .symbol .., d => Int.le_refl _
  | .nonReservedSymbol .., d => Int.le_refl _
  | .cat .., d => Int.le_refl _
  | .parser .., d => Int.le_refl _
  | .sepBy .., d => Int.le_refl _
  | .sepBy1 .., d => Int.le_refl _
  | .unicodeSymbol .., d => Int.le_refl _
abbrev lyJ (i : Nat) : Prop := lyI i ∨ i = 55 ∨ i = 59
/-- what lay comes to -/
def layO (pk pf xx : Nat → Int32) (T : tT) (S q : md_S) : Prop :=
  ((∀ i, ¬ (i = 42 ∨ i = 43 ∨ i = 47 ∨ i = 48 ∨ i = 49) → q.1 i = S.1 i) ∧ q.2.2 = S.2.2 ∧ ∀ i, ¬ lyJ i → q.2.1 i = S.2.1 i) ∧ (tsz T ≤ 1200 ∧ q.1 42 = Int32.ofNat (tsz T)) ∧ (q.1 48).toInt = wsm T 1 ∧ (q.1 47).toInt = pas T ∧ (q.1 49).toInt = dmx T 0 ∧ (1000 < tsm xx T → 1000 < (q.1 43).toInt) ∧ (tsm xx T ≤ 1000 → (q.1 43).toInt = tsm xx T ∧ LPr True False pk pf xx q.2.1 T 0 (-1) 1 (-1) 0 0 ∧ CPr q.2.1 T 0 [] ∧ (q.2.1 62 (tsz T)).toInt = pas T)
theorem lay_w (W : pcW names pk pf ps xx m) (hm : m ≤ 1000) (hθ : ∀ V e, θ V e → 0 ≤ e.toInt ∧ e.toInt < (m : Int) ∧ 1 ≤ (xx e.toInt.toNat).toInt ∧ (xx e.toInt.toNat).toInt ≤ 2000) {T : tT} {V : Int32 → Prop} {S q : md_S} {s : Int32} (hO : okT θ V T) (hw : wfT T []) (hR : repR S T s) (h42 : S.1 42 = 0 ∧ S.1 43 = 0 ∧ S.1 47 = 0 ∧ S.1 48 = 0 ∧ S.1 49 = 0) (h27 : (S.1 27).toInt ≤ 1200) (h36 : S.2.1 36 = pk ∧ S.2.1 37 = pf ∧ S.2.1 38 = ps) (ht : tsm xx T ≤ 70000) (hwd : twd T ≤ 900) (hdp : tdp T ≤ 26) (hq : mm_lay_I S s = some q) : layO pk pf xx T S q := by
  obtain ⟨y42, y43, y47, y48, y49⟩ := h42
  delta mm_lay_I at hq
  obtain ⟨-, -, hq⟩ := iv_ix hq
  have hq : (dc_ix 0 1208).bind (fun j69 => dc_let (md_a (md_a S 39 0 s) 40 j69 (-1)) fun S70 => mm_lay_I_L16 S70 1) = some q := hq
  obtain ⟨-, -, hq⟩ := iv_ix hq
  have hq : mm_lay_I_L16 (lzH S 0 s (-1)) 1 = some q := hq
  obtain ⟨f1, f2, ⟨f3, f4⟩, f5⟩ := lzH_f (X := S) (n := 0) (a := s) (b := -1)
  generalize lzH S 0 s (-1) = S0 at hq f1 f2 f3 f4 f5
  delta mm_lay_I_L16 at hq
  obtain ⟨z, ez, hq⟩ := iv_bind hq
  have hq : mm_lay_I_L460 z = some q := hq
  have s0 : lyS pk pf ps S0 0 0 (-1) := by
    refine ⟨⟨by omega, by rw [f1, y42]; rfl, by rw [f1]; exact h27⟩, ⟨rfl, fun j hj hj' => absurd hj.symm (ofn_m (by omega)), fun j i hj => by omega⟩, ⟨by rw [f5 36 (by omega)]; exact h36.1, by rw [f5 37 (by omega)]; exact h36.2.1, by rw [f5 38 (by omega)]; exact h36.2.2⟩, ?_, ?_, ?_, ?_⟩
    · rw [f1, y43, il_0]; omega
    · rw [f1, y48, il_0]; omega
    · rw [f1, y47, il_0]; omega
    · rw [f1, y49, il_0]; omega
  have e43 : (S0.1 43).toInt = 0 := by rw [f1, y43, il_0]
  have e1 : (1 : Int32).toInt = 1 := by decide
  obtain ⟨hk, S1, ez1, hT, -⟩ := lay_T (G := tsm xx T ≤ 1000) W hm hθ T V S0 z 0 0 0 s (-1) 0 1 (-1) hO (repR_fr (by rw [f1]) (fun i i1 i2 => f5 i (by omega)) T s hR) s0 (by omega) (by rw [f3, upd_s]) (Or.inl ⟨by rw [f4, upd_s], rfl, rfl, rfl⟩) (by omega) (by omega) (by rw [e1]; omega) (by rw [e1]; omega) (fun y => by omega) ez
  rw [Nat.zero_add] at hk
  -- the end of the loop
  have eS : S1 = z := by
    have hs : mm_lay_I_s16 (S1, Int32.ofNat 0) = some (.inr S1) := by
      show mm_lay_I_b16 S1 (Int32.ofNat 0) = _
      delta mm_lay_I_b16
      exact if_neg (by decide)
    exact it_un ez1 hs
  subst eS
  unfold lyT at hT
  rw [e1, e43, f1, y47, y48, y49, il_0, Nat.zero_add] at hT
  obtain ⟨⟨a1, a2, a3, a4, a5, a6⟩, a7, a8, -, -, -, ⟨-, -, a14, a15⟩, aL⟩ := hT
  have hd := dmx_0 T 0
  have te := tsm_0 hθ T V hO
  -- codes
  delta mm_lay_I_L460 at hq
  rw [a2] at hq
  obtain ⟨-, -, hq⟩ := iv_ix hq
  have tN : (Int32.ofNat (tsz T)).toInt.toNat = tsz T := by rw [Int32.toInt_ofNat_of_lt (by omega)]; omega
  rw [tN] at hq
  have c62 : ∀ i, ¬ i = 62 → (md_a S1 62 (tsz T) (S1.1 47)).2.1 i = S1.2.1 i := fun i hi => by rw [md_a2, if_neg hi]
  have d62 : (md_a S1 62 (tsz T) (S1.1 47)).2.1 62 = upd (S1.2.1 62) (tsz T) (S1.1 47) := rfl
  have hq : mm_lay_I_L480 (md_a S1 62 (tsz T) (S1.1 47)) ((md_a S1 62 (tsz T) (S1.1 47)).1 42 - 1) = some q := hq
  have g42 : ((md_a S1 62 (tsz T) (S1.1 47)).1 42 - 1 : Int32).toInt = ((0 : Nat) : Int) + (tsz T : Int) - 1 := by
    show (S1.1 42 - 1 : Int32).toInt = _
    rw [a2, i_subS (by rw [Int32.toInt_ofNat_of_lt (by omega), il_1]; omega), Int32.toInt_ofNat_of_lt (by omega), il_1]
    omega
  have fX1 : (md_a S1 62 (tsz T) (S1.1 47)).1 = S1.1 := rfl
  have fX2 : (md_a S1 62 (tsz T) (S1.1 47)).2.2 = S1.2.2 := rfl
  generalize md_a S1 62 (tsz T) (S1.1 47) = X at hq c62 d62 g42 fX1 fX2
  delta mm_lay_I_L480 at hq
  obtain ⟨z2, ez2, hq⟩ := iv_bind hq
  have hq : some z2 = some q := hq
  have hq := Option.some.inj hq
  subst hq
  have aL' : LPr (tsm xx T ≤ 1000) True pk pf xx X.2.1 T 0 (-1) 1 (-1) 0 0 := by
    refine LPr_e W hθ T V 0 _ _ _ _ _ hO (Int.le_refl _) (fun i j hi j1 j2 => ?_) (fun _ j _ _ => ⟨by rw [c62 63 (by omega)], by rw [c62 64 (by omega)], by rw [c62 65 (by omega)], by rw [c62 66 (by omega)]⟩) aL
    by_cases c : i = 62
    · subst c
      rw [d62, upd_n (by omega)]
    · rw [c62 i c]
  obtain ⟨S3, v3, ev3, ez3, g3, cp⟩ := code_T W hθ T V [] X z2 _ 0 _ _ _ _ _ hO hw (Int.le_refl _) aL' rfl (by omega) (by show 0 + tdp T ≤ 26; omega) g42 ez2
  have e3 : S3 = z2 := by
    have hs : mm_lay_I_s480 (S3, v3) = some (.inr S3) := by
      show mm_lay_I_b480 S3 v3 = _
      delta mm_lay_I_b480
      exact if_pos (i_lt.mpr (by rw [ev3, il_0]; omega))
    exact it_un ez3 hs
  subst e3
  obtain ⟨b1, b2, b3, b4, b5⟩ := g3
  have q1 : S3.1 = S1.1 := b1.trans fX1
  refine ⟨⟨fun i hi => ?_, ?_, fun i hi => ?_⟩, ⟨hk, by rw [q1]; exact a2⟩, ?_, ?_, ?_, fun y => ?_, fun y => ⟨?_, ?_, cp, ?_⟩⟩
  · rw [q1]
    exact (a1 i hi)
  · rw [b2, fX2, a7]
    exact f2
  · rw [b3 i (by omega), c62 i (by omega), a8 i (by omega)]
    exact f5 i (by omega)
  · rw [q1]; omega
  · rw [q1]; omega
  · rw [q1]
    have : ((0 : Nat) : Int) = 0 := rfl
    rw [this] at a6
    omega
  · rw [q1]; exact a14 (by omega)
  · rw [q1]
    have := (a15 (by omega)).1
    omega
  · have hh := LPr_h (G := tsm xx T ≤ 1000) (H := True) (R' := S3.2.1) W (b3 63 (by omega)) (b3 64 (by omega)) (b3 65 (by omega)) (b3 66 (by omega)) T V 0 _ _ _ _ _ hO (fun i j hi n j1 j2 => by rw [b3 i (by omega)]) (fun j j1 j2 n => b5 j (fun t => n (Or.inr t))) aL'
    rw [show (tsm xx T ≤ 1000) = True from eq_true y] at hh
    exact hh
  · rw [b3 62 (by omega), d62, upd_s]
    omega
end LAYW
