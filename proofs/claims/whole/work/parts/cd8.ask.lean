/-! ask and around, whole -/
section ASV
variable {names : Int32} {pk pf ps xx : Nat → Int32} {m : Nat}
/-- what ask comes to -/
def asO (pk pf xx : Nat → Int32) (e : Nat) (S S' : md_S) : Prop :=
  ((∀ k, ¬ k = 43 → S'.1 k = S.1 k) ∧ (∀ k, ¬ (k = 63 ∨ k = 64 ∨ k = 65 ∨ k = 66 ∨ k = 99) → S'.2.1 k = S.2.1 k) ∧ S'.2.2 = S.2.2) ∧ (S.1 43).toInt ≤ (S'.1 43).toInt ∧
  ((S.1 43).toInt + (xx e).toInt ≤ 1000 → (S'.1 43).toInt = (S.1 43).toInt + (xx e).toInt ∧ PPr S'.2.1 pk pf xx (xx e).toInt.toNat e (S.1 43).toInt.toNat ∧ (S'.2.1 66 (S.1 43).toInt.toNat).toInt = (S.1 43).toInt + (xx e).toInt ∧ ∀ j, j < (S.1 43).toInt.toNat → S'.2.1 63 j = S.2.1 63 j ∧ S'.2.1 64 j = S.2.1 64 j ∧ S'.2.1 65 j = S.2.1 65 j ∧ S'.2.1 66 j = S.2.1 66 j) ∧
  (1000 < (S.1 43).toInt + (xx e).toInt → 1000 < (S'.1 43).toInt) ∧ (S'.1 43).toInt ≤ (S.1 43).toInt + (xx e).toInt
theorem ask_w (W : pcW names pk pf ps xx m) (hm : m ≤ 1000) {e : Nat} {S : md_S} {q : md_S × Int32} (he : e < m) (hx : (xx e).toInt ≤ 2000) (r36 : S.2.1 36 = pk) (r37 : S.2.1 37 = pf) (r38 : S.2.1 38 = ps) (p0 : 0 ≤ (S.1 43).toInt) (p1 : (S.1 43).toInt ≤ 80000) (hq : mm_ask S (Int32.ofNat e) = some q) : q.2 = S.1 43 ∧ asO pk pf xx e S q.1 := by
  have we := (W e he).1
  have z1000 : (1000 : Int32).toInt = 1000 := by decide
  delta mm_ask at hq
  have hq : (dc_ix 0 8192).bind (fun j34 => (dc_ix 1 8192).bind fun j36 => mm_ask_L23 (md_a (md_a S 99 j34 (Int32.ofNat e)) 99 j36 (-1)) (S.1 43) 1) = some q := hq
  obtain ⟨-, -, hq⟩ := iv_ix hq
  obtain ⟨-, -, hq⟩ := iv_ix hq
  have hq : mm_ask_L23 (puS S 0 (Int32.ofNat e) (-1)) (S.1 43) 1 = some q := hq
  delta mm_ask_L23 at hq
  obtain ⟨z, ez, hq⟩ := iv_bind hq
  obtain ⟨s1, s2, s3, s4, s5, s6⟩ := puS_f (S := S) (n := 0) (a := Int32.ofNat e) (b := -1)
  generalize eX : puS S 0 (Int32.ofNat e) (-1) = X at *
  have ez : dc_it (mm_ask_s23 (S.1 43)) (X, Int32.ofNat (0 + 1)) = some z := ez
  obtain ⟨S', hz', q1, q2, q3, q4, q5⟩ := ask_E W hm (xx e).toInt.toNat e 0 X z he (by omega) (by omega) (by rw [s2 36 (by omega)]; exact r36) (by rw [s2 37 (by omega)]; exact r37) (by rw [s2 38 (by omega)]; exact r38) s4 (by rw [s5]; exact Or.inl rfl) (by rw [s1]; exact p0) (by rw [s1]; omega) ez
  have eS : S' = z := by
    have hs : mm_ask_s23 (S.1 43) (S', Int32.ofNat 0) = some (.inr S') := by
      show mm_ask_b23 S' (S.1 43) 0 = _
      delta mm_ask_b23
      rw [if_neg lt00]
    exact it_un hz' hs
  subst eS
  rw [s1] at q2 q3 q4 q5
  rw [s5] at q3
  have fz : (∀ k, ¬ k = 43 → S'.1 k = S.1 k) ∧ (∀ k, ¬ (k = 63 ∨ k = 64 ∨ k = 65 ∨ k = 99) → S'.2.1 k = S.2.1 k) ∧ S'.2.2 = S.2.2 := ⟨fun k hk => (q1.1 k hk).trans (by rw [s1]), fun k hk => (q1.2.1 k hk).trans (s2 k (by omega)), q1.2.2.1.trans s3⟩
  delta mm_ask_L262 at hq
  rcases iv_if hq with ⟨c, hq⟩ | ⟨c, hq⟩
  · have lt := i_lt.mp c
    rw [z1000] at lt
    obtain ⟨-, -, hq⟩ := iv_ix hq
    have hq : some (md_a S' 66 (S.1 43).toInt.toNat (S'.1 43), S.1 43) = some q := hq
    have hq := (Option.some.inj hq).symm
    subst hq
    have r66 : ∀ k, ¬ k = 66 → (md_a S' 66 (S.1 43).toInt.toNat (S'.1 43)).2.1 k = S'.2.1 k := fun k hk => by rw [md_a2, if_neg hk]
    refine ⟨rfl, ⟨fz.1, fun k hk => by rw [r66 k (by omega)]; exact fz.2.1 k (by omega), fz.2.2⟩, q2, fun t => ?_, q4, q5⟩
    obtain ⟨u1, u2, u3⟩ := q3 t
    refine ⟨u1, ?_, ?_, fun j hj => ?_⟩
    · refine PPr_ext W _ e _ he (by omega) (fun j _ _ => ⟨by rw [r66 63 (by omega)], by rw [r66 64 (by omega)], by rw [r66 65 (by omega)]⟩) u2
    · show ((md_a S' 66 (S.1 43).toInt.toNat (S'.1 43)).2.1 66 (S.1 43).toInt.toNat).toInt = _
      rw [md_a2, if_pos rfl, upd_s]
      exact u1
    · obtain ⟨a1, a2, a3, -, -⟩ := u3 j hj
      have nn := up_e j (by omega)
      have x63 : X.2.1 63 = S.2.1 63 := s2 63 (by omega)
      have x64 : X.2.1 64 = S.2.1 64 := s2 64 (by omega)
      have x65 : X.2.1 65 = S.2.1 65 := s2 65 (by omega)
      show (md_a S' 66 (S.1 43).toInt.toNat (S'.1 43)).2.1 63 j = _ ∧ (md_a S' 66 (S.1 43).toInt.toNat (S'.1 43)).2.1 64 j = _ ∧ (md_a S' 66 (S.1 43).toInt.toNat (S'.1 43)).2.1 65 j = _ ∧ (md_a S' 66 (S.1 43).toInt.toNat (S'.1 43)).2.1 66 j = _
      rw [r66 63 (by omega), r66 64 (by omega), r66 65 (by omega), a1, a2 (fun t => nn.2.2.2.2.1 t.symm), a3 (fun t => nn.2.2.2.2.2 t.symm), x63, x64, x65, md_a2, if_pos rfl, upd_n (by omega), fz.2.1 66 (by omega)]
      exact ⟨rfl, rfl, rfl, rfl⟩
  · have ge : ¬ (S.1 43).toInt < 1000 := fun t => c (i_lt.mpr (by rw [z1000]; exact t))
    have hq : some (S', S.1 43) = some q := hq
    have hq := (Option.some.inj hq).symm
    subst hq
    exact ⟨rfl, ⟨fz.1, fun k hk => fz.2.1 k (by omega), fz.2.2⟩, q2, fun t => absurd t (by omega), q4, q5⟩
end ASV
/-- the traps around, by trapOf -/
def TC (R : Nat → Int32) : Int32 → Nat → Prop
  | t, 0 => t = -1
  | t, d + 1 => ∃ j, j < 1200 ∧ t = Int32.ofNat j ∧ TC R (R j) d
theorem TC_ext {R R' : Nat → Int32} {k : Nat} : ∀ (d : Nat) (t : Int32), (∀ j, j < k → R' j = R j) → (∀ j, t = Int32.ofNat j → j < 1200 → j < k) → (∀ j i, j < k → R j = Int32.ofNat i → i < 1200 → i < k) → TC R t d → TC R' t d
  | 0, t, _, _, _, h => h
  | d + 1, t, he, ht, hc, ⟨j, h1, h2, h3⟩ => by
    have hj := ht j h2 h1
    refine ⟨j, h1, h2, ?_⟩
    rw [he j hj]
    exact TC_ext d (R j) he (fun i hi h => hc j i hj hi h) hc h3
theorem ar_it {S : md_S} : ∀ (d : Nat) (c : Nat) (t : Int32) (z : Int32), c + d ≤ 100000 → TC (S.2.1 60) t d → dc_it (mm_around_s9 S) (Int32.ofNat c, t) = some z → z = Int32.ofNat (c + d)
  | 0, c, t, z, hb, h, hz => by
    have hs : mm_around_s9 S (Int32.ofNat c, t) = some (.inr (Int32.ofNat c)) := by
      show mm_around_b9 S (Int32.ofNat c) t = _
      delta mm_around_b9
      have h : t = -1 := h
      rw [if_pos h]
    exact (it_un hz hs : Int32.ofNat c = z).symm
  | d + 1, c, t, z, hb, ⟨j, h1, h2, h3⟩, hz => by
    have tj : (Int32.ofNat j).toInt = (j : Int) := Int32.toInt_ofNat_of_lt (by omega)
    have hs : mm_around_s9 S (Int32.ofNat c, t) = some (.inl (Int32.ofNat (c + 1), S.2.1 60 j)) := by
      show mm_around_b9 S (Int32.ofNat c) t = _
      delta mm_around_b9
      have ne : ¬ t = -1 := by
        intro e
        rw [h2] at e
        have := congrArg Int32.toInt e
        rw [tj, show (-1 : Int32).toInt = -1 by decide] at this
        omega
      rw [if_neg ne, h2]
      have ix : dc_ix (Int32.ofNat j) 1200 = some j := by
        have w : dc_wp ((dc_ix (Int32.ofNat j) 1200).bind some) (fun z => z = j) := wq_ix (by omega) (by omega) ⟨_, rfl, by rw [tj]; omega⟩
        obtain ⟨y, ey, hy⟩ := w
        cases hd : dc_ix (Int32.ofNat j) 1200 with
        | none => rw [hd] at ey; cases ey
        | some y' =>
          rw [hd] at ey
          have ey : some y' = some y := ey
          rw [ey, hy]
      rw [ix]
      show some (Sum.inl (Int32.ofNat c + 1, S.2.1 60 j)) = _
      have a1 : Int32.ofNat c + 1 = Int32.ofNat (c + 1) := by
        rw [i_eq, i_addS (by rw [Int32.toInt_ofNat_of_lt (by omega), il_1]; omega), Int32.toInt_ofNat_of_lt (by omega), il_1, Int32.toInt_ofNat_of_lt (by omega)]
        omega
      rw [a1]
    have := ar_it d (c + 1) _ z (by omega) h3 (it_un hz hs)
    rw [this]
    exact congrArg Int32.ofNat (by omega)
theorem around_w {S : md_S} {k d : Nat} {x : Int32} (hk : k < 1200) (hd : d ≤ 5000) (h : TC (S.2.1 60) (S.2.1 60 k) d) (hq : mm_around S (Int32.ofNat k) = some x) : x = Int32.ofNat d := by
  delta mm_around at hq
  obtain ⟨-, -, hq⟩ := iv_ix hq
  rw [show (Int32.ofNat k).toInt.toNat = k by rw [Int32.toInt_ofNat_of_lt (by omega)]; omega] at hq
  have hq : (dc_it (mm_around_s9 S) (0, S.2.1 60 k)).bind (fun z => mm_around_L27 S z) = some x := hq
  obtain ⟨z, ez, hq⟩ := iv_bind hq
  have e := ar_it d 0 (S.2.1 60 k) z (by omega) h ez
  have hq : some z = some x := hq
  rw [← Option.some.inj hq, e]
  exact congrArg Int32.ofNat (by omega)
