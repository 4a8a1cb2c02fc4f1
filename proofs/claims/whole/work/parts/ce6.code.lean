/-! the reference's codes: a tree -/
section COD2
variable {names : Int32} {pk pf ps xx : Nat → Int32} {m : Nat} {θ : (Int32 → Prop) → Int32 → Prop} {G : Prop}
theorem code_1 {S q : md_S} {k : Nat} {x : lbT} {t : Int32} {Es : List Int32} (hk : k < 1200) (h51 : S.2.1 51 k = x.1) (h60 : S.2.1 60 k = t) (h9 : x.1 = 9 → S.2.1 54 k = x.2.2.2.2.1 ∧ x.2.2.2.2.1 ∈ Es ∧ Es.length ≤ 26 ∧ ixE x.2.2.2.2.1 Es < 26) (hT : TE (S.2.1 60) (S.2.1 54) Es k t) (hq : mm_code S (Int32.ofNat k) = some q) : cdF S q k ∧ q.2.1 59 k = cdL S k ∧ (¬ x.1 = 9 → q.2.1 54 = S.2.1 54 ∧ cdP x.1 (cdA S k) (cdB S k) (q.2.1 55 k)) ∧ (x.1 = 9 → q.2.1 54 k = Int32.ofNat (2 + ixE x.2.2.2.2.1 Es) ∧ cB (q.2.1 55 k) (fun j => j = 2 + ixE x.2.2.2.2.1 Es)) := by
  have tk : (Int32.ofNat k).toInt.toNat = k := by rw [Int32.toInt_ofNat_of_lt (by omega)]; omega
  obtain ⟨hb, hc⟩ := code_b hk (code_a hk hq)
  rw [h51] at hb hc
  rw [h60] at hc
  have c1 : cdF S (md_a S 59 k (cdL S k)) k := cdF_a (Or.inr (Or.inr rfl))
  by_cases c : x.1 = 9
  · have hc := hc c
    obtain ⟨n1, n2, n3, n4⟩ := h9 c
    rw [n1] at hc
    have x59 : (md_a (md_a S 59 k (cdL S k)) 54 k 2).2.1 59 k = cdL S k := by
      show upd (S.2.1 59) k (cdL S k) k = _
      exact upd_s
    have x54 : (md_a (md_a S 59 k (cdL S k)) 54 k 2).2.1 54 k = Int32.ofNat 2 := by
      show upd (S.2.1 54) k 2 k = _
      rw [upd_s]; rfl
    have c2 := cdF_t c1 (cdF_a (S := md_a S 59 k (cdL S k)) (k := k) (i := 54) (v := 2) (Or.inl rfl))
    generalize md_a (md_a S 59 k (cdL S k)) 54 k 2 = X at hc c2 x59 x54
    delta mm_code_L211 at hc
    obtain ⟨z, ez, hc⟩ := iv_bind hc
    have hT' : TE (X.2.1 60) (X.2.1 54) Es k t := TE_e Es k t (fun j hj => ⟨c2.2.2.2 60 j (by omega), c2.2.2.2 54 j (by omega)⟩) hT
    obtain ⟨r1, r2, r3, r4⟩ := ex_it hk Es X z k 2 t (Nat.le_refl _) hT' n2 x54 (by omega) ez
    have hc : mm_code_L245 z (Int32.ofNat k) = some q := hc
    delta mm_code_L245 at hc
    obtain ⟨-, -, hc⟩ := iv_ix hc
    obtain ⟨-, -, hc⟩ := iv_ix hc
    rw [tk, r2] at hc
    have hc := (Option.some.inj hc).symm
    subst hc
    refine ⟨cdF_t c2 (cdF_t r1 (cdF_a (Or.inr (Or.inl rfl)))), ?_, fun t => absurd c t, fun _ => ⟨r2, ?_⟩⟩
    · show z.2.1 59 k = _
      rw [r4]
      exact x59
    · show cB (upd (z.2.1 55) k _ k) _
      rw [upd_s]
      exact ex_b (by omega) rfl
  · obtain ⟨d, e, h⟩ := hb c
    subst e
    refine ⟨cdF_t c1 (cdF_a (Or.inr (Or.inl rfl))), ?_, fun _ => ⟨rfl, ?_⟩, fun t => absurd t c⟩
    · show upd (S.2.1 59) k (cdL S k) k = _
      exact upd_s
    · show cdP x.1 _ _ (upd (S.2.1 55) k d k)
      rw [upd_s]
      exact h
/-- codes laid: each node's codes, the row behind it, the number of an exit -/
def crow (R : Nat → Nat → Int32) (T : tT) (x : lbT) (k : Nat) (Es : List Int32) : Prop := cB (R 55 k) (cod T Es) ∧ R 59 k = Int32.ofNat (k + tsz T) ∧ (x.1 = 9 → R 54 k = Int32.ofNat (2 + ixE x.2.2.2.2.1 Es))
def CPr (R : Nat → Nat → Int32) : tT → Nat → List Int32 → Prop
  | .const x, k, Es => crow R (.const x) (lT x) k Es
  | .unary x A, k, Es => crow R (.unary x A) (lT x) k Es ∧ CPr R A (k + 1) (if (lT x).1 = 8 then (lT x).2.2.2.2.1 :: Es else Es)
  | .binary x A B, k, Es => crow R (.binary x A B) (lT x) k Es ∧ CPr R A (k + 1) Es ∧ CPr R B (k + 1 + tsz A) Es
  | _, _, _ => False
theorem CPr_r {R : Nat → Nat → Int32} : ∀ (T : tT) (k : Nat) (Es : List Int32), CPr R T k Es → cB (R 55 k) (cod T Es) ∧ R 59 k = Int32.ofNat (k + tsz T)
  | .const _, _, _, h => ⟨h.1, h.2.1⟩
  | .unary _ _, _, _, h => ⟨h.1.1, h.1.2.1⟩
  | .binary _ _ _, _, _, h => ⟨h.1.1, h.1.2.1⟩
theorem CPr_e {R R' : Nat → Nat → Int32} : ∀ (T : tT) (k : Nat) (Es : List Int32), (∀ i j, k ≤ j → j < k + tsz T → i = 54 ∨ i = 55 ∨ i = 59 → R' i j = R i j) → CPr R T k Es → CPr R' T k Es
  | .const x, k, Es, e, h => by
    have e : ∀ i j, k ≤ j → j < k + 1 → i = 54 ∨ i = 55 ∨ i = 59 → R' i j = R i j := e
    refine ⟨?_, ?_, fun t => ?_⟩
    · rw [e 55 k (by omega) (by omega) (by omega)]; exact h.1
    · rw [e 59 k (by omega) (by omega) (by omega)]; exact h.2.1
    · rw [e 54 k (by omega) (by omega) (by omega)]; exact h.2.2 t
  | .unary x A, k, Es, e, ⟨h, g⟩ => by
    have e : ∀ i j, k ≤ j → j < k + (1 + tsz A) → i = 54 ∨ i = 55 ∨ i = 59 → R' i j = R i j := e
    refine ⟨⟨?_, ?_, fun t => ?_⟩, CPr_e A _ _ (fun i j h1 h2 hi => e i j (by omega) (by omega) hi) g⟩
    · rw [e 55 k (by omega) (by omega) (by omega)]; exact h.1
    · rw [e 59 k (by omega) (by omega) (by omega)]; exact h.2.1
    · rw [e 54 k (by omega) (by omega) (by omega)]; exact h.2.2 t
  | .binary x A B, k, Es, e, ⟨h, g, g'⟩ => by
    have e : ∀ i j, k ≤ j → j < k + (1 + tsz A + tsz B) → i = 54 ∨ i = 55 ∨ i = 59 → R' i j = R i j := e
    refine ⟨⟨?_, ?_, fun t => ?_⟩, CPr_e A _ _ (fun i j h1 h2 hi => e i j (by omega) (by omega) hi) g, CPr_e B _ _ (fun i j h1 h2 hi => e i j (by omega) (by omega) hi) g'⟩
    · rw [e 55 k (by omega) (by omega) (by omega)]; exact h.1
    · rw [e 59 k (by omega) (by omega) (by omega)]; exact h.2.1
    · rw [e 54 k (by omega) (by omega) (by omega)]; exact h.2.2 t
/-- rows lo to hi of 54, 55, 59 changed; 54 only where an exit is -/
def cdG (S z : md_S) (lo hi : Nat) : Prop := z.1 = S.1 ∧ z.2.2 = S.2.2 ∧ (∀ i, ¬ (i = 54 ∨ i = 55 ∨ i = 59) → z.2.1 i = S.2.1 i) ∧ (∀ i j, ¬ (lo ≤ j ∧ j < hi) → z.2.1 i j = S.2.1 i j) ∧ ∀ j, ¬ S.2.1 51 j = 9 → z.2.1 54 j = S.2.1 54 j
theorem cdG_t {S S1 S2 : md_S} {a b c d lo hi : Nat} (h : cdG S S1 a b) (g : cdG S1 S2 c d) (h1 : lo ≤ a ∧ b ≤ hi) (h2 : lo ≤ c ∧ d ≤ hi) : cdG S S2 lo hi := ⟨g.1.trans h.1, g.2.1.trans h.2.1, fun i hi => (g.2.2.1 i hi).trans (h.2.2.1 i hi), fun i j hj => (g.2.2.2.1 i j (by omega)).trans (h.2.2.2.1 i j (by omega)), fun j hj => (g.2.2.2.2 j (by rw [h.2.2.1 51 (by omega)]; exact hj)).trans (h.2.2.2.2 j hj)⟩
theorem cdG_1 {S q : md_S} {k : Nat} {x : lbT} (h51 : S.2.1 51 k = x.1) (h : cdF S q k) (g : ¬ x.1 = 9 → q.2.1 54 = S.2.1 54) : cdG S q k (k + 1) := by
  refine ⟨h.1, h.2.1, h.2.2.1, fun i j hj => h.2.2.2 i j (by omega), fun j hj => ?_⟩
  by_cases c : j = k
  · subst c
    rw [h51] at hj
    rw [g hj]
  · exact h.2.2.2 54 j c
/-- one step of the loop -/
theorem cd_st {S z : md_S} {v : Int32} {k : Nat} (hk : k < 1200) (hv : v.toInt = (k : Int)) (hz : dc_it mm_lay_I_s480 (S, v) = some z) : ∃ q, mm_code S (Int32.ofNat k) = some q ∧ ∃ v' : Int32, v'.toInt = (k : Int) - 1 ∧ dc_it mm_lay_I_s480 (q, v') = some z := by
  obtain ⟨q, eq⟩ := it_st hz
  have ev : v = Int32.ofNat k := ofN_i hv (by omega)
  have hs : mm_lay_I_b480 S v = some q := eq
  delta mm_lay_I_b480 at hs
  have nn : ¬ v < 0 := fun t => by
    have := i_lt.mp t
    rw [il_0] at this
    omega
  rw [if_neg nn] at hs
  obtain ⟨a, ea, hs⟩ := iv_bind hs
  have e0 := (Option.some.inj hs).symm
  rw [e0] at eq
  rw [ev] at ea
  refine ⟨a, ea, v + (-1), ?_, it_un hz eq⟩
  rw [i_dec (by omega), hv]
end COD2
