/-! settle: the way down, the way up -/
theorem spF_n {c1 c2 : Nat → Option Nat} {F : Nat → Nat → Int32} {dd : Nat → Int32} {j i' k' : Nat} (h : (¬ c1 j = some i' ∧ ¬ c2 j = some i') ∨ ¬ (8 ≤ k' ∧ k' ≤ 11)) (h4 : ¬ i' = j ∨ ¬ k' = 4) : spF c1 c2 F dd j i' k' = F i' k' := by
  unfold spF
  rw [f2N_n (h.imp (fun z => z.2) id), f1N_n (h.imp (fun z => z.1) id)]
  rcases h4 with z | z
  · exact fU_i z
  · exact fU_k z
theorem spF_4 {c1 c2 : Nat → Option Nat} {F : Nat → Nat → Int32} {dd : Nat → Int32} {j : Nat} : spF c1 c2 F dd j j 4 = nuN F dd j := by
  unfold spF
  rw [f2N_n (Or.inr (by omega)), f1N_n (Or.inr (by omega))]
  exact fU_s
/-- sums over the nodes from the last one down -/
def sd (g : Nat → Int32) (m : Nat) : Nat → Int32
  | 0 => 0
  | n + 1 => sd g m n + g (m - (n + 1))
def sx (g : Nat → Int32) (m : Nat) : Nat → Int32
  | 0 => 0
  | n + 1 => dc_max (sx g m n) (g (m - (n + 1)))
theorem sd_cg {g g' : Nat → Int32} {m : Nat} : ∀ n, n ≤ m → (∀ k, m - n ≤ k → k < m → g' k = g k) → sd g' m n = sd g m n
  | 0, _, _ => rfl
  | n + 1, hn, h => by
    show sd g' m n + g' (m - (n + 1)) = sd g m n + g (m - (n + 1))
    rw [sd_cg n (by omega) (fun k h1 h2 => h k (by omega) h2), h (m - (n + 1)) (by omega) (by omega)]
theorem sx_cg {g g' : Nat → Int32} {m : Nat} : ∀ n, n ≤ m → (∀ k, m - n ≤ k → k < m → g' k = g k) → sx g' m n = sx g m n
  | 0, _, _ => rfl
  | n + 1, hn, h => by
    show dc_max (sx g' m n) (g' (m - (n + 1))) = dc_max (sx g m n) (g (m - (n + 1)))
    rw [sx_cg n (by omega) (fun k h1 h2 => h k (by omega) h2), h (m - (n + 1)) (by omega) (by omega)]
/-- what the tree of the nodes must be -/
def trN (m tm xc : Nat) (c1 c2 : Nat → Option Nat) (F : Nat → Nat → Int32) : Prop :=
  (∀ i i' c, i < m → i' < m → (c1 i = some c ∨ c2 i = some c) → (c1 i' = some c ∨ c2 i' = some c) → i = i') ∧ (∀ i c, i < m → c1 i = some c → ¬ c2 i = some c) ∧
  (∀ i i', i < m → i' < m → F i 0 = 8 → F i' 0 = 8 → ¬ F i 5 = -1 → F i 5 = F i' 5 → i = i') ∧
  (∀ i, i < m → ¬ F i 5 = -1 → 0 ≤ (F i 5).toInt ∧ (F i 5).toInt < (tm : Int)) ∧ (∀ i, i < m → ¬ F i 6 = -1 → 0 ≤ (F i 6).toInt ∧ (F i 6).toInt < (xc : Int))
/-- what stands behind the way down over the nodes from i on -/
def wdn (m : Nat) (c1 c2 : Nat → Option Nat) (xx : Nat → Int32) (F0 F : Nat → Nat → Int32) (D : Nat → Int32) (i : Nat) : Prop :=
  (∀ i' k', ¬ k' = 4 → ¬ (8 ≤ k' ∧ k' ≤ 11) → F i' k' = F0 i' k') ∧ (∀ i', i ≤ i' → i' < m → HE c1 c2 F i') ∧ (∀ k', 8 ≤ k' → k' ≤ 11 → F (m - 1) k' = F0 (m - 1) k') ∧
  (∀ i', i' < i ∨ F0 i' 5 = -1 ∨ F0 i' 0 = 8 → F i' 4 = F0 i' 4) ∧
  (∀ i' i2, i ≤ i2 → i2 < i' → i' < m → F0 i' 0 = 8 → ¬ F0 i2 5 = -1 → ¬ F0 i2 0 = 8 → F0 i' 5 = F0 i2 5 → F i2 4 = F i2 10 - F i' 10 + 1) ∧
  (D 2 = sd (fun k => F k 11) m (m - i) ∧ D 3 = sd (fun k => if F0 k 0 = 1 then 1 else 0) m (m - i) ∧ D 4 = sd (fun k => if F0 k 6 = -1 then 0 else xx (F0 k 6).toInt.toNat) m (m - i) ∧ D 5 = sx (fun k => F k 10) m (m - i))
section SET2
variable {G : hg_E} {S S' : hg_S} {a5 a6 a7 m xA xc dA tm : Nat} {P : Nat → Nat} {c1 c2 : Nat → Option Nat} {xx : Nat → Int32} {F : Nat → Nat → Int32} {D : Nat → Int32}
theorem set2_w (v : DV G S a5 a6 a7 P m c1 c2 xA xc xx F D) (hD : D 2 = 0 ∧ D 3 = 0 ∧ D 4 = 0 ∧ D 5 = 0) (hd : hg_at S.1 dA = some (.inl (G.1 0, tm, .inl (fun _ => 0)))) (hdn : ∀ i, i < m → dA ≠ P i) (hd5 : dA ≠ a5) (hdx : dA ≠ xA) (hT : trN m tm xc c1 c2 F) {x : Int32} (hx : x.toInt = (m : Int) - 1) : dc_wp (dc_it (hm_DR_settle_s66 G a5 (some dA)) (S, x)) (fun S' => ∃ F' D', DV G S' a5 a6 a7 P m c1 c2 xA xc xx F' D' ∧ frE P m a5 dA S S' ∧ wdn m c1 c2 xx F F' D' 0) := by
  have hm := v.1.2
  obtain ⟨hU, hne, hTN, hnb, htb⟩ := hT
  refine dc_itK (fun k (q : hg_S × Int32) => ∃ i F' D' dd, (i ≤ m ∧ q.2.toInt = (i : Int) - 1 ∧ k = i) ∧ DV G q.1 a5 a6 a7 P m c1 c2 xA xc xx F' D' ∧ hg_at q.1.1 dA = some (.inl (G.1 0, tm, .inl dd)) ∧ frE P m a5 dA S q.1 ∧ wdn m c1 c2 xx F F' D' i ∧ ∀ i', i ≤ i' → i' < m → F i' 0 = 8 → ¬ F i' 5 = -1 → dd (F i' 5).toInt.toNat = F' i' 10) ?_ m (S, x) ⟨m, F, D, fun _ => 0, ⟨Nat.le_refl _, hx, rfl⟩, v, hd, frE.rf, ⟨fun _ _ _ _ => rfl, fun i' h1 h2 => absurd h2 (by omega), fun _ _ _ => rfl, fun _ _ => rfl, fun i' i2 h1 h2 h3 => absurd h3 (by omega), ?_⟩, fun i' h1 h2 => absurd h2 (by omega)⟩
  · rintro k ⟨Sx, y⟩ ⟨i, F', D', dd, ⟨h1, h2, h3⟩, w, hdx', fr, wd, hdd⟩
    have h2 : y.toInt = (i : Int) - 1 := h2
    have w : DV G Sx a5 a6 a7 P m c1 c2 xA xc xx F' D' := w
    have hdx' : hg_at Sx.1 dA = some (.inl (G.1 0, tm, .inl dd)) := hdx'
    have fr : frE P m a5 dA S Sx := fr
    show dc_wp (hm_DR_settle_b66 G Sx a5 (some dA) y) _
    delta hm_DR_settle_b66
    refine wq_if (fun z => ?_) (fun z => ?_)
    · have z := i_lt.mp z
      rw [il_0] at z
      have i0 : i = 0 := by omega
      subst i0
      exact ⟨_, rfl, F', D', w, fr, wd⟩
    · have z : ¬ y.toInt < (0 : Int32).toInt := fun t => z (i_lt.mpr t)
      rw [il_0] at z
      obtain ⟨j, rfl⟩ : ∃ j, i = j + 1 := ⟨i - 1, by omega⟩
      have hj : j < m := by omega
      have ey : y = Int32.ofNat j := by
        refine i_eq.mpr ?_
        rw [Int32.toInt_ofNat_of_lt (by omega)]
        omega
      obtain ⟨J1, J2, J3, J4, J6, J7⟩ := wd
      have f5 : F' j 5 = F j 5 := J1 j 5 (by omega) (by omega)
      have f6 : F' j 6 = F j 6 := J1 j 6 (by omega) (by omega)
      have f0 : F' j 0 = F j 0 := J1 j 0 (by omega) (by omega)
      have f4 : F' j 4 = F j 4 := J4 j (Or.inl (by omega))
      refine wn_l w ?_
      rw [ey]
      refine wn_get w hj ?_
      refine wq_chk (w.nd hj) ?_
      refine wq_chk w.2.1 ?_
      refine wq_call (spread_w w hdx' hdn hd5 hdx hj (by rw [f5]; exact hnb j hj) (by rw [f6]; exact htb j hj)) ?_
      rintro S2 ⟨D2, w2, hd2, fr2, ⟨e2, e3, e4, e5⟩⟩
      have yd : (Int32.ofNat j + (-1)).toInt = (j : Int) - 1 := by
        rw [← ey]
        exact (i_dec (by omega)).trans (by omega)
      have ch : ∀ c, c1 j = some c ∨ c2 j = some c → c < j := fun c hc => w.ch hj hc
      have nc : ∀ i', j ≤ i' → ¬ c1 j = some i' ∧ ¬ c2 j = some i' := fun i' h => ⟨fun t => by have := ch i' (Or.inl t); omega, fun t => by have := ch i' (Or.inr t); omega⟩
      have up : ∀ i' k', j ≤ i' → ¬ k' = 4 → spF c1 c2 F' dd j i' k' = F' i' k' := fun i' k' h h4 => spF_n (Or.inl (nc i' h)) (Or.inr h4)
      have nj : ∀ k', ¬ k' = 4 → fU F' j 4 (nuN F' dd j) j k' = F' j k' := fun k' h => fU_k h
      refine ⟨_, rfl, j, by omega, j, _, D2, _, ⟨by omega, yd, rfl⟩, w2, hd2, fr.tr fr2, ⟨?_, ?_, ?_, ?_, ?_, ?_⟩, ?_⟩
      · intro i' k' h4 h8
        exact (spF_n (Or.inr h8) (Or.inr h4)).trans (J1 i' k' h4 h8)
      · intro i' hi1 hi2
        by_cases ei : i' = j
        · subst ei
          exact f12_HE (fun c hc => hne i' c hi2 hc) (fun c hc => by have := ch c (Or.inl hc); omega) (fun c hc => by have := ch c (Or.inr hc); omega)
        · have H := J2 i' (by omega) hi2
          have cc : ∀ c, (c1 i' = some c ∨ c2 i' = some c) → ∀ k', ¬ k' = 4 → spF c1 c2 F' dd j c k' = F' c k' := fun c hc k' h4 => spF_n (Or.inl ⟨fun t => ei (hU i' j c hi2 hj hc (Or.inl t)), fun t => ei (hU i' j c hi2 hj hc (Or.inr t))⟩) (Or.inr h4)
          refine ⟨fun c hc => ?_, fun c hc => ?_⟩
          · rw [cc c (Or.inl hc) 8 (by omega), cc c (Or.inl hc) 9 (by omega), cc c (Or.inl hc) 10 (by omega), cc c (Or.inl hc) 11 (by omega), up i' 8 (by omega) (by omega), up i' 10 (by omega) (by omega), up i' 11 (by omega) (by omega), up i' 0 (by omega) (by omega)]
            exact H.1 c hc
          · have e7 : exN (spF c1 c2 F' dd j) 7 (c1 i') = exN F' 7 (c1 i') := exN_cg (fun c' hc' => cc c' (Or.inl hc') 7 (by omega))
            rw [cc c (Or.inr hc) 8 (by omega), cc c (Or.inr hc) 9 (by omega), cc c (Or.inr hc) 10 (by omega), cc c (Or.inr hc) 11 (by omega), up i' 8 (by omega) (by omega), up i' 10 (by omega) (by omega), up i' 11 (by omega) (by omega), up i' 0 (by omega) (by omega), e7]
            exact H.2 c hc
      · intro k' h8 h11
        rw [up (m - 1) k' (by omega) (by omega)]
        exact J3 k' h8 h11
      · intro i' hi'
        by_cases ei : i' = j
        · subst ei
          rw [spF_4]
          unfold nuN
          rw [f5, f0, f4]
          rcases hi' with t | t | t
          · omega
          · rw [if_pos t]
          · by_cases t5 : F i' 5 = -1
            · rw [if_pos t5]
            · rw [if_neg t5, if_pos t]
        · rw [spF_n (Or.inr (by omega)) (Or.inl ei)]
          exact J4 i' (hi'.imp (fun t => by omega) id)
      · intro i' i2 t1 t2 t3 t4 t5 t6 t7
        by_cases ei : i2 = j
        · subst ei
          rw [spF_4, up i2 10 (by omega) (by omega), up i' 10 (by omega) (by omega)]
          unfold nuN
          rw [f5, f0, if_neg t5, if_neg t6, ← t7, hdd i' (by omega) t3 t4 (by rw [t7]; exact t5)]
        · rw [spF_n (Or.inr (by omega)) (Or.inl ei), up i2 10 (by omega) (by omega), up i' 10 (by omega) (by omega)]
          exact J6 i' i2 (by omega) t2 t3 t4 t5 t6 t7
      · have mj : m - j = (m - (j + 1)) + 1 := by omega
        have mk : m - (m - (j + 1) + 1) = j := by omega
        rw [mj]
        have s11 : sd (fun k => spF c1 c2 F' dd j k 11) m (m - (j + 1)) = sd (fun k => F' k 11) m (m - (j + 1)) := sd_cg _ (by omega) (fun k h1 h2 => up k 11 (by omega) (by omega))
        have s10 : sx (fun k => spF c1 c2 F' dd j k 10) m (m - (j + 1)) = sx (fun k => F' k 10) m (m - (j + 1)) := sx_cg _ (by omega) (fun k h1 h2 => up k 10 (by omega) (by omega))
        refine ⟨?_, ?_, ?_, ?_⟩
        · show D2 2 = sd (fun k => spF c1 c2 F' dd j k 11) m (m - (j + 1)) + spF c1 c2 F' dd j (m - (m - (j + 1) + 1)) 11
          rw [s11, mk, up j 11 (by omega) (by omega), e2, J7.1]
        · show D2 3 = sd (fun k => if F k 0 = 1 then 1 else 0) m (m - (j + 1)) + (if F (m - (m - (j + 1) + 1)) 0 = 1 then 1 else 0)
          rw [mk, e3, f0, J7.2.1]
        · show D2 4 = sd (fun k => if F k 6 = -1 then 0 else xx (F k 6).toInt.toNat) m (m - (j + 1)) + (if F (m - (m - (j + 1) + 1)) 6 = -1 then 0 else xx (F (m - (m - (j + 1) + 1)) 6).toInt.toNat)
          rw [mk, e4, f6, J7.2.2.1]
        · show D2 5 = dc_max (sx (fun k => spF c1 c2 F' dd j k 10) m (m - (j + 1))) (spF c1 c2 F' dd j (m - (m - (j + 1) + 1)) 10)
          rw [s10, mk, up j 10 (by omega) (by omega), e5, J7.2.2.2]
      · intro i' t1 t2 t3 t4
        rw [up i' 10 (by omega) (by omega)]
        unfold ddN
        rw [f5, f0]
        by_cases ei : i' = j
        · subst ei
          rw [if_neg t4, if_pos t3, upd_s]
        · have old := hdd i' (by omega) t2 t3 t4
          by_cases c5 : F j 5 = -1
          · rw [if_pos c5]; exact old
          · rw [if_neg c5]
            by_cases c8 : F j 0 = 8
            · rw [if_pos c8, upd_n (fun t => ?_)]
              · exact old
              · have b1 := hnb i' t2 t4
                have b2 := hnb j hj c5
                exact ei (hTN i' j t2 hj t3 c8 t4 (i_nn b1.1 b2.1 t))
            · rw [if_neg c8]; exact old
  · rw [Nat.sub_self]
    exact hD
end SET2
