/-! an engine with a program: the class beside the reference -/
/-- what stays of the reference's program -/
def mdE (M M' : md_S) : Prop := (∀ i, 41 ≤ i → i ≤ 50 → M'.1 i = M.1 i) ∧ ∀ i, (51 ≤ i ∧ i ≤ 66) ∨ i = 68 ∨ i = 69 → M'.2.1 i = M.2.1 i
section LDC
variable {G : hg_E} {S S' : hg_S} {M M' : md_S} {T : tT} {t0 u n ps sg io pa : Nat} {R : Nat → Nat → Int32} {c : Nat → Int32}
theorem mdE_tr {M'' : md_S} (h : mdE M M') (g : mdE M' M'') : mdE M M'' := ⟨fun i h1 h2 => (g.1 i h1 h2).trans (h.1 i h1 h2), fun i hi => (g.2 i hi).trans (h.2 i hi)⟩
theorem pgT_c (h : pgT M T n ps) (e : mdE M M') : pgT M' T n ps := by
  obtain ⟨kk, ff, ss, xx, m, names, ⟨W, hm⟩, hO, hw, ⟨hL, hC⟩, ⟨en, et, e47', e48, e49, e62⟩, ⟨hnd, hlc⟩, t1⟩ := h
  have ea : ∀ i, 51 ≤ i → i ≤ 66 → M'.2.1 i = M.2.1 i := fun i h1 h2 => e.2 i (Or.inl ⟨h1, h2⟩)
  refine ⟨kk, ff, ss, xx, m, names, ⟨W, hm⟩, ?_, hw, ⟨?_, ?_⟩, ⟨en, et, by rw [e.1 47 (by omega) (by omega)]; exact e47', by rw [e.1 48 (by omega) (by omega)]; exact e48, by rw [e.1 49 (by omega) (by omega)]; exact e49, by rw [ea 62 (by omega) (by omega)]; exact e62⟩, ⟨hnd, fun y hy => ?_⟩, t1⟩
  · rw [e.1 45 (by omega) (by omega), e.1 46 (by omega) (by omega)]; exact hO
  · exact LPr_h W (ea 63 (by omega) (by omega)) (ea 64 (by omega) (by omega)) (ea 65 (by omega) (by omega)) (ea 66 (by omega) (by omega)) T _ _ _ _ _ _ _ hO (fun i j hi _ _ _ => by rw [ea i (by omega) (by omega)]) (fun j _ _ _ => by rw [ea 54 (by omega) (by omega)]) hL
  · exact CPr_s (ea 55 (by omega) (by omega)) (ea 59 (by omega) (by omega)) (fun j _ => by rw [ea 54 (by omega) (by omega)]) T _ _ _ _ _ _ _ _ hO hL hC
  · rw [e.1 45 (by omega) (by omega), e.1 46 (by omega) (by omega), e.1 44 (by omega) (by omega)]; exact hlc y hy
theorem pgB_c (h : pgB M n) (e : mdE M M') : pgB M' n := by
  have ea : ∀ i, 51 ≤ i → i ≤ 66 → M'.2.1 i = M.2.1 i := fun i h1 h2 => e.2 i (Or.inl ⟨h1, h2⟩)
  unfold pgB
  rw [e.1 50 (by omega) (by omega), ea 51 (by omega) (by omega), ea 57 (by omega) (by omega), ea 61 (by omega) (by omega)]
  exact h
theorem rEqF_c (h : rEqF R M.2.1 n ps) (e : mdE M M') : rEqF R M'.2.1 n ps := by
  have ea : ∀ i, 51 ≤ i → i ≤ 66 → M'.2.1 i = M.2.1 i := fun i h1 h2 => e.2 i (Or.inl ⟨h1, h2⟩)
  unfold rEqF
  rw [ea 51 (by omega) (by omega), ea 52 (by omega) (by omega), ea 53 (by omega) (by omega), ea 54 (by omega) (by omega), ea 55 (by omega) (by omega), ea 56 (by omega) (by omega), ea 57 (by omega) (by omega), ea 58 (by omega) (by omega), ea 59 (by omega) (by omega), ea 62 (by omega) (by omega), ea 63 (by omega) (by omega), ea 64 (by omega) (by omega), ea 65 (by omega) (by omega), ea 66 (by omega) (by omega)]
  exact h
theorem pgA_b {i : Nat} (h : i < 16) (h10 : ¬ i = 10) : u + 2 ≤ pgA (u + 1) (fun _ => 0) i ∧ pgA (u + 1) (fun _ => 0) i < u + 18 := by
  unfold pgA
  by_cases c1 : i < 10
  · rw [if_pos c1]; omega
  · rw [if_neg c1, if_neg h10, if_pos h]; omega
theorem reB_b {i : Nat} (h1 : 1 ≤ i) (h2 : i < 12) : u + 19 ≤ reB (u + 19) i ∧ reB (u + 19) i < u + 30 := by
  unfold reB
  by_cases c1 : i < 3
  · rw [if_pos c1]; omega
  · rw [if_neg c1]
    by_cases c2 : i < 5
    · rw [if_pos c2]; omega
    · rw [if_neg c2]; omega
theorem reB_i {i j : Nat} (h1 : 1 ≤ i) (h2 : i < 12) (g1 : 1 ≤ j) (g2 : j < 12) (e : reB (u + 19) i = reB (u + 19) j) : i = j := by
  unfold reB at e
  by_cases c1 : i < 3
  · rw [if_pos c1] at e
    by_cases d1 : j < 3
    · rw [if_pos d1] at e; omega
    · rw [if_neg d1] at e
      by_cases d2 : j < 5
      · rw [if_pos d2] at e; omega
      · rw [if_neg d2] at e; omega
  · rw [if_neg c1] at e
    by_cases c2 : i < 5
    · rw [if_pos c2] at e
      by_cases d1 : j < 3
      · rw [if_pos d1] at e; omega
      · rw [if_neg d1] at e
        by_cases d2 : j < 5
        · rw [if_pos d2] at e; omega
        · rw [if_neg d2] at e; omega
    · rw [if_neg c2] at e
      by_cases d1 : j < 3
      · rw [if_pos d1] at e; omega
      · rw [if_neg d1] at e
        by_cases d2 : j < 5
        · rw [if_pos d2] at e; omega
        · rw [if_neg d2] at e; omega
theorem pgS_c (h : pgS G S M t0 u n ps sg io pa R c) (e : mdE M M') (hs : ∀ b, t0 ≤ b → b < u + 18 → hg_at S'.1 b = hg_at S.1 b) (ht : t0 ≤ u) : pgS G S' M' t0 u n ps sg io pa R c := by
  obtain ⟨⟨nm, hnm, hpg⟩, hre, ⟨e42, e43, e44, k1, k2, k3, k4, k5, e456, e47⟩, hb, hi⟩ := h
  refine ⟨⟨nm, ?_, ?_⟩, rEqF_c hre e, ⟨by rw [e.1 42 (by omega) (by omega)]; exact e42, by rw [e.1 43 (by omega) (by omega)]; exact e43, by rw [e.1 44 (by omega) (by omega)]; exact e44, by rw [e.1 45 (by omega) (by omega)]; exact k1, by rw [e.1 46 (by omega) (by omega)]; exact k2, by rw [e.1 47 (by omega) (by omega)]; exact k3, by rw [e.1 48 (by omega) (by omega)]; exact k4, by rw [e.1 49 (by omega) (by omega)]; exact k5, by rw [e.1 45 (by omega) (by omega), e.1 46 (by omega) (by omega)]; exact e456, by rw [e.1 47 (by omega) (by omega)]; exact e47⟩, hb, by rw [e.1 45 (by omega) (by omega), e.1 46 (by omega) (by omega)]; exact hi⟩
  · obtain ⟨tx, fA, eA, sA, cap, tl, ff, ee, ss, tf, sc, ⟨b1, b2, b3, b4, b5⟩, hv, hx, hc, hn⟩ := hnm
    refine ⟨tx, fA, eA, sA, cap, tl, ff, ee, ss, tf, sc, ⟨b1, b2, b3, b4, b5⟩, ?_, by rw [hs tx b1.1 (by omega)]; exact hx, hc, ?_⟩
    · unfold nmv at hv ⊢
      rw [hs nm b2.1 (by omega), hs fA b3.1 (by omega), hs eA b4.1 (by omega), hs sA b5.1 (by omega)]
      exact hv
    · rw [e.2 69 (by omega), e.2 68 (by omega)]
      exact hn
  · obtain ⟨p1, p2, p3⟩ := hpg
    refine ⟨by rw [hs u ht (by omega)]; exact p1, by rw [hs (u + 1) (by omega) (by omega)]; exact p2, fun i h1 h2 => ?_⟩
    have := pgA_b (u := u) h1 h2
    rw [hs _ (by omega) (by omega)]
    exact p3 i h1 h2
theorem plc_cg {kd wt kd' wt' : Nat → Int32} : ∀ n, (∀ j, j < n → kd j = kd' j ∧ wt j = wt' j) → plc kd wt io n = plc kd' wt' io n
  | 0, _ => rfl
  | n + 1, h => by
    show plc kd wt io n + (if kd n = 10 then (wt n).toInt.toNat else 0) = plc kd' wt' io n + (if kd' n = 10 then (wt' n).toInt.toNat else 0)
    rw [plc_cg n (fun j hj => h j (by omega)), (h n (by omega)).1, (h n (by omega)).2]
/-- a reactor at work in the engine's heap -/
def ldE (S : hg_S) (u nm n ps sg io pa : Nat) (R : Nat → Nat → Int32) (c : Nat → Int32) : rvP := (S, (u + 18, u, nm, u + 1), pgA (u + 1) (fun _ => 0), pgN n ps 0, R, c, Int32.ofNat ps, reB (u + 19), reN sg (plc (R 0) (R 7) io n) ps n pa)
theorem ld_RV {nm : Nat} {X : Nat → Nat → Int32} {cn : Nat → Int32} (h0 : hw S) (hp : PGv G S u nm (u + 1) (pgA (u + 1) (fun _ => 0)) (pgN n ps 0) R c (Int32.ofNat ps)) (hr : REv G S (u + 18) u (reB (u + 19)) (reN sg (plc (R 0) (R 7) io n) ps n pa) X cn) : RV G (ldE S u nm n ps sg io pa R c) S (X, cn) := by
  refine ⟨⟨h0, rfl, fun i j i1 i2 j1 j2 e => reB_i i1 i2 j1 j2 e, fun i j i1 i2 j1 j2 e => ?_⟩, hr, hp, fun _ _ _ => rfl⟩
  have a1 := pgA_b (u := u) j1 j2
  have a2 := reB_b (u := u) i1 i2
  have e : pgA (u + 1) (fun _ => 0) j = reB (u + 19) i := e
  omega
theorem ld_S {nm ins : Nat} {f : Nat → Int32} (h1 : pgS G S M t0 u n ps sg io pa R c) (hf : plP (R 0) (R 4) (R 7) io n f) (hi : M.1 45 = Int32.ofNat ins ∧ ins ≤ 31) (ht : tsz T = n ∧ (M.1 48).toInt = wsm T 1 ∧ wsm T 1 ≤ 1200 ∧ ∀ y, y ∈ lcT T → (io : Int) ≤ y.toInt) : reS M (ldE S u nm n ps sg io pa R c) f n ps sg pa ins io (lis (M.2.1 51) (M.2.1 57) n) T := by
  obtain ⟨-, hre, ⟨e42, e43, e44, k1, k2, k3, k4, k5, e456, e47⟩, ⟨⟨n1, n2⟩, b2, b3, b4, b5, b6⟩, -⟩ := h1
  have pc : plc (R 0) (R 7) io n = plc (M.2.1 51) (M.2.1 57) io n := plc_cg n (fun j hj => by
    obtain ⟨⟨r0, r1, r2, r3, r4, r5, r6, r7, r8⟩, -⟩ := hre.1 j hj
    exact ⟨r0, r7⟩)
  refine ⟨hre, ⟨k1, k2, k4, ht.2.1, ht.2.2.1⟩, ⟨n2, b2, b3, b6, hi.2⟩, ⟨fun i hi => ?_, rfl, rfl, rfl, rfl⟩, ⟨⟨?_, ?_, rfl, rfl, rfl⟩, fun i h1 h2 => ?_, rfl, rfl⟩, fun j hj j10 => ?_, ht.1, rfl, ht.2.2.2⟩
  · show pgN n ps 0 i = n
    unfold pgN
    rw [if_pos (by omega)]
  · show plc (R 0) (R 7) io n = _
    exact pc
  · show plc (R 0) (R 7) io n = _
    exact pc
  · show reN sg (plc (R 0) (R 7) io n) ps n pa i = n
    unfold reN
    rw [if_neg (by omega), if_neg (by omega), if_neg (by omega), if_pos (by omega)]
  · obtain ⟨⟨r0, r1, r2, r3, r4, r5, r6, r7, r8⟩, -⟩ := hre.1 j hj
    have := hf.2 j hj (by rw [r0]; exact j10)
    unfold nuQ
    rw [← r4, this]
    congr 1
    exact plc_cg j (fun i hi => by
      obtain ⟨⟨s0, s1, s2, s3, s4, s5, s6, s7, s8⟩, -⟩ := hre.1 i (by omega)
      exact ⟨s0, s7⟩)
end LDC
