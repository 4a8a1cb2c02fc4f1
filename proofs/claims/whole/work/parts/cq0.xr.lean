/-! explore: class and reference react beside each other, from a state taken up -/
section XRE
variable {G : hg_E} {S : hg_S} {M P : md_S} {T : tT} {t0 u n ps sg io pa hA : Nat} {R : Nat → Nat → Int32} {c : Nat → Int32} {X : Nat → Nat → Int32} {cn : Nat → Int32} {hf : Nat → Int32} {s x6 y : Int32}
theorem inB_256 {p : Nat} (hp : p < 8) : inB 256 p = 0 := by
  have : p = 0 ∨ p = 1 ∨ p = 2 ∨ p = 3 ∨ p = 4 ∨ p = 5 ∨ p = 6 ∨ p = 7 := by omega
  rcases this with e | e | e | e | e | e | e | e <;> subst e <;> decide +kernel
theorem xre_w (h0 : hw S) (hpg : pgS G S M t0 u n ps sg io pa R c) (hpt : pgT M T n ps) (hpb : pgB M n) (hre : REv G S (u + 18) u (reB (u + 19)) (reN sg (plc (R 0) (R 7) io n) ps n pa) X cn) (hpl : plP (R 0) (R 4) (R 7) io n (X 3)) (hrp : reP (X 3) io (X, cn)) (h70 : ∀ i, v3 (M.2.1 70 i)) (ht0 : t0 ≤ u) (hA1 : ¬ (u + 18 ≤ hA ∧ hA < u + 30)) (hh : hg_at S.1 hA = some (.inl (G.1 2, pa, .inl hf))) (hb : ∀ p, p < pa → hf p = if inB s p = 0 then 0 else 1) (hpa8 : pa ≤ 8) (hx : s = 256 ∨ (¬ s = 256 ∧ ∃ p, p < pa ∧ ¬ inB s p = 0)) (hy : (s = 256 ∧ y = 0) ∨ (¬ s = 256 ∧ y = 1)) (eP : mm_place M s = some P) {Rr : md_S × Int32} (eR : mm_react P x6 = some Rr) : dc_wp (hm_RE_react G S (u + 18) x6 y (some hA)) (fun z => ∃ X' cn' ins, (hw z.1 ∧ z.1.2 = S.2) ∧ (∀ b, ¬ (u + 18 ≤ b ∧ b < u + 30) → hg_at z.1.1 b = hg_at S.1 b) ∧ REv G z.1 (u + 18) u (reB (u + 19)) (reN sg (plc (R 0) (R 7) io n) ps n pa) X' cn' ∧ reO P (X 3) ins io pa Rr (X', cn') z.2 ∧ (M.1 45 = Int32.ofNat ins ∧ ins ≤ 31) ∧ rxF P Rr.1 ∧ ∀ i, v3 (Rr.1.2.1 70 i)) := by
  obtain ⟨p1, p2, p3, p4⟩ := place_r eP
  have mE : mdE M P := ⟨fun i a b => p1 i (by omega), fun i hi => p3 i (by omega)⟩
  have pg0 := pgS_c hpg mE (S' := S) (fun _ _ _ => rfl) ht0
  have pt0 := pgT_c hpt mE
  have pb0 := pgB_c hpb mE
  have h77 : P.1 77 = 0 ∨ P.1 77 = 1 := by
    rw [p2]
    by_cases z : s = 256
    · rw [if_pos z]; exact Or.inr rfl
    · rw [if_neg z]; exact Or.inl rfl
  have h70' : ∀ i, v3 (P.2.1 70 i) := fun i => by rw [p3 70 (by omega)]; exact h70 i
  obtain ⟨kk, ff, ss, xx, m, names, ins, ⟨W, hm⟩, hT, hn, hi, ht⟩ := pg_gt pg0 pt0 pb0 h77
  have rO := react_r hm W hT.1 hn h70' eR
  obtain ⟨nm, hnm, hpgv⟩ := pg0.1
  have hRV : RV G (ldE S u nm n ps sg io pa R c) S (X, cn) := ld_RV h0 hpgv hre
  have hS := ld_S (S := S) (nm := nm) pg0 hpl hi ht
  have hat : ∀ S' q', RV G (ldE S u nm n ps sg io pa R c) S' q' → ∀ b, ¬ (u + 18 ≤ b ∧ b < u + 30) → hg_at S'.1 b = hg_at S.1 b := by
    intro S' q' h b hb
    refine h.2.2.2 b (fun e => ?_) (fun i a1 a2 e => ?_)
    · have e : b = u + 18 := e
      omega
    · have e : b = reB (u + 19) i := e
      have := reB_b (u := u) a1 a2
      omega
  have e74 : ∀ p, p < pa → (hf p = 0 ↔ P.2.1 74 p = 0) := by
    intro p hp
    rw [hb p hp, p4 p (by omega)]
    by_cases z : s = 256
    · have zb : inB s p = 0 := by rw [z]; exact inB_256 (by omega)
      rw [if_pos zb, if_neg (fun w => w.1 z)]
    · rw [inB_s (by omega)]
      rcases a1_01 (x := s >>> (Int32.ofNat p &&& (31 : Int32))) with w | w
      · rw [if_pos w, if_neg (fun v => by rw [w] at v; exact absurd v.2.2 (by decide))]
      · rw [if_neg (by rw [w]; decide), if_pos ⟨z, by omega, w⟩]
  have key := rea_w (p := y) (hA := hA) (hf := hf) (r := Rr) (x1 := x6) W hm hT hn hS h70' hRV hrp (fun S' q' h => by rw [hat S' q' h hA hA1]; exact hh) e74 (by
    rw [p2]
    rcases hy with ⟨a1, a2⟩ | ⟨a1, a2⟩
    · rw [if_pos a1, a2]; exact ⟨fun z => absurd z (by decide), fun z => absurd rfl z⟩
    · rw [if_neg a1, a2]; exact ⟨fun _ => by decide, fun _ => rfl⟩) (fun z => by
      rw [p2] at z
      rcases hx with w | ⟨-, p, hp, w⟩
      · rw [if_pos w] at z; exact absurd z (by decide)
      · refine ⟨p, hp, fun v => ?_⟩
        have v := (e74 p hp).mpr v
        rw [hb p hp, if_neg w] at v
        exact absurd v (by decide)) rO
  refine wq_w key ?_
  rintro ⟨S1, v⟩ ⟨⟨X', cn'⟩, gR, rest⟩
  have hi' : M.1 45 = Int32.ofNat ins := by rw [← p1 45 (by omega)]; exact hi.1
  exact ⟨X', cn', ins, ⟨gR.1.1, gR.1.2.1⟩, hat S1 _ gR, gR.2.1, rest, ⟨hi', hi.2⟩, rO.1.1, rO.1.2.1⟩
end XRE
