/-! the class's fold, whole -/
section FOW
variable {G : hg_E} {E : nwE} {S : hg_S} {q qa : rsT} {M r : md_S} {n made oA cnt pa ins out i : Nat} {ph bA : Nat → Nat}
/-- how many places the layer has at bit b -/
def wdt (pq ins b : Nat) : Nat := 2 ^ rnk pq ins b (12 - b)
theorem wdt_0 : ∀ ins, ins ≤ 4 → ∀ pq, pq ≤ 8 → wdt pq ins 0 = 2 ^ (pq + ins) ∧ (1 : Int32) <<< ((Int32.ofNat pq + Int32.ofNat ins) &&& (31 : Int32)) = Int32.ofNat (wdt pq ins 0) := by decide +kernel
theorem wdt_b : ∀ ins, ins ≤ 4 → ∀ pq, pq ≤ 8 → ∀ b, b ≤ 12 → wdt pq ins b ≤ 4096 ∧ 1 ≤ wdt pq ins b := by decide +kernel
theorem wdt_s {pq ins b : Nat} (hb : b < 12) : wdt pq ins b = if bth pq ins b = true then 2 * wdt pq ins (b + 1) else wdt pq ins (b + 1) := by
  unfold wdt
  rw [show 12 - b = (12 - (b + 1)) + 1 by omega]
  show 2 ^ ((if bth pq ins b = true then 1 else 0) + rnk pq ins (b + 1) (12 - (b + 1))) = _
  by_cases c : bth pq ins b = true
  · rw [if_pos c, if_pos c, Nat.pow_add]
  · rw [if_neg c, if_neg c, Nat.zero_add]
theorem dv_2 : ∀ w, w ≤ 2048 → Int32.ofNat (2 * w) / 2 = Int32.ofNat w := by
  intro w hw
  have t1 : (Int32.ofNat (2 * w)).toInt = ((2 * w : Nat) : Int) := Int32.toInt_ofNat_of_lt (by omega)
  have t2 : (Int32.ofNat w).toInt = (w : Int) := Int32.toInt_ofNat_of_lt (by omega)
  rw [i_eq, t2, Int32.toInt_div, t1, il_2, bm32]
  have : ((2 * w : Nat) : Int).tdiv 2 = (w : Int) := by
    rw [Int.tdiv_eq_ediv_of_nonneg (by omega)]
    omega
  rw [this]
  omega
theorem cb_1 : ∀ b, b < 12 → (3 : Int32) - Int32.ofNat b = Int32.ofNat 3 - Int32.ofNat b := fun _ _ => rfl
theorem cmp_e : ∀ b, b < 4 → ∀ ins, ins ≤ 4 → ((3 : Int32) - Int32.ofNat b < Int32.ofNat ins ↔ 3 - b < ins) := by decide +kernel
theorem cmp_p : ∀ b, b < 12 → ∀ pq, pq ≤ 8 → ((11 : Int32) - Int32.ofNat b < Int32.ofNat pq ↔ 11 - b < pq) := by decide +kernel
/-- a leaf with a bit set -/
theorem tb_odd {k b x : Nat} (h1 : (2 * x + 1) * 2 ^ b ≤ k) (h2 : k < (2 * x + 1 + 1) * 2 ^ b) : k.testBit b = true := by
  have p : 0 < 2 ^ b := Nat.pow_pos (by decide)
  have e : k / 2 ^ b = 2 * x + 1 := by
    refine Nat.div_eq_of_lt_le h1 ?_
    exact h2
  rw [Nat.testBit_eq_decide_div_mod_eq, e]
  exact decide_eq_true (by omega)
/-- all bits of a half -/
theorem fo_all (hE : nwS E) (hL : LYo M r cnt ins out pa n) (hi : i < out + pa + 1) (hins : ins ≤ 4) {q0 : rsT} {made0 : Nat} {ph0 : Nat → Nat} {fi pq : Nat} (hfi : fi < 2) (hpq : pq ≤ 8) (h10 : q0.2 10 = Int32.ofNat ins) (hz : ∀ b, b < 12 → bth pq ins b = false → ∀ c, fi * 4096 ≤ c → c < fi * 4096 + 4096 → c.testBit b = true → tbv r i c = -2) (hF : foW G E S r n q0 made0 ph0 q made ph) (hl : ∀ j, j < wdt pq ins 0 → nlP q r n made ph (tbv r i) 0 (fi * 4096 + ebr pq ins 12 j) j) : dc_wp (hm_NT_fold_L89 G S E.2.1 (Int32.ofNat pq) (Int32.ofNat (wdt pq ins 0))) (fun z => ∃ k q1 made1 ph1, z.2 = Int32.ofNat k ∧ k < made1 ∧ foW G E z.1 r n q0 made0 ph0 q1 made1 ph1 ∧ vr r n (tbv r i) 12 fi (nvC ph1 k)) := by
  obtain ⟨-, ⟨-, -, hn⟩, ⟨hU, -⟩, -, hR, -⟩ := hL
  have root := vr_all (hR i hi)
  have key := dc_itK (step := hm_NT_fold_s92 G E.2.1 (Int32.ofNat pq)) (fun d (y : hg_S × Int32 × Int32) => ∃ b q1 made1 ph1, y.2.1 = Int32.ofNat (wdt pq ins b) ∧ y.2.2 = Int32.ofNat b ∧ b ≤ 12 ∧ d = 12 - b ∧ foW G E y.1 r n q0 made0 ph0 q1 made1 ph1 ∧ ∀ j, j < wdt pq ins b → nlP q1 r n made1 ph1 (tbv r i) b (fi * 2 ^ (12 - b) + ebr pq ins (12 - b) j) j) (F := fun S1 => ∃ q1 made1 ph1, foW G E S1 r n q0 made0 ph0 q1 made1 ph1 ∧ nlP q1 r n made1 ph1 (tbv r i) 12 fi 0) (by
    rintro d ⟨Y, y1, y2⟩ ⟨b, q1, made1, ph1, e1, e2, b1, ed, hF1, hl1⟩
    have e1 : y1 = Int32.ofNat (wdt pq ins b) := e1
    have e2 : y2 = Int32.ofNat b := e2
    have hF1 : foW G E Y r n q0 made0 ph0 q1 made1 ph1 := hF1
    subst e1 e2
    have tb : (Int32.ofNat b).toInt = (b : Int) := Int32.toInt_ofNat_of_lt (by omega)
    have hF1' := hF1
    obtain ⟨bb1, cap1, N1, I1, G1, m1, p1⟩ := hF1'
    show dc_wp (hm_NT_fold_b92 G Y E.2.1 (Int32.ofNat pq) (Int32.ofNat (wdt pq ins b)) (Int32.ofNat b)) _
    delta hm_NT_fold_b92
    refine wq_if (fun a => ?_) (fun a => ?_)
    · have a := i_lt.mp a
      rw [tb, il_12] at a
      have b12 : b < 12 := by omega
      have ws := wdt_s (pq := pq) (ins := ins) b12
      have wb := wdt_b ins hins pq hpq b (by omega)
      have wb' := wdt_b ins hins pq hpq (b + 1) (by omega)
      -- the bit, there or not
      have go : ∀ v : Int32, v = (if bth pq ins b = true then 1 else 0) → dc_wp (hm_NT_fold_L139 G Y E.2.1 (Int32.ofNat pq) (Int32.ofNat (wdt pq ins b)) (Int32.ofNat b) v) (Sum.elim (fun (y : hg_S × Int32 × Int32) => ∃ k', k' < d ∧ ∃ b q1 made1 ph1, y.2.1 = Int32.ofNat (wdt pq ins b) ∧ y.2.2 = Int32.ofNat b ∧ b ≤ 12 ∧ k' = 12 - b ∧ foW G E y.1 r n q0 made0 ph0 q1 made1 ph1 ∧ ∀ j, j < wdt pq ins b → nlP q1 r n made1 ph1 (tbv r i) b (fi * 2 ^ (12 - b) + ebr pq ins (12 - b) j) j) (fun S1 => ∃ q1 made1 ph1, foW G E S1 r n q0 made0 ph0 q1 made1 ph1 ∧ nlP q1 r n made1 ph1 (tbv r i) 12 fi 0)) := by
        intro v ev
        have run : dc_wp (hm_NT_fold_L160 G Y E.2.1 (Int32.ofNat pq) (Int32.ofNat (wdt pq ins (b + 1))) (Int32.ofNat b) (if bth pq ins b = true then 1 else 0) 0) (Sum.elim (fun (y : hg_S × Int32 × Int32) => ∃ k', k' < d ∧ ∃ b q1 made1 ph1, y.2.1 = Int32.ofNat (wdt pq ins b) ∧ y.2.2 = Int32.ofNat b ∧ b ≤ 12 ∧ k' = 12 - b ∧ foW G E y.1 r n q0 made0 ph0 q1 made1 ph1 ∧ ∀ j, j < wdt pq ins b → nlP q1 r n made1 ph1 (tbv r i) b (fi * 2 ^ (12 - b) + ebr pq ins (12 - b) j) j) (fun S1 => ∃ q1 made1 ph1, foW G E S1 r n q0 made0 ph0 q1 made1 ph1 ∧ nlP q1 r n made1 ph1 (tbv r i) 12 fi 0)) := by
          refine wq_w (fo_b hE hn hU b12 hfi wb'.1 (fun c hc => ?_) (fun hb0 c hc y hy => ?_) hF1 (fun j hj => hl1 j (by rw [ws]; exact hj)) (by rw [← ws]; exact wb.1)) ?_
          · have := root (12 - b) (by omega) c hc
            rw [show 13 - (12 - b) = b + 1 by omega] at this
            exact this
          · refine vr_z b _ (fun k k1 k2 => ?_) y hy
            have tk := tb_odd k1 k2
            have pw : 2 ^ (11 - b) * 2 ^ (b + 1) = 4096 := by
              rw [← Nat.pow_add, show 11 - b + (b + 1) = 12 by omega]
            have e1 : (2 * (fi * 2 ^ (11 - b) + c) + 1) * 2 ^ b = fi * 4096 + (2 * c + 1) * 2 ^ b := by
              have : 2 * (fi * 2 ^ (11 - b)) * 2 ^ b = fi * 4096 := by
                rw [← pw, Nat.pow_succ, Nat.mul_comm 2 (fi * 2 ^ (11 - b)), Nat.mul_assoc, Nat.mul_assoc, Nat.mul_comm 2 (2 ^ b)]
              rw [show 2 * (fi * 2 ^ (11 - b) + c) + 1 = 2 * (fi * 2 ^ (11 - b)) + (2 * c + 1) by omega, Nat.add_mul, this]
            have e2 : (2 * (fi * 2 ^ (11 - b) + c) + 1 + 1) * 2 ^ b = fi * 4096 + (2 * c + 2) * 2 ^ b := by
              rw [Nat.add_mul, e1, Nat.one_mul, Nat.add_assoc, show (2 * c + 2) * 2 ^ b = (2 * c + 1) * 2 ^ b + 2 ^ b by rw [show 2 * c + 2 = 2 * c + 1 + 1 by omega, Nat.add_mul, Nat.one_mul]]
            have e3 : (2 * c + 2) * 2 ^ b ≤ 4096 := by
              rw [← pw, Nat.pow_succ, show (2 * c + 2) * 2 ^ b = (c + 1) * (2 ^ b * 2) by rw [show 2 * c + 2 = (c + 1) * 2 by omega, Nat.mul_assoc, Nat.mul_comm 2]]
              exact Nat.mul_le_mul_right _ hc
            exact hz b b12 hb0 k (by omega) (by omega) tk
          · rintro z ⟨S1, q2, made2, ph2, ez, f1, f2⟩
            subst ez
            refine ⟨12 - (b + 1), by omega, b + 1, q2, made2, ph2, rfl, rfl, by omega, rfl, f1, fun j hj => ?_⟩
            rw [show 12 - (b + 1) = 11 - b by omega]
            exact f2 j hj
        delta hm_NT_fold_L139 hm_NT_fold_L155
        rw [ev]
        by_cases c : bth pq ins b = true
        · rw [if_pos c] at ws run ⊢
          rw [if_neg (by decide), ws, dv_2 _ (by omega)]
          exact run
        · rw [if_neg c] at ws run ⊢
          rw [if_pos rfl, ws]
          exact run
      have bt : bth pq ins b = true ↔ (b < 4 ∧ 3 - b < ins) ∨ (4 ≤ b ∧ b < 12 ∧ 11 - b < pq) := by
        unfold bth
        simp only [Bool.or_eq_true, Bool.and_eq_true, decide_eq_true_eq]
        omega
      refine wq_if (fun c4 => ?_) (fun c4 => ?_)
      · have c4 := i_lt.mp c4
        rw [tb, il_4] at c4
        refine nw_i N1 (i := 10) (by decide) (by decide) ?_
        rw [G1.2 10 (by omega), h10]
        refine wq_if (fun c5 => go 1 ?_) (fun c5 => go 0 ?_)
        · have := (cmp_e b (by omega) ins hins).mp c5
          rw [if_pos (bt.mpr (Or.inl ⟨by omega, this⟩))]
        · have : ¬ 3 - b < ins := fun z => c5 ((cmp_e b (by omega) ins hins).mpr z)
          rw [if_neg (fun z => by have := bt.mp z; omega)]
      · have c4 : ¬ (Int32.ofNat b).toInt < (4 : Int32).toInt := fun z => c4 (i_lt.mpr z)
        rw [tb, il_4] at c4
        refine wq_if (fun c5 => go 1 ?_) (fun c5 => go 0 ?_)
        · have := (cmp_p b b12 pq hpq).mp c5
          rw [if_pos (bt.mpr (Or.inr ⟨by omega, b12, this⟩))]
        · have : ¬ 11 - b < pq := fun z => c5 ((cmp_p b b12 pq hpq).mpr z)
          rw [if_neg (fun z => by have := bt.mp z; omega)]
    · have a : ¬ (Int32.ofNat b).toInt < (12 : Int32).toInt := fun z => a (i_lt.mpr z)
      rw [tb, il_12] at a
      have eb : b = 12 := by omega
      subst eb
      have := hl1 0 (by have := wdt_b ins hins pq hpq 12 (by omega); omega)
      rw [show fi * 2 ^ (12 - 12) + ebr pq ins (12 - 12) 0 = fi by show fi * 2 ^ 0 + ebr pq ins 0 0 = fi; show fi * 1 + 0 = fi; omega] at this
      exact ⟨_, rfl, q1, made1, ph1, hF1, this⟩)
  delta hm_NT_fold_L89 hm_NT_fold_L92
  refine wq_call (key 12 (S, Int32.ofNat (wdt pq ins 0), 0) ⟨0, q, made, ph, rfl, rfl, by omega, rfl, hF, fun j hj => hl j hj⟩) ?_
  rintro S1 ⟨q1, made1, ph1, f1, k, k1, k2, k3⟩
  have f1' := f1
  obtain ⟨bb1, cap1, N1, I1, G1, m1, p1⟩ := f1'
  delta hm_NT_fold_L234
  refine nw_g N1 (i := 0) (by decide) ?_
  refine nw_l N1 (i := 0) (by decide) (by decide) (by show (0 : Int32).toInt < ((4096 : Nat) : Int); decide) ?_
  rw [show (0 : Int32).toInt.toNat = 0 by decide, k2]
  exact ⟨_, rfl, k, q1, made1, ph1, rfl, k1, f1, k3⟩
end FOW
