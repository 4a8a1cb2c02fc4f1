/-! the class's fold: the truths of a half, and all of it -/
section FOX
variable {G : hg_E} {E : nwE} {S : hg_S} {q qa : rsT} {M r : md_S} {n made oA cnt pa ins out i : Nat} {ph bA : Nat → Nat}
theorem tbv_t (hL : LYo M r cnt ins out pa n) {c : Nat} (hc : c < 8192) : (tbv r i c = -1 ∧ trT M cnt ins out pa c i) ∨ (tbv r i c = -2 ∧ ¬ trT M cnt ins out pa c i) := by
  have h := hL.2.2.2.2.2 c hc i
  unfold tbv
  by_cases e : g64 (r.2.2.2 c) i = true
  · rw [if_pos e]; exact Or.inl ⟨rfl, h.mp e⟩
  · rw [if_neg e]; exact Or.inr ⟨rfl, fun z => e (h.mpr z)⟩
/-- numbers of a net that was begun for the program -/
def netN (q : rsT) (ins out pa : Nat) : Prop := q.2 10 = Int32.ofNat ins ∧ q.2 11 = Int32.ofNat out ∧ q.2 12 = Int32.ofNat pa ∧ q.2 13 = Int32.ofNat (out + pa + 1)
theorem fo_w (hE : nwS E) (hA : netA G E oA bA qa) (hX : EXa G E.1 M oA bA qa cnt pa ins) (hL : LYo M r cnt ins out pa n) (ho : out ≤ 31) (hi : i < out + pa + 1) {q0 : rsT} {made0 : Nat} {ph0 : Nat → Nat} (hq : netN q0 ins out pa) {fi : Nat} (hfi : fi < 2) (hF : foW G E S r n q0 made0 ph0 q made ph) : dc_wp (hm_NT_fold G S E.2.1 (Int32.ofNat i) (Int32.ofNat fi) (some oA)) (fun z => ∃ k q1 made1 ph1, z.2 = Int32.ofNat k ∧ k < made1 ∧ foW G E z.1 r n q0 made0 ph0 q1 made1 ph1 ∧ made ≤ made1 ∧ (∀ j, j < made → nvC ph1 j = nvC ph j) ∧ vr r n (tbv r i) 12 fi (nvC ph1 k)) := by
  have i4 := hX.2.2.1.2.2.1
  have p8 := hX.2.2.1.2.2.2
  obtain ⟨h10, h11, h12, h13⟩ := hq
  obtain ⟨bb0, cap0, N0, I0, G0, m0, p0⟩ := id hF
  -- one half: the pauses that count
  have half : ∀ pq, pq ≤ 8 → pq = (if fi = 0 then pa else 0) → dc_wp (hm_NT_fold_L12 G S E.2.1 (Int32.ofNat i) (Int32.ofNat fi) (some oA) (Int32.ofNat pq)) (fun z => ∃ k q1 made1 ph1, z.2 = Int32.ofNat k ∧ k < made1 ∧ foW G E z.1 r n q0 made0 ph0 q1 made1 ph1 ∧ made ≤ made1 ∧ (∀ j, j < made → nvC ph1 j = nvC ph j) ∧ vr r n (tbv r i) 12 fi (nvC ph1 k)) := by
    intro pq hpq epq
    obtain ⟨w0, w1⟩ := wdt_0 ins i4 pq hpq
    have wb := wdt_b ins i4 pq hpq 0 (by omega)
    have tW : (Int32.ofNat (wdt pq ins 0)).toInt = (wdt pq ins 0 : Int) := Int32.toInt_ofNat_of_lt (by omega)
    have l12 : ∀ j, ebr pq ins 12 j < 4096 := fun j => ebr_lt 12 j
    have f4 : fi = 0 ∨ fi = 1 := by omega
    delta hm_NT_fold_L12
    refine nw_i N0 (i := 10) (by decide) (by decide) ?_
    rw [G0.2 10 (by omega), h10]
    refine wq_let (fun w ew => ?_)
    rw [w1] at ew
    subst ew
    have key := dc_itK (step := hm_NT_fold_s28 G E.2.1 (Int32.ofNat i) (Int32.ofNat fi) (some oA) (Int32.ofNat pq) (Int32.ofNat (wdt pq ins 0))) (fun d (y : hg_S × Int32) => ∃ j q1, y.2 = Int32.ofNat j ∧ j ≤ wdt pq ins 0 ∧ d = wdt pq ins 0 - j ∧ foW G E y.1 r n q0 made0 ph0 q1 made ph ∧ ∀ k, k < j → nlP q1 r n made ph (tbv r i) 0 (fi * 4096 + ebr pq ins 12 k) k) (F := fun S1 => ∃ q1, foW G E S1 r n q0 made0 ph0 q1 made ph ∧ ∀ k, k < wdt pq ins 0 → nlP q1 r n made ph (tbv r i) 0 (fi * 4096 + ebr pq ins 12 k) k) (by
      rintro d ⟨Y, y⟩ ⟨j, q1, ey, j1, ed, hF1, hd⟩
      have ey : y = Int32.ofNat j := ey
      have hF1 : foW G E Y r n q0 made0 ph0 q1 made ph := hF1
      subst ey
      have tj : (Int32.ofNat j).toInt = (j : Int) := Int32.toInt_ofNat_of_lt (by omega)
      have tjn : (Int32.ofNat j).toInt.toNat = j := by omega
      obtain ⟨bb1, cap1, N1, I1, G1, m1, p1⟩ := id hF1
      have A1 := nA_w N1 hA
      show dc_wp (hm_NT_fold_b28 G Y E.2.1 (Int32.ofNat i) (Int32.ofNat fi) (some oA) (Int32.ofNat pq) (Int32.ofNat (wdt pq ins 0)) (Int32.ofNat j)) _
      delta hm_NT_fold_b28
      refine wq_if (fun a => ?_) (fun a => ?_)
      · have a := i_lt.mp a
        rw [tj, tW] at a
        have c8 : fi * 4096 + ebr pq ins 12 j < 8192 := by
          have := l12 j
          rcases f4 with e | e <;> rw [e] <;> omega
        -- the truth is put down
        have put : ∀ s, s < 257 → (trT M cnt ins out pa (fi * 4096 + ebr pq ins 12 j) i ↔ trP qa out pa i s (trn j ins)) → dc_wp (hm_NT_fold_L57 G Y E.2.1 (Int32.ofNat i) (Int32.ofNat fi) (some oA) (Int32.ofNat pq) (Int32.ofNat (wdt pq ins 0)) (Int32.ofNat j) (Int32.ofNat s)) (Sum.elim (fun (y : hg_S × Int32) => ∃ k', k' < d ∧ ∃ j q1, y.2 = Int32.ofNat j ∧ j ≤ wdt pq ins 0 ∧ k' = wdt pq ins 0 - j ∧ foW G E y.1 r n q0 made0 ph0 q1 made ph ∧ ∀ k, k < j → nlP q1 r n made ph (tbv r i) 0 (fi * 4096 + ebr pq ins 12 k) k) (fun S1 => ∃ q1, foW G E S1 r n q0 made0 ph0 q1 made ph ∧ ∀ k, k < wdt pq ins 0 → nlP q1 r n made ph (tbv r i) 0 (fi * 4096 + ebr pq ins 12 k) k)) := by
          intro s hs htr
          have tl := trn_lt (N := j) (w := ins)
          have t16 : 2 ^ ins ≤ 2 ^ 4 := Nat.pow_le_pow_right (by decide) i4
          have e16 : 2 ^ 4 = 16 := rfl
          delta hm_NT_fold_L57
          refine nw_g N1 (i := 0) (by decide) ?_
          refine nw_i N1 (i := 10) (by decide) (by decide) ?_
          rw [G1.2 10 (by omega), h10]
          refine wq_call (trn_w (by omega) (by omega)) (fun v ev => ?_)
          subst ev
          refine nw_c N1 ?_
          refine wq_call (tru_w N1 A1 (by rw [G1.2 11 (by omega)]; exact h11) (by rw [G1.2 13 (by omega)]; exact h13) ho p8 hi hs (by omega)) (fun v hv => ?_)
          refine nw_s N1 (i := 0) (by decide) (by omega) (by show (Int32.ofNat j).toInt < ((4096 : Nat) : Int); omega) (fun S3 g3 => ?_)
          rw [tjn] at g3
          have u0 : ∀ k, ¬ k = j → (uX q1 0 j v).1 0 k = q1.1 0 k := fun k hk => by rw [uX_s, upd_n hk]
          refine ⟨_, rfl, wdt pq ins 0 - (j + 1), by omega, j + 1, _, ad_m (by omega), by omega, rfl, ⟨bb1, cap1, g3, nc_l I1 (fun x h0 _ => uX_n h0) rfl, nuG_t G1 ⟨uX_n (by omega), fun _ _ => rfl⟩, m1, p1⟩, fun k hk => ?_⟩
          by_cases ek : k = j
          · rw [ek]
            have m2 := I1.1.2.1
            have us : (uX q1 0 j v).1 0 j = v := by rw [uX_s, upd_s]
            rcases hv with ⟨v1, v2⟩ | ⟨v1, v2⟩
            · refine ⟨1, by omega, by rw [us, v1]; rfl, ?_⟩
              show nvC ph 1 = tbv r i _
              rcases tbv_t (i := i) hL c8 with ⟨w, -⟩ | ⟨-, w⟩
              · rw [w]; rfl
              · exact absurd (htr.mpr v2) w
            · refine ⟨0, by omega, by rw [us, v1]; rfl, ?_⟩
              show nvC ph 0 = tbv r i _
              rcases tbv_t (i := i) hL c8 with ⟨-, w⟩ | ⟨w, -⟩
              · exact absurd (htr.mp w) v2
              · rw [w]; rfl
          · exact nlP_k (hd k (by omega)) (u0 k ek) (Nat.le_refl _) (fun _ _ => rfl)
        rcases f4 with e | e
        · subst e
          rw [if_pos rfl] at epq
          subst epq
          rw [if_pos (show Int32.ofNat 0 = 0 from rfl)]
          refine nw_i N1 (i := 10) (by decide) (by decide) ?_
          rw [G1.2 10 (by omega), h10, us_n (by omega) i4]
          have dl : j / 2 ^ ins ≤ j := Nat.div_le_self _ _
          refine wq_call (trn_w (by omega) hpq) (fun v ev => ?_)
          subst ev
          have sl : trn (j / 2 ^ ins) pq < 257 := by
            have := trn_lt (N := j / 2 ^ ins) (w := pq)
            have : 2 ^ pq ≤ 2 ^ 8 := Nat.pow_le_pow_right (by decide) hpq
            have : 2 ^ 8 = 256 := rfl
            omega
          refine put _ sl ?_
          rw [show 0 * 4096 = 0 from rfl]
          exact tr_c hX
        · subst e
          rw [if_neg (by decide)] at epq
          subst epq
          rw [if_neg (by decide)]
          refine put 256 (by omega) ?_
          rw [show 1 * 4096 = 4096 from rfl]
          exact tr_f hX
      · have a : ¬ (Int32.ofNat j).toInt < (Int32.ofNat (wdt pq ins 0)).toInt := fun z => a (i_lt.mpr z)
        rw [tj, tW] at a
        exact ⟨_, rfl, q1, hF1, fun k hk => hd k (by omega)⟩)
    delta hm_NT_fold_L28
    refine wq_call (key (wdt pq ins 0) (S, 0) ⟨0, q, rfl, by omega, rfl, hF, fun k hk => absurd hk (by omega)⟩) ?_
    rintro S1 ⟨q1, hF1, hl1⟩
    obtain ⟨bb1, cap1, N1, I1, G1, m1, p1⟩ := id hF1
    have hF2 : foW G E S1 r n q1 made ph q1 made ph := ⟨bb1, cap1, N1, I1, ⟨rfl, fun _ _ => rfl⟩, Nat.le_refl _, fun _ _ => rfl⟩
    refine wq_w (fo_all hE hL hi i4 hfi hpq (by rw [G1.2 10 (by omega)]; exact h10) (fun b hb hb0 c c1 c2 ct => ?_) hF2 hl1) ?_
    · have nb : ¬ bth pq ins b = true := by rw [hb0]; decide
      have c8 : c < 8192 := by rcases f4 with e | e <;> rw [e] at c2 <;> omega
      rcases tbv_t (i := i) hL c8 with ⟨-, w⟩ | ⟨w, -⟩
      · exfalso
        rcases f4 with e | e
        · subst e
          rw [if_pos rfl] at epq
          subst epq
          exact tr_z hX (by omega) hb nb ct w
        · subst e
          rw [if_neg (by decide)] at epq
          subst epq
          exact tr_y hX (by omega) c8 hb nb ct w
      · exact w
    · rintro ⟨S2, v⟩ ⟨k, q2, made2, ph2, ev, k1, ⟨bb2, cap2, N2, I2, G2, m2, p2⟩, k3⟩
      exact ⟨k, q2, made2, ph2, ev, k1, ⟨bb2, cap2, N2, I2, nuG_t G1 G2, by omega, fun j hj => by rw [p2 j (by omega)]; exact p1 j hj⟩, m2, p2, k3⟩
  delta hm_NT_fold
  have f4 : fi = 0 ∨ fi = 1 := by omega
  rcases f4 with e | e
  · subst e
    rw [if_pos (show Int32.ofNat 0 = 0 from rfl)]
    refine nw_i N0 (i := 12) (by decide) (by decide) ?_
    rw [G0.2 12 (by omega), h12]
    exact half pa p8 (by rw [if_pos rfl])
  · subst e
    rw [if_neg (by decide)]
    exact half 0 (by omega) (by rw [if_neg (by decide)])
end FOX
