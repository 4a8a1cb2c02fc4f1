/-! the class's fold: a function's half, bit by bit -/
theorem vr_all {M : md_S} {n : Nat} {tb : Nat → Int32} {x : Int32} (h : vr M n tb 13 0 x) : ∀ t, t ≤ 13 → ∀ c, c < 2 ^ t → ∃ y, vr M n tb (13 - t) c y
  | 0, _, c, hc => by
    have : c = 0 := by
      have : 2 ^ 0 = 1 := rfl
      omega
    rw [this]
    exact ⟨x, h⟩
  | t + 1, ht, c, hc => by
    have e : 2 ^ (t + 1) = 2 * 2 ^ t := by rw [Nat.pow_succ]; omega
    obtain ⟨y, hy⟩ := vr_all h t (by omega) (c / 2) (by omega)
    rw [show 13 - t = (13 - (t + 1)) + 1 by omega] at hy
    obtain ⟨u, v, h1, h2, -⟩ := hy
    by_cases c2 : c % 2 = 0
    · rw [show 2 * (c / 2) = c by omega] at h1
      exact ⟨u, h1⟩
    · rw [show 2 * (c / 2) + 1 = c by omega] at h2
      exact ⟨v, h2⟩
/-- where the atlas lies, while the net is made -/
def netA (G : hg_E) (E : nwE) (oA : Nat) (bA : Nat → Nat) (qa : rsT) : Prop := (ATv G E.1 oA bA qa.1 qa.2 ∧ ∀ i j, i < 8 → j < 8 → bA i = bA j → i = j) ∧ (oA < E.1.2.1 ∧ oA ≠ E.2.1 ∧ ∀ i, i < 9 → oA ≠ E.2.2.1 i) ∧ ∀ k, k < 8 → bA k < E.1.2.1 ∧ bA k ≠ E.2.1 ∧ ∀ i, i < 9 → bA k ≠ E.2.2.1 i
section FOL
variable {G : hg_E} {E : nwE} {S : hg_S} {bb : Nat → Nat} {cap : Nat} {q qa : rsT} {M r : md_S} {n made oA cnt pa ins out i : Nat} {ph bA : Nat → Nat}
theorem nA_w (hN : NW G E S bb cap q) (h : netA G E oA bA qa) : AW G (S, oA, bA) S qa := by
  obtain ⟨⟨h1, h2⟩, ⟨a1, a2, a3⟩, h4⟩ := h
  refine ⟨⟨hN.1.1, rfl, h2⟩, ⟨by rw [show wO (S, oA, bA) = oA from rfl, hN.2.2.1 oA a1 a2 a3]; exact h1.1, fun k hk => ?_⟩, fun _ _ _ => rfl⟩
  obtain ⟨b1, b2, b3⟩ := h4 k hk
  rw [show wB (S, oA, bA) k = bA k from rfl, hN.2.2.1 _ b1 b2 b3]
  exact h1.2 k hk
/-- the layer is no part of what was made -/
theorem nc_l {q' : rsT} (h : ncI q r n made ph cap) (e : ∀ x, ¬ x = 0 → ¬ x = 3 → q'.1 x = q.1 x) (e9 : q'.2 9 = q.2 9) : ncI q' r n made ph cap := by
  unfold ncI onC
  rw [e9, e 1 (by omega) (by omega), e 2 (by omega) (by omega), e 4 (by omega) (by omega), e 5 (by omega) (by omega), e 6 (by omega) (by omega), e 7 (by omega) (by omega), e 8 (by omega) (by omega)]
  exact h
/-- what stays while a half is folded -/
def nuG (q q' : rsT) : Prop := q'.1 3 = q.1 3 ∧ ∀ i, ¬ i = 9 → q'.2 i = q.2 i
theorem nuG_t {q' q'' : rsT} (h : nuG q q') (g : nuG q' q'') : nuG q q'' := ⟨g.1.trans h.1, fun i hi => (g.2 i hi).trans (h.2 i hi)⟩
/-- a place of the layer stands for a block -/
def nlP (q : rsT) (r : md_S) (n made : Nat) (ph : Nat → Nat) (tb : Nat → Int32) (d c j : Nat) : Prop := ∃ k, k < made ∧ q.1 0 j = Int32.ofNat k ∧ vr r n tb d c (nvC ph k)
/-- the net at work on a function: all that stays of it -/
def foW (G : hg_E) (E : nwE) (S : hg_S) (r : md_S) (n : Nat) (q0 : rsT) (made0 : Nat) (ph0 : Nat → Nat) (q : rsT) (made : Nat) (ph : Nat → Nat) : Prop := ∃ bb cap, NW G E S bb cap q ∧ ncI q r n made ph cap ∧ nuG q0 q ∧ made0 ≤ made ∧ ∀ j, j < made0 → nvC ph j = nvC ph0 j
theorem nlP_k {q' : rsT} {made' : Nat} {ph' : Nat → Nat} {tb : Nat → Int32} {d c j : Nat} (h : nlP q r n made ph tb d c j) (e : q'.1 0 j = q.1 0 j) (hm : made ≤ made') (hp : ∀ k, k < made → nvC ph' k = nvC ph k) : nlP q' r n made' ph' tb d c j := by
  obtain ⟨k, k1, k2, k3⟩ := h
  exact ⟨k, by omega, e.trans k2, by rw [hp k k1]; exact k3⟩
/-- one multiplexer of the layer -/
theorem fo_m (hE : nwS E) (hn : n ≤ 24000) (hU : mxU r n) {tb : Nat → Int32} {q0 : rsT} {made0 : Nat} {ph0 : Nat → Nat} {b a c e : Nat} {x : Int32} (hb : b ≤ 12) (hF : foW G E S r n q0 made0 ph0 q made ph) (ha : a < made) (hc : c < made) (va : vr r n tb b (2 * e) (nvC ph a)) (vc : vr r n tb b (2 * e + 1) (nvC ph c)) (vx : vr r n tb (b + 1) e x) {τ : Type} {Φ : τ → Prop} {X : hg_S × Int32 → Option τ} (kk : ∀ S1 v q1 made1 ph1, foW G E S1 r n q0 made0 ph0 q1 made1 ph1 → q1.1 0 = q.1 0 → made ≤ made1 → (∀ k, k < made → nvC ph1 k = nvC ph k) → (∃ k, k < made1 ∧ v = Int32.ofNat k ∧ vr r n tb (b + 1) e (nvC ph1 k)) → dc_wp (X (S1, v)) Φ) : dc_wp ((hm_NT_multiplexer G S E.2.1 (Int32.ofNat b) (Int32.ofNat a) (Int32.ofNat c)).bind X) Φ := by
  obtain ⟨bb, cap, hN, hI, hG, hm0, hp0⟩ := hF
  have tri : ¬ nvC ph a = nvC ph c → ∃ m, m < n ∧ r.2.1 101 m = Int32.ofNat (12 - b) ∧ r.2.1 102 m = nvC ph a ∧ r.2.1 103 m = nvC ph c := by
    intro ne
    obtain ⟨y, z, h1, h2, h3⟩ := vx
    have ey := vr_u hU b _ _ _ h1 va
    have ez := vr_u hU b _ _ _ h2 vc
    rw [ey, ez] at h3
    rcases h3 with ⟨w, -⟩ | ⟨-, m, m1, -, m3, m4, m5⟩
    · exact absurd w ne
    · exact ⟨m, m1, m3, m4, m5⟩
  refine wq_call (mu_w hE hN hI hn hU hb ha hc tri) ?_
  rintro ⟨S1, v⟩ ⟨bb1, cap1, q1, made1, ph1, k, ev, N1, I1, k1, k2, k3, k4, k5⟩
  refine kk S1 v q1 made1 ph1 ⟨bb1, cap1, N1, I1, nuG_t hG ⟨k4.1.2, k4.2⟩, by omega, fun j hj => by rw [k3 j (by omega)]; exact hp0 j hj⟩ k4.1.1 k2 k3 ⟨k, k1, ev, ?_⟩
  rcases k5 with ⟨e1, e2⟩ | ⟨e1, m, m1, m2, m3, m4, m5⟩
  · exact ⟨_, _, va, vc, Or.inl ⟨e1, e2⟩⟩
  · exact ⟨_, _, va, vc, Or.inr ⟨e1, m, m1, m2, m3, m4, m5⟩⟩
/-- a bit of choices, all places of the layer -/
theorem fo_b (hE : nwS E) (hn : n ≤ 24000) (hU : mxU r n) {tb : Nat → Int32} {q0 : rsT} {made0 : Nat} {ph0 : Nat → Nat} {fi pq b W : Nat} (hb : b < 12) (hfi : fi < 2) (hW : W ≤ 4096) (hroot : ∀ c, c < 2 ^ (12 - b) → ∃ y, vr r n tb (b + 1) c y) (hzero : bth pq ins b = false → ∀ c, c < 2 ^ (11 - b) → ∀ y, vr r n tb b (2 * (fi * 2 ^ (11 - b) + c) + 1) y → y = -2) (hF : foW G E S r n q0 made0 ph0 q made ph) (hl : ∀ j, j < (if bth pq ins b = true then 2 * W else W) → nlP q r n made ph tb b (fi * 2 ^ (12 - b) + ebr pq ins (12 - b) j) j) (hW2 : (if bth pq ins b = true then 2 * W else W) ≤ 4096) {x4 : Int32} : dc_wp (hm_NT_fold_L160 G S E.2.1 x4 (Int32.ofNat W) (Int32.ofNat b) (if bth pq ins b = true then 1 else 0) 0) (fun z => ∃ S1 q1 made1 ph1, z = .inl (S1, Int32.ofNat W, Int32.ofNat (b + 1)) ∧ foW G E S1 r n q0 made0 ph0 q1 made1 ph1 ∧ ∀ j, j < W → nlP q1 r n made1 ph1 tb (b + 1) (fi * 2 ^ (11 - b) + ebr pq ins (11 - b) j) j) := by
  have tW : (Int32.ofNat W).toInt = (W : Int) := Int32.toInt_ofNat_of_lt (by omega)
  have e12 : 12 - b = (11 - b) + 1 := by omega
  have p12 : 2 ^ (12 - b) = 2 * 2 ^ (11 - b) := by rw [e12, Nat.pow_succ]; omega
  have off : fi * 2 ^ (12 - b) = 2 * (fi * 2 ^ (11 - b)) := by rw [p12, Nat.mul_left_comm]
  have eb : ∀ j, ebr pq ins (12 - b) j = if bth pq ins b = true then 2 * ebr pq ins (11 - b) (j / 2) + j % 2 else 2 * ebr pq ins (11 - b) j := fun j => by
    rw [e12]
    show (if bth pq ins (12 - (11 - b + 1)) = true then 2 * ebr pq ins (11 - b) (j / 2) + j % 2 else 2 * ebr pq ins (11 - b) j) = _
    rw [show 12 - (11 - b + 1) = b by omega]
  have key := dc_itK (step := hm_NT_fold_s160 G E.2.1 x4 (Int32.ofNat W) (Int32.ofNat b) (if bth pq ins b = true then 1 else 0)) (fun d (y : hg_S × Int32) => ∃ j q1 made1 ph1, y.2 = Int32.ofNat j ∧ j ≤ W ∧ d = W - j ∧ foW G E y.1 r n q0 made0 ph0 q1 made1 ph1 ∧ (∀ k, k < j → nlP q1 r n made1 ph1 tb (b + 1) (fi * 2 ^ (11 - b) + ebr pq ins (11 - b) k) k) ∧ ∀ k, (if bth pq ins b = true then 2 * j else j) ≤ k → k < (if bth pq ins b = true then 2 * W else W) → nlP q1 r n made1 ph1 tb b (fi * 2 ^ (12 - b) + ebr pq ins (12 - b) k) k) (F := fun S1 => ∃ q1 made1 ph1, foW G E S1 r n q0 made0 ph0 q1 made1 ph1 ∧ ∀ j, j < W → nlP q1 r n made1 ph1 tb (b + 1) (fi * 2 ^ (11 - b) + ebr pq ins (11 - b) j) j) (by
    rintro d ⟨Y, y⟩ ⟨j, q1, made1, ph1, ej, j1, ed, hF1, hd, hu⟩
    have ej : y = Int32.ofNat j := ej
    have hF1 : foW G E Y r n q0 made0 ph0 q1 made1 ph1 := hF1
    subst ej
    have tj : (Int32.ofNat j).toInt = (j : Int) := Int32.toInt_ofNat_of_lt (by omega)
    have tjn : (Int32.ofNat j).toInt.toNat = j := by omega
    show dc_wp (hm_NT_fold_b160 G Y E.2.1 x4 (Int32.ofNat W) (Int32.ofNat b) (if bth pq ins b = true then 1 else 0) (Int32.ofNat j)) _
    delta hm_NT_fold_b160
    refine wq_if (fun a => ?_) (fun a => ?_)
    · have a := i_lt.mp a
      rw [tj, tW] at a
      have hF1' := hF1
      obtain ⟨bb1, cap1, N1, I1, G1, m1, p1⟩ := hF1'
      have n0 : (nN cap1 0 : Int) = 4096 := rfl
      have lt := ebr_lt (pq := pq) (ins := ins) (11 - b) j
      have eb2 : fi * 2 ^ (11 - b) + ebr pq ins (11 - b) j < 2 ^ (12 - b) := by
        have : fi = 0 ∨ fi = 1 := by omega
        rcases this with e | e <;> rw [e] <;> omega
      obtain ⟨x, vx⟩ := hroot _ eb2
      -- it is put down
      have put : ∀ S2 v q2 made2 ph2, foW G E S2 r n q0 made0 ph0 q2 made2 ph2 → q2.1 0 = q1.1 0 → made1 ≤ made2 → (∀ k, k < made1 → nvC ph2 k = nvC ph1 k) → (∃ k, k < made2 ∧ v = Int32.ofNat k ∧ vr r n tb (b + 1) (fi * 2 ^ (11 - b) + ebr pq ins (11 - b) j) (nvC ph2 k)) → dc_wp (hm_NT_fold_L221 G S2 E.2.1 x4 (Int32.ofNat W) (Int32.ofNat b) (if bth pq ins b = true then 1 else 0) (Int32.ofNat j) v (Int32.ofNat j) (some (bb1 0))) (Sum.elim (fun (y : hg_S × Int32) => ∃ k', k' < d ∧ ∃ j q1 made1 ph1, y.2 = Int32.ofNat j ∧ j ≤ W ∧ k' = W - j ∧ foW G E y.1 r n q0 made0 ph0 q1 made1 ph1 ∧ (∀ k, k < j → nlP q1 r n made1 ph1 tb (b + 1) (fi * 2 ^ (11 - b) + ebr pq ins (11 - b) k) k) ∧ ∀ k, (if bth pq ins b = true then 2 * j else j) ≤ k → k < (if bth pq ins b = true then 2 * W else W) → nlP q1 r n made1 ph1 tb b (fi * 2 ^ (12 - b) + ebr pq ins (12 - b) k) k) (fun S1 => ∃ q1 made1 ph1, foW G E S1 r n q0 made0 ph0 q1 made1 ph1 ∧ ∀ j, j < W → nlP q1 r n made1 ph1 tb (b + 1) (fi * 2 ^ (11 - b) + ebr pq ins (11 - b) j) j)) := by
        intro S2 v q2 made2 ph2 hF2 e0 mle hph hv
        have hF2' := hF2
        obtain ⟨bb2, cap2, N2, I2, G2, m2, p2⟩ := hF2'
        have b0 : bb1 0 = bb2 0 := (N1.2.2.2.1.2 0 (by omega)).trans (N2.2.2.2.1.2 0 (by omega)).symm
        delta hm_NT_fold_L221
        rw [b0]
        refine nw_s N2 (i := 0) (by decide) (by omega) (by show (Int32.ofNat j).toInt < ((4096 : Nat) : Int); omega) (fun S3 g3 => ?_)
        rw [tjn] at g3
        have u0 : ∀ k, ¬ k = j → (uX q2 0 j v).1 0 k = q1.1 0 k := fun k hk => by rw [uX_s, upd_n hk, e0]
        refine ⟨_, rfl, W - (j + 1), by omega, j + 1, _, made2, ph2, ad_m (by omega), by omega, rfl, ⟨bb2, cap2, g3, nc_l I2 (fun x h0 _ => uX_n h0) rfl, nuG_t G2 ⟨uX_n (by omega), fun _ _ => rfl⟩, m2, p2⟩, fun k hk => ?_, fun k hk1 hk2 => ?_⟩
        · by_cases ek : k = j
          · obtain ⟨kk, kk1, kk2, kk3⟩ := hv
            rw [ek]
            exact ⟨kk, kk1, by rw [uX_s, upd_s]; exact kk2, kk3⟩
          · exact nlP_k (hd k (by omega)) (u0 k ek) mle hph
        · have hk3 : (if bth pq ins b = true then 2 * j else j) ≤ k ∧ ¬ k = j := by
            by_cases c : bth pq ins b = true
            · rw [if_pos c] at hk1 ⊢; omega
            · rw [if_neg c] at hk1 ⊢; omega
          exact nlP_k (hu k hk3.1 hk2) (u0 k hk3.2) mle hph
      refine nw_g N1 (i := 0) (by decide) ?_
      by_cases c : bth pq ins b = true
      · rw [if_pos c] at hW2 hu ⊢
        rw [if_neg (by decide)]
        have d1 : (2 : Int32) * Int32.ofNat j = Int32.ofNat (2 * j) := by rw [show (2 : Int32) = Int32.ofNat 2 from rfl, ← Int32.ofNat_mul]
        have t2 : (Int32.ofNat (2 * j)).toInt = ((2 * j : Nat) : Int) := Int32.toInt_ofNat_of_lt (by omega)
        have t3 : (Int32.ofNat (2 * j + 1)).toInt = ((2 * j + 1 : Nat) : Int) := Int32.toInt_ofNat_of_lt (by omega)
        rw [if_pos c] at hu
        obtain ⟨ka, ka1, ka2, ka3⟩ := hu (2 * j) (by omega) (by omega)
        obtain ⟨kc, kc1, kc2, kc3⟩ := hu (2 * j + 1) (by omega) (by omega)
        rw [d1, ad_m (by omega)]
        refine nw_g N1 (i := 0) (by decide) ?_
        refine nw_l N1 (i := 0) (by decide) (by omega) (by rw [n0]; omega) ?_
        refine nw_g N1 (i := 0) (by decide) ?_
        refine nw_l N1 (i := 0) (by decide) (by omega) (by rw [n0]; omega) ?_
        rw [show (Int32.ofNat (2 * j)).toInt.toNat = 2 * j by omega, show (Int32.ofNat (2 * j + 1)).toInt.toNat = 2 * j + 1 by omega, ka2, kc2]
        refine nw_c N1 ?_
        rw [eb, if_pos c, off, show (2 * j) / 2 = j by omega, show (2 * j) % 2 = 0 by omega, show 2 * (fi * 2 ^ (11 - b)) + (2 * ebr pq ins (11 - b) j + 0) = 2 * (fi * 2 ^ (11 - b) + ebr pq ins (11 - b) j) by omega] at ka3
        rw [eb, if_pos c, off, show (2 * j + 1) / 2 = j by omega, show (2 * j + 1) % 2 = 1 by omega, show 2 * (fi * 2 ^ (11 - b)) + (2 * ebr pq ins (11 - b) j + 1) = 2 * (fi * 2 ^ (11 - b) + ebr pq ins (11 - b) j) + 1 by omega] at kc3
        refine fo_m hE hn hU (by omega) hF1 ka1 kc1 ka3 kc3 vx (fun S2 v q2 made2 ph2 f1 f2 f3 f4 f5 => ?_)
        rw [if_pos c] at put
        exact put S2 v q2 made2 ph2 f1 f2 f3 f4 f5
      · rw [if_neg c] at hW2 hu ⊢
        rw [if_pos rfl]
        rw [if_neg c] at hu
        obtain ⟨ka, ka1, ka2, ka3⟩ := hu j (by omega) (by omega)
        refine nw_g N1 (i := 0) (by decide) ?_
        refine nw_l N1 (i := 0) (by decide) (by omega) (by rw [n0]; omega) ?_
        rw [tjn, ka2]
        refine nw_c N1 ?_
        rw [eb, if_neg c, off, show 2 * (fi * 2 ^ (11 - b)) + 2 * ebr pq ins (11 - b) j = 2 * (fi * 2 ^ (11 - b) + ebr pq ins (11 - b) j) by omega] at ka3
        have z0 : vr r n tb b (2 * (fi * 2 ^ (11 - b) + ebr pq ins (11 - b) j) + 1) (nvC ph1 0) := by
          obtain ⟨y, z, h1, h2, -⟩ := id vx
          have := hzero (by cases hh : bth pq ins b; rfl; exact absurd hh c) _ lt z h2
          rw [show nvC ph1 0 = -2 from rfl, ← this]
          exact h2
        refine fo_m (c := 0) hE hn hU (by omega) hF1 ka1 (by have := I1.1.2.1; omega) ka3 z0 vx (fun S2 v q2 made2 ph2 f1 f2 f3 f4 f5 => ?_)
        rw [if_neg c] at put
        exact put S2 v q2 made2 ph2 f1 f2 f3 f4 f5
    · have a : ¬ (Int32.ofNat j).toInt < (Int32.ofNat W).toInt := fun z => a (i_lt.mpr z)
      rw [tj, tW] at a
      exact ⟨_, rfl, q1, made1, ph1, hF1, fun k hk => hd k (by omega)⟩)
  delta hm_NT_fold_L160
  refine wq_call (key W (S, 0) ⟨0, q, made, ph, rfl, by omega, rfl, hF, fun k hk => absurd hk (by omega), fun k _ hk => hl k hk⟩) ?_
  rintro S1 ⟨q1, made1, ph1, f1, f2⟩
  delta hm_NT_fold_L228
  exact ⟨_, rfl, S1, q1, made1, ph1, by rw [ad_m (by omega)], f1, f2⟩
end FOL
