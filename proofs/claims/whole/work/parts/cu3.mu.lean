/-! the class's multiplexer: found, or made -/
section MUW
variable {G : hg_E} {E : nwE} {S : hg_S} {bb : Nat → Nat} {cap : Nat} {q : rsT} {r : md_S} {n made : Nat} {ph : Nat → Nat}
/-- where the net began: lengths, room -/
def nwS (E : nwE) : Prop := (∃ x, E.2.2.2 = 256 * 2 ^ x) ∧ E.2.1 < E.1.2.1 ∧ 35 ≤ E.1.2.2.1 ∧ 10 * (32768 - E.2.2.2) ≤ E.1.2.2.2
/-- the arrays are longer, all else the same -/
theorem nc_wd (hI : ncI q r n made ph cap) (hc : cap ≤ 16384) : ncI (wdQ q cap) r n made ph (2 * cap) ∧ nuF q (wdQ q cap) := by
  obtain ⟨⟨i1, i2, i3, i4⟩, i5, i6, ⟨i7, i8⟩, i9, i10⟩ := hI
  have w : ∀ i, ¬ (4 ≤ i ∧ i ≤ 8) → (wdQ q cap).1 i = q.1 i := fun i hi => if_neg hi
  have w4 : ∀ i, (4 ≤ i ∧ i ≤ 8) → ∀ k, k < cap → (wdQ q cap).1 i k = q.1 i k := fun i hi k hk => by
    have e : (wdQ q cap).1 i = fun k => if k < cap then q.1 i k else 0 := if_pos hi
    rw [e]
    exact if_pos hk
  have oc : ∀ h k, k < made → (onC (wdQ q cap) h k ↔ onC q h k) := fun h k hk => by
    unfold onC
    rw [w4 4 (by omega) k (by omega), w4 5 (by omega) k (by omega), w4 6 (by omega) k (by omega)]
  have isP_c : ∀ {P Q : Nat → Prop} {m : Nat} {v : Int32}, (∀ k, k < m → (P k ↔ Q k)) → isP Q m v → isP P m v := by
    intro P Q m v hPQ hQ
    rcases hQ with ⟨e, h1⟩ | ⟨p, e, h1, h2, h3⟩
    · exact Or.inl ⟨e, fun p hp z => h1 p hp ((hPQ p hp).mp z)⟩
    · exact Or.inr ⟨p, e, h1, (hPQ p h1).mpr h2, fun k k1 k2 z => h3 k k1 k2 ((hPQ k k2).mp z)⟩
  refine ⟨⟨⟨i1, i2, by omega, by omega⟩, fun k k1 k2 => ?_, i6, ⟨fun h hh => ?_, fun k h hk hh hP => ?_⟩, fun b hb => ?_, fun k hk => ?_⟩, ⟨w 0 (by omega), w 3 (by omega)⟩, fun _ _ => rfl⟩
  · rw [w4 4 (by omega) k (by omega), w4 5 (by omega) k (by omega), w4 6 (by omega) k (by omega)]
    exact i5 k k1 k2
  · rw [w 1 (by omega)]
    exact isP_c (fun k hk => oc h k hk) (i7 h hh)
  · rw [w4 7 (by omega) k (by omega)]
    exact isP_c (fun k' hk' => oc h k' (by omega)) (i8 k h hk hh ((oc h k hk).mp hP))
  · rw [w 2 (by omega), i9 b hb]
    exact congrArg Int32.ofNat (ctP_cg made (fun k hk => by rw [w4 4 (by omega) k (by omega)]))
  · have e : ∀ i, (4 ≤ i ∧ i ≤ 8) → (wdQ q cap).1 i = fun k => if k < cap then q.1 i k else 0 := fun i hi => if_pos hi
    rw [e 8 (by omega)]
    show (if k < cap then q.1 8 k else 0) = 0
    split
    · exact i10 k (by assumption)
    · rfl
theorem p2_le {x j N : Nat} (h : 256 * 2 ^ x * 2 ^ j ≤ N) (hN : N < 32768) : x + j ≤ 6 ∧ 256 * 2 ^ x * 2 ^ j ≤ 16384 := by
  rw [Nat.mul_assoc, ← Nat.pow_add] at h ⊢
  have h6 : x + j ≤ 6 := by
    apply Classical.byContradiction
    intro c
    have : 2 ^ 7 ≤ 2 ^ (x + j) := Nat.pow_le_pow_right (by decide) (by omega)
    have e : 2 ^ 7 = 128 := rfl
    omega
  have : 2 ^ (x + j) ≤ 2 ^ 6 := Nat.pow_le_pow_right (by decide) h6
  have e : 2 ^ 6 = 64 := rfl
  omega
/-- what the class's multiplexer comes to -/
def muO (G : hg_E) (E : nwE) (q : rsT) (r : md_S) (n made : Nat) (ph : Nat → Nat) (b a c : Nat) (S' : hg_S) (v : Int32) : Prop := ∃ bb' cap' q' made' ph' k, v = Int32.ofNat k ∧ NW G E S' bb' cap' q' ∧ ncI q' r n made' ph' cap' ∧ k < made' ∧ made ≤ made' ∧ (∀ j, j < made → nvC ph' j = nvC ph j) ∧ nuF q q' ∧ ((nvC ph a = nvC ph c ∧ nvC ph' k = nvC ph a) ∨ (¬ nvC ph a = nvC ph c ∧ ∃ m, m < n ∧ nvC ph' k = Int32.ofNat m ∧ r.2.1 101 m = Int32.ofNat (12 - b) ∧ r.2.1 102 m = nvC ph a ∧ r.2.1 103 m = nvC ph c))
theorem mu_w (hE : nwS E) (hN : NW G E S bb cap q) (hI : ncI q r n made ph cap) (hn : n ≤ 24000) (hU : mxU r n) {b a c : Nat} (hb : b ≤ 12) (ha : a < made) (hc : c < made) (hm : ¬ nvC ph a = nvC ph c → ∃ m, m < n ∧ r.2.1 101 m = Int32.ofNat (12 - b) ∧ r.2.1 102 m = nvC ph a ∧ r.2.1 103 m = nvC ph c) : dc_wp (hm_NT_multiplexer G S E.2.1 (Int32.ofNat b) (Int32.ofNat a) (Int32.ofNat c)) (fun z => muO G E q r n made ph b a c z.1 z.2) := by
  obtain ⟨⟨x, ex⟩, ho, R1, R2⟩ := hE
  have hI0 := hI
  obtain ⟨⟨i1, i2, i3, i4⟩, i5, i6, ⟨i7, i8⟩, i9, i10⟩ := hI
  have tm : (Int32.ofNat made).toInt = (made : Int) := Int32.toInt_ofNat_of_lt (by omega)
  have n4 : ∀ i, 4 ≤ i → (nN cap i : Int) = cap := fun i hi => by
    unfold nN
    rw [if_neg (by omega), if_neg (by omega), if_neg (by omega)]
  have n1 : (nN cap 1 : Int) = 4096 := rfl
  delta hm_NT_multiplexer
  refine wq_if (fun e => ?_) (fun e => ?_)
  · have eac := ofN_j (by omega) (by omega) e
    exact ⟨_, rfl, bb, cap, q, made, ph, a, rfl, hN, hI0, ha, Nat.le_refl _, fun _ _ => rfl, ⟨⟨rfl, rfl⟩, fun _ _ => rfl⟩, Or.inl ⟨by rw [eac], rfl⟩⟩
  · have nac : ¬ nvC ph a = nvC ph c := fun z => e (by rw [nvC_i hI0 hn ha hc z])
    obtain ⟨m, m1, m2, m3, m4⟩ := hm nac
    obtain ⟨h, hh, eh⟩ := and_12 ((Int32.ofNat b + (31 * Int32.ofNat a)) + (1009 * Int32.ofNat c))
    have eh' : hcl (Int32.ofNat b) (Int32.ofNat a) (Int32.ofNat c) = Int32.ofNat h := eh
    have th : (Int32.ofNat h).toInt = (h : Int) := Int32.toInt_ofNat_of_lt (by omega)
    have thn : (Int32.ofNat h).toInt.toNat = h := by omega
    refine wq_let (fun w ew => ?_)
    rw [eh] at ew
    subst ew
    refine nw_g hN (i := 1) (by decide) ?_
    refine nw_l hN (i := 1) (by decide) (by omega) (by rw [n1]; omega) ?_
    rw [thn]
    have key := dc_itK (step := hm_NT_multiplexer_s37 G S E.2.1 (Int32.ofNat b) (Int32.ofNat a) (Int32.ofNat c) (Int32.ofNat h)) (fun d (y : Int32 × Int32) => ∃ s, y.2 = Int32.ofNat s ∧ s + d ≤ made ∧ isP (onC q h) d y.1 ∧ ∀ k, d ≤ k → k < made → ¬ (2 ≤ k ∧ q.1 4 k = Int32.ofNat b ∧ q.1 5 k = Int32.ofNat a ∧ q.1 6 k = Int32.ofNat c)) (F := fun z => match z with | .inl v => ∃ k, v = Int32.ofNat k ∧ 2 ≤ k ∧ k < made ∧ q.1 4 k = Int32.ofNat b ∧ q.1 5 k = Int32.ofNat a ∧ q.1 6 k = Int32.ofNat c | .inr _ => ∀ k, k < made → ¬ (2 ≤ k ∧ q.1 4 k = Int32.ofNat b ∧ q.1 5 k = Int32.ofNat a ∧ q.1 6 k = Int32.ofNat c)) (by
      rintro d ⟨y1, y2⟩ ⟨s, es, s1, hP, hno⟩
      have es : y2 = Int32.ofNat s := es
      have hP : isP (onC q h) d y1 := hP
      subst es
      show dc_wp (hm_NT_multiplexer_b37 G S E.2.1 (Int32.ofNat b) (Int32.ofNat a) (Int32.ofNat c) (Int32.ofNat h) y1 (Int32.ofNat s)) _
      delta hm_NT_multiplexer_b37
      have mt : ∀ k, (2 ≤ k ∧ q.1 4 k = Int32.ofNat b ∧ q.1 5 k = Int32.ofNat a ∧ q.1 6 k = Int32.ofNat c) → onC q h k := fun k ⟨k1, k2, k3, k4⟩ => ⟨k1, by rw [k2, k3, k4]; exact eh'⟩
      rcases hP with ⟨e1, no⟩ | ⟨k, e1, k1, k2, k3⟩
      · rw [if_pos e1]
        refine ⟨_, rfl, fun k hk hk2 => ?_⟩
        by_cases c1 : k < d
        · exact no k c1 (mt k hk2)
        · exact hno k (by omega) hk hk2
      · subst e1
        have tk : (Int32.ofNat k).toInt = (k : Int) := Int32.toInt_ofNat_of_lt (by omega)
        have tkn : (Int32.ofNat k).toInt.toNat = k := by omega
        have ts : (Int32.ofNat s).toInt = (s : Int) := Int32.toInt_ofNat_of_lt (by omega)
        have kn : ¬ Int32.ofNat k = -1 := fun z => by rw [z, il_m1] at tk; omega
        have k2' := k2.1
        rw [if_neg kn]
        refine nw_i hN (i := 9) (by decide) (by decide) ?_
        rw [i1, if_pos (by rw [i_lt, ts, tm]; omega)]
        have next : ¬ (2 ≤ k ∧ q.1 4 k = Int32.ofNat b ∧ q.1 5 k = Int32.ofNat a ∧ q.1 6 k = Int32.ofNat c) → dc_wp (hm_NT_multiplexer_L88 G S E.2.1 (Int32.ofNat b) (Int32.ofNat a) (Int32.ofNat c) (Int32.ofNat h) (Int32.ofNat k) (Int32.ofNat s)) (Sum.elim (fun (y : Int32 × Int32) => ∃ k', k' < d ∧ ∃ s, y.2 = Int32.ofNat s ∧ s + k' ≤ made ∧ isP (onC q h) k' y.1 ∧ ∀ k, k' ≤ k → k < made → ¬ (2 ≤ k ∧ q.1 4 k = Int32.ofNat b ∧ q.1 5 k = Int32.ofNat a ∧ q.1 6 k = Int32.ofNat c)) (fun z => match z with | .inl v => ∃ k, v = Int32.ofNat k ∧ 2 ≤ k ∧ k < made ∧ q.1 4 k = Int32.ofNat b ∧ q.1 5 k = Int32.ofNat a ∧ q.1 6 k = Int32.ofNat c | .inr _ => ∀ k, k < made → ¬ (2 ≤ k ∧ q.1 4 k = Int32.ofNat b ∧ q.1 5 k = Int32.ofNat a ∧ q.1 6 k = Int32.ofNat c))) := by
          intro hk
          delta hm_NT_multiplexer_L88
          refine nw_g hN (i := 7) (by decide) ?_
          refine nw_l hN (i := 7) (by decide) (by omega) (by rw [n4 7 (by omega)]; omega) ?_
          rw [tkn]
          refine ⟨_, rfl, k, k1, s + 1, ad_m (by omega), by omega, i8 k h (by omega) hh k2, fun k' h1 h2 h3 => ?_⟩
          by_cases c1 : k' = k
          · rw [c1] at h3; exact hk h3
          · by_cases c2 : k' < d
            · exact k3 k' (by omega) c2 (mt k' h3)
            · exact hno k' (by omega) h2 h3
        refine nw_g hN (i := 4) (by decide) ?_
        refine nw_l hN (i := 4) (by decide) (by omega) (by rw [n4 4 (by omega)]; omega) ?_
        rw [tkn]
        refine wq_if (fun c1 => ?_) (fun c1 => next (fun z => c1 z.2.1))
        refine nw_g hN (i := 5) (by decide) ?_
        refine nw_l hN (i := 5) (by decide) (by omega) (by rw [n4 5 (by omega)]; omega) ?_
        rw [tkn]
        refine wq_if (fun c2 => ?_) (fun c2 => next (fun z => c2 z.2.2.1))
        refine nw_g hN (i := 6) (by decide) ?_
        refine nw_l hN (i := 6) (by decide) (by omega) (by rw [n4 6 (by omega)]; omega) ?_
        rw [tkn]
        refine wq_if (fun c3 => ?_) (fun c3 => next (fun z => c3 z.2.2.2))
        exact ⟨_, rfl, k, rfl, k2', by omega, c1, c2, c3⟩)
    delta hm_NT_multiplexer_L37
    refine wq_call (key made (q.1 1 h, 0) ⟨0, rfl, by omega, i7 h hh, fun k h1 h2 => absurd h1 (by omega)⟩) ?_
    intro z hz
    cases z with
    | inl v =>
      obtain ⟨k, ev, k1, k2, k3, k4, k5⟩ := hz
      refine ⟨_, rfl, bb, cap, q, made, ph, k, ev, hN, hI0, k2, Nat.le_refl _, fun _ _ => rfl, ⟨⟨rfl, rfl⟩, fun _ _ => rfl⟩, Or.inr ⟨nac, ph k, ?_⟩⟩
      obtain ⟨p1, l, a', c', l1, l2, l3, l4, l5, l6, l7, l8, l9⟩ := i5 k k1 k2
      rw [k3] at l4
      have el := ofN_j (by omega) (by omega) l4
      rw [k4] at l6
      have ea := ofN_j (by omega) (by omega) l6
      rw [k5] at l8
      have ec := ofN_j (by omega) (by omega) l8
      refine ⟨p1, ?_, by rw [l5, show l = 12 - b by omega], by rw [l7, ea], by rw [l9, ec]⟩
      unfold nvC
      rw [if_neg (by omega), if_neg (by omega)]
    | inr u =>
      have hz : ∀ k, k < made → ¬ (2 ≤ k ∧ q.1 4 k = Int32.ofNat b ∧ q.1 5 k = Int32.ofNat a ∧ q.1 6 k = Int32.ofNat c) := hz
      have hno : ∀ k, 2 ≤ k → k < made → ¬ ph k = m := fun k k1 k2 z => by
        obtain ⟨p1, l, a', c', l1, l2, l3, l4, l5, l6, l7, l8, l9⟩ := i5 k k1 k2
        rw [z] at l5 l7 l9
        rw [m2] at l5
        have el := ofN_j (by omega) (by omega) l5
        have ea := nvC_i hI0 hn ha (by omega) (m3.symm.trans l7)
        have ec := nvC_i hI0 hn hc (by omega) (m4.symm.trans l9)
        refine hz k k2 ⟨k1, by rw [l4, show 12 - l = b by omega], by rw [l6, ea], by rw [l8, ec]⟩
      have mle := nc_le hI0
      show dc_wp (hm_NT_multiplexer_L103 G S E.2.1 (Int32.ofNat b) (Int32.ofNat a) (Int32.ofNat c) (Int32.ofNat h)) _
      have fin : ∀ (S1 : hg_S) (bb1 : Nat → Nat) (cap1 : Nat) (q1 : rsT), NW G E S1 bb1 cap1 q1 → ncI q1 r n made ph cap1 → made < cap1 → nuF q q1 → dc_wp (hm_NT_add_L22 G S1 E.2.1 (Int32.ofNat b) (Int32.ofNat a) (Int32.ofNat c) (Int32.ofNat h)) (fun z => muO G E q r n made ph b a c z.1 z.2) := by
        intro S1 bb1 cap1 q1 N1 I1 lt1 F1
        refine wq_w (ad_w N1 I1 hn lt1 hb ha hc hh eh' ⟨m1, m2, m3, m4⟩ hno) ?_
        rintro ⟨S2, v⟩ ⟨q2, ev, N2, I2, F2⟩
        have ev : v = Int32.ofNat made := ev
        subst ev
        refine ⟨bb1, cap1, q2, made + 1, _, made, rfl, N2, I2, by omega, by omega, fun j hj => ?_, ⟨⟨F2.1.1.trans F1.1.1, F2.1.2.trans F1.1.2⟩, fun i hi => (F2.2 i hi).trans (F1.2 i hi)⟩, Or.inr ⟨nac, m, m1, ?_, m2, m3, m4⟩⟩
        · have e : (fun k => if k = made then m else ph k) j = ph j := if_neg (by omega)
          unfold nvC
          rw [e]
        · have e : (fun k => if k = made then m else ph k) made = m := if_pos rfl
          unfold nvC
          rw [if_neg (by omega), if_neg (by omega), e]
      delta hm_NT_multiplexer_L103 hm_NT_add
      refine nw_c hN ?_
      have core : dc_wp ((hg_gi S (some E.2.1) 12 9).bind fun e24 => (hg_gr S (some E.2.1) 12 4).bind fun e25 => (hg_ln S e25 (G.1 0)).bind fun e26 => if e24 = e26 then ((hg_gi S (some E.2.1) 12 9).bind fun e27 => (hg_chk S (some E.2.1) 12).bind fun b28 => (hm_NT_widen G S b28 (2 * e27)).bind fun q31 => hm_NT_add_L22 G q31 E.2.1 (Int32.ofNat b) (Int32.ofNat a) (Int32.ofNat c) (Int32.ofNat h)) else (hm_NT_add_L22 G S E.2.1 (Int32.ofNat b) (Int32.ofNat a) (Int32.ofNat c) (Int32.ofNat h))) (fun z => muO G E q r n made ph b a c z.1 z.2) := by
        refine nw_i hN (i := 9) (by decide) (by decide) ?_
        refine nw_g hN (i := 4) (by decide) ?_
        refine wq_ln (hN.2.1.2 4 (by omega)) ?_
        have e4 : nN cap 4 = cap := rfl
        rw [e4, i1]
        refine wq_if (fun e1 => ?_) (fun e1 => ?_)
        · have ec := ofN_j (by omega) (by omega) e1
          refine nw_i hN (i := 9) (by decide) (by decide) ?_
          refine nw_c hN ?_
          rw [i1]
          obtain ⟨j, j1, -⟩ := hN.2.2.2.2
          have pl := p2_le (x := x) (j := j) (N := cap) (by rw [← ex, ← j1]; exact Nat.le_refl _) (by omega)
          rw [← ex, ← j1] at pl
          have e2 : (2 : Int32) * Int32.ofNat made = Int32.ofNat (2 * cap) := by rw [ec, show (2 : Int32) = Int32.ofNat 2 from rfl, ← Int32.ofNat_mul]
          rw [e2]
          have t2 : (Int32.ofNat (2 * cap)).toInt = ((2 * cap : Nat) : Int) := Int32.toInt_ofNat_of_lt (by omega)
          have ge : E.2.2.2 ≤ cap := by
            rw [j1]
            exact Nat.le_mul_of_pos_right _ (Nat.pow_pos (by decide))
          refine wq_call (wd_w hN t2 (by omega) (by omega) ⟨ge, ho⟩ R1 R2 (fun j' e' => ?_)) ?_
          · have pl' := p2_le (x := x) (j := j') (N := cap) (by rw [← ex, ← e']; exact Nat.le_refl _) (by omega)
            omega
          · rintro S1 ⟨bb1, N1⟩
            obtain ⟨I1, F1⟩ := nc_wd hI0 (by omega)
            exact fin S1 bb1 (2 * cap) _ N1 I1 (by omega) F1
        · have ne : made < cap := by
            apply Classical.byContradiction
            intro z
            exact e1 (by rw [show made = cap by omega])
          exact fin S bb cap q hN hI0 ne ⟨⟨rfl, rfl⟩, fun _ _ => rfl⟩
      refine wq_call core (fun z hz => ?_)
      exact ⟨_, rfl, hz⟩
end MUW
