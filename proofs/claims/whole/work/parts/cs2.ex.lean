section EXQ
variable {G : hg_E} {S : hg_S} {M : md_S} {T : tT} {t0 u n ps sg io pa o t oA ins : Nat} {bA : Nat → Nat} {R : Nat → Nat → Int32} {c : Nat → Int32} {X : Nat → Nat → Int32} {cn : Nat → Int32} {hf sf : Nat → Int32} {nn f st en rn ex la kept : Int32} {ta tn : Value} {XA : Nat → Nat → Int32} {cA : Nat → Int32}
/-- what exploring leaves -/
def exO (G : hg_E) (S S' : hg_S) (M r : md_S) (u t0 o t : Nat) (T : tT) (n ps sg io pa : Nat) (R : Nat → Nat → Int32) (c : Nat → Int32) (nn f st en rn : Int32) (tn : Value) (la : Int32) (hf sf : Nat → Int32) (oA : Nat) (bA : Nat → Nat) : Prop :=
  hw S' ∧ (∀ e, e < S.2.1 → e ≠ o → e ≠ oA → (∀ i, i < 8 → e ≠ bA i) → ¬ (u + 18 ≤ e ∧ e < u + 30) → hg_at S'.1 e = hg_at S.1 e) ∧ (mdXp M r ∧ r.1 0 = 0 ∧ r.1 85 = 1) ∧ hg_at S'.1 o = some (.inr (0, enL t nn f (.ref u) (.ref (u + 18)) (.ref (u + 30)) (.ref (u + 31)) st en rn (.ref oA) tn 1 la)) ∧ (∃ X' cn', LDp G S' r u t0 T n ps sg io pa R c X' cn' hf sf) ∧ LDe r pa st en rn ∧ ∃ q cnt ins, EXa G S' r oA bA q cnt pa ins
/-- the state that the engine was in is put back -/
theorem kp_w {P : md_S} (hle : LDe M pa st en rn) (pa8 : pa ≤ 8) (ek : kept = (if M.1 77 = 0 then 0 else 256) ||| oB (thB (M.2.1 74)) pa) {Z : md_S} (hp : mm_place Z kept = some P) : P.1 77 = M.1 77 ∧ ∀ p, p < pa → (P.2.1 74 p = 0 ↔ M.2.1 74 p = 0) := by
  obtain ⟨l1, -, -, -, -, l6⟩ := hle
  obtain ⟨-, p2, -, p4⟩ := place_r hp
  have ob := oB_b (σ := M.2.1 74) pa8
  rcases l1 with ⟨-, e⟩ | ⟨-, e⟩
  · have z : ∀ p, p < pa → M.2.1 74 p = 0 := l6 e
    have e0 : oB (thB (M.2.1 74)) pa = 0 := by
      rw [oB_g (τ := fun _ => 0) pa (fun p hp => ⟨fun _ => rfl, fun _ => z p hp⟩)]
      have : ∀ k, oB (thB (fun _ => 0)) k = 0 := by
        intro k
        induction k with
        | zero => rfl
        | succ k ih =>
          show oB (thB (fun _ => 0)) k ||| thB (fun _ => 0) k = 0
          rw [ih]
          unfold thB
          rw [if_pos rfl]
          rfl
      exact this pa
    rw [if_neg (by rw [e]; decide), e0, Int32.or_zero] at ek
    rw [if_pos ek] at p2
    refine ⟨p2.trans e.symm, fun p hp => ?_⟩
    rw [p4 p (by omega), if_neg (fun w => w.1 ek)]
    exact ⟨fun _ => z p hp, fun _ => rfl⟩
  · rw [if_pos e, Int32.zero_or] at ek
    have n256 : ¬ kept = 256 := fun w => by
      have := ob.1.2
      rw [← ek, w, il_256] at this
      omega
    rw [if_neg n256] at p2
    refine ⟨p2.trans e.symm, fun p hp => ?_⟩
    have b := ob.2 p hp
    rw [← ek, inB_s (by omega)] at b
    rw [p4 p (by omega)]
    rcases a1_01 (x := kept >>> (Int32.ofNat p &&& (31 : Int32))) with w | w
    · rw [if_neg (fun v => by rw [w] at v; exact absurd v.2.2 (by decide))]
      refine ⟨fun _ => ?_, fun _ => rfl⟩
      exact Classical.byContradiction (fun z => (b.mpr z) w)
    · rw [if_pos ⟨n256, by omega, w⟩]
      exact ⟨fun z => absurd z (by decide), fun z => absurd z (b.mp (by rw [w]; decide))⟩
theorem ex_52 (h0 : hw S) (he : hg_at S.1 o = some (.inr (0, enL t nn f (.ref u) (.ref (u + 18)) (.ref (u + 30)) (.ref (u + 31)) st en rn (.ref oA) tn ex la))) (hl : LDp G S M u t0 T n ps sg io pa R c X cn hf sf) (hle : LDe M pa st en rn) (hx : xpO M) (ho : o < t0 ∧ t0 ≤ u) (hat : ATv G S oA bA XA cA) (hinj : ∀ i j, i < 8 → j < 8 → bA i = bA j → i = j) (hL : EXl t0 u oA bA) (rm : 1 ≤ S.2.2.1 ∧ pa ≤ S.2.2.2) (m0 : M.1 0 = 0) (ek : kept = (if M.1 77 = 0 then 0 else 256) ||| oB (thB (M.2.1 74)) pa) {r : md_S × Int32} (hq : mm_explore_L123 M kept = some r) : dc_wp (hm_SE_explore_L52 G S o) (fun z => ∃ S', z = .inl (S', r.2) ∧ S'.2 = (S.2.1 + 1, S.2.2.1 - 1, S.2.2.2 - pa) ∧ exO G S S' M r.1 u t0 o t T n ps sg io pa R c nn f st en rn tn la hf sf oA bA) := by
  have hl0 := hl
  obtain ⟨⟨hpg, hpt, hpb⟩, ⟨hre, hpl, hrp⟩, ⟨hh1, hh2⟩, ⟨hs1, hs2⟩, h70⟩ := hl
  obtain ⟨ins, out, hnum⟩ := xp_num hpg hx
  have hnum0 := hnum
  obtain ⟨e45, e46, i4, o31, eio, pa8⟩ := hnum
  have ut : u + 31 < S.2.1 := h0.lt hs1
  have ot : o < S.2.1 := h0.lt he
  have no1 : o ≠ oA := at_ne he hat.1 (fun z => by cases z)
  have no2 : ∀ i, i < 8 → o ≠ bA i := fun i hi => at_ne he (hat.2 i hi) (fun z => by cases z)
  -- the reference
  delta mm_explore_L123 dc_let at hq
  dsimp only at hq
  obtain ⟨M2, hm, hq⟩ := iv_bind hq
  delta mm_explore_L139 at hq
  obtain ⟨Mz, hz, hq⟩ := iv_bind hq
  delta mm_explore_L341 dc_let at hq
  dsimp only at hq
  obtain ⟨P, hP, hq⟩ := iv_bind hq
  obtain ⟨Q, hQ, hq⟩ := iv_bind hq
  have er : r = (Q, Q.1 87) := (Option.some.inj hq).symm
  -- the class
  obtain ⟨nm, hnm, hpv⟩ := hpg.1
  delta hm_SE_explore_L52
  refine wq_gr (x := some oA) he rfl ?_
  refine wq_gr (x := some u) he rfl ?_
  refine wq_gr (x := some (u + 18)) he rfl ?_
  refine wq_chk hat.1 ?_
  refine wq_call (sv_w h0 hpg hpt hpb hre hpl hrp h70 ho.2 hnum0 hat hinj hL (by omega) rm hm hz) ?_
  rintro S1 ⟨q, cnt, ⟨w1, w2⟩, w3, ⟨X', cn', w4, w5, w6⟩, w7, w8, w9, gS, gC, gD, g8, q0, kS, kC, kD, ks⟩
  have he1 : hg_at S1.1 o = some (.inr (0, enL t nn f (.ref u) (.ref (u + 18)) (.ref (u + 30)) (.ref (u + 31)) st en rn (.ref oA) tn ex la)) := by rw [w3 o ot no1 no2 (by omega)]; exact he
  refine wq_pfT (fs' := enL t nn f (.ref u) (.ref (u + 18)) (.ref (u + 30)) (.ref (u + 31)) st en rn (.ref oA) tn 1 la) he1 (Nat.le_of_ble_eq_true rfl) rfl (fun S2 e2 => ?_)
  have s2n : ∀ e, e ≠ o → hg_at S2.1 e = hg_at S1.1 e := fun e h => by rw [← e2]; exact hu_ne h
  have s2o : hg_at S2.1 o = some (.inr (0, enL t nn f (.ref u) (.ref (u + 18)) (.ref (u + 30)) (.ref (u + 31)) st en rn (.ref oA) tn 1 la)) := by rw [← e2]; exact hu_self he1
  have hat2 : ATv G S2 oA bA q.1 q.2 := ⟨by rw [s2n oA (fun z => no1 z.symm)]; exact w9.1, fun i hi => by rw [s2n _ (fun z => no2 i hi z.symm)]; exact w9.2 i hi⟩
  delta hm_SE_explore_L72
  refine wq_gr (x := some oA) s2o rfl ?_
  refine wq_gi (x := q.2 9) hat2.1 rfl ?_
  -- what the reference left
  obtain ⟨p1, p7, p3, p4⟩ := place_r hP
  obtain ⟨kp1, kp2⟩ := kp_w hle pa8 ek hP
  have f1 : ∀ i, ¬ i = 77 → ¬ i = 85 → (md_i P 85 1).1 i = Mz.1 i := fun i h1 h2 => by rw [md_i1, if_neg h2, p1 i h1]
  have f2 : ∀ i, ¬ i = 74 → (md_i P 85 1).2.1 i = Mz.2.1 i := fun i h1 => p3 i h1
  obtain ⟨x1, x2, x3⟩ := ax_rw (q := q) (M := Mz) (M' := md_i P 85 1) (W := 2 ^ ins) (cnt := cnt) (pa := pa) (J := cnt) (I := 0) (f1 87 (by omega) (by omega)) (f1 46 (by omega) (by omega)) (fun i h1 h2 => f2 i (by omega))
  obtain ⟨y1, y2, y3⟩ := ax_rw (q := q0) (M := Mz) (M' := md_i P 85 1) (W := 2 ^ ins) (cnt := cnt) (pa := pa) (J := cnt) (I := 0) (f1 87 (by omega) (by omega)) (f1 46 (by omega) (by omega)) (fun i h1 h2 => f2 i (by omega))
  have z45 : (md_i P 85 1).1 45 = Int32.ofNat ins := by rw [f1 45 (by omega) (by omega), w7.1 45 (by omega)]; exact e45
  obtain ⟨Q', hQ', hm'⟩ := mp_t (rf_ax (x1 gS) (x3 gD) z45 i4)
  have eQ : Q' = Q := by
    rw [hQ] at hQ'
    exact (Option.some.inj hQ').symm
  rw [eQ] at hm'
  have gr := gr_of (y1 kS) (y2 kC) (y3 kD) ks hm'
  obtain ⟨⟨m1, m2⟩, -⟩ := hm'
  obtain ⟨u1, u2, u3⟩ := ax_rw (q := q) (M := md_i P 85 1) (M' := Q) (W := 2 ^ ins) (cnt := cnt) (pa := pa) (J := cnt) (I := 0) (by rw [m1]) (by rw [m1]) (fun i h1 h2 => m2 i (by omega))
  have Qn : ∀ i, ¬ ((77 ≤ i ∧ i ≤ 81) ∨ i = 85 ∨ i = 87) → Q.1 i = M.1 i := fun i hi => by rw [m1, f1 i (by omega) (by omega), w7.1 i (by omega)]
  have Qr : ∀ i, ¬ (i = 67 ∨ (70 ≤ i ∧ i ≤ 76) ∨ (88 ≤ i ∧ i ≤ 97)) → Q.2.1 i = M.2.1 i := fun i hi => by rw [m2 i (by omega), f2 i (by omega), w7.2 i (by omega)]
  have mE : mdE M Q := ⟨fun i a1 a2 => Qn i (by omega), fun i hi => Qr i (by omega)⟩
  have Q77 : Q.1 77 = M.1 77 := by rw [m1, md_i1, if_neg (by decide)]; exact kp1
  have Q74 : ∀ p, p < pa → (Q.2.1 74 p = 0 ↔ M.2.1 74 p = 0) := fun p hp => by
    rw [m2 74 (by omega)]
    exact kp2 p hp
  have cells : ∀ e, e < S.2.1 → e ≠ o → e ≠ oA → (∀ i, i < 8 → e ≠ bA i) → ¬ (u + 18 ≤ e ∧ e < u + 30) → hg_at S2.1 e = hg_at S.1 e := fun e a1 a2 a3 a4 a5 => by rw [s2n e a2]; exact w3 e a1 a3 a4 a5
  have far1 : ∀ e, t0 ≤ e → e < u + 32 → e ≠ oA ∧ ∀ i, i < 8 → e ≠ bA i := fun e a1 a2 => ⟨by have := hL.1; omega, fun i hi => by have := hL.2 i hi; omega⟩
  have tcn : (q.2 9) = Q.1 87 := by rw [(u1 (x1 gS)).1.1, (u1 (x1 gS)).1.2.1]
  rw [er]
  refine ⟨_, rfl, S2, by rw [tcn], by rw [← e2]; exact w2, by rw [← e2]; exact w1.hu, cells, ⟨⟨fun i hi => Qn i (by omega), Qr⟩, by rw [Qn 0 (by omega)]; exact m0, by rw [m1, md_i1, if_pos rfl]⟩, s2o, ⟨X', cn', ⟨pgS_c hpg mE (fun b b1 b2 => ?_) ho.2, pgT_c hpt mE, pgB_c hpb mE⟩, ⟨REv_c w4 (fun i i1 i2 => ?_) (s2n _ (by omega)), by rw [w5]; exact hpl, by rw [w5]; exact w6⟩, ⟨?_, fun p hp => by rw [Q74 p hp]; exact hh2 p hp⟩, ⟨?_, fun i hi => by rw [Qr 84 (by omega)]; exact hs2 i hi⟩, fun i => by rw [m2 70 (by omega), f2 70 (by omega)]; exact w8 i⟩, ?_, q, cnt, ins, ⟨hat2, hinj⟩, ⟨u1 (x1 gS), u2 (x2 gC), u3 (x3 gD)⟩, ⟨g8, by rw [m1]; exact z45, i4, pa8⟩, gr⟩
  · obtain ⟨a1, a2⟩ := far1 b (by omega) (by omega)
    exact cells b (by omega) (by omega) a1 a2 (by omega)
  · have := reB_b (u := u) i1 i2
    exact s2n _ (by omega)
  · obtain ⟨a1, a2⟩ := far1 (u + 30) (by omega) (by omega)
    rw [cells (u + 30) (by omega) (by omega) a1 a2 (by omega)]
    exact hh1
  · obtain ⟨a1, a2⟩ := far1 (u + 31) (by omega) (by omega)
    rw [cells (u + 31) (by omega) (by omega) a1 a2 (by omega)]
    exact hs1
  · obtain ⟨l1, l2, l3, l4, l5, l6⟩ := hle
    refine ⟨by rw [Q77]; exact l1, by rw [Qn 82 (by omega)]; exact l2, by rw [Qn 83 (by omega)]; exact l3, fun a1 a2 => ?_, fun a1 p hp => ?_, fun a1 p hp => ?_⟩
    · rw [Q77] at a1
      rw [Qn 82 (by omega)] at a2
      obtain ⟨p, hp, np⟩ := l4 a1 a2
      exact ⟨p, hp, fun z => np ((Q74 p hp).mp z)⟩
    · rw [Qn 82 (by omega)] at a1
      exact (Q74 p hp).mpr (l5 a1 p hp)
    · rw [Q77] at a1
      exact (Q74 p hp).mpr (l6 a1 p hp)
/-- the atlas that an engine has, or none -/
def atH (G : hg_E) (S : hg_S) (t0 u : Nat) (ta : Value) : Prop := ta = .null ∨ ∃ oA bA XA cA, ta = .ref oA ∧ ATv G S oA bA XA cA ∧ (∀ i j, i < 8 → j < 8 → bA i = bA j → i = j) ∧ EXl t0 u oA bA
/-- explore, of a program that may be explored and was not -/
theorem exp_l (h0 : hw S) (he : hg_at S.1 o = some (.inr (0, enL t nn f (.ref u) (.ref (u + 18)) (.ref (u + 30)) (.ref (u + 31)) st en rn ta tn 0 la))) (hl : LDp G S M u t0 T n ps sg io pa R c X cn hf sf) (hle : LDe M pa st en rn) (h41 : M.1 41 = 1) (h85 : M.1 85 = 0) (hx : xpO M) (ho : o < t0 ∧ t0 ≤ u) (hta : atH G S t0 u ta) (rm : 10 ≤ S.2.2.1 ∧ 9789 ≤ S.2.2.2) {r : md_S × Int32} (hq : mm_explore M = some r) : dc_wp (hm_SE_explore G S o) (fun z => ∃ S' oA bA k w, z = .inl (S', r.2) ∧ S'.2 = (S.2.1 + k, S.2.2.1 - k, S.2.2.2 - w) ∧ ((ta = .null ∧ k = 10 ∧ w = 9781 + pa ∧ (∀ e, e < S.2.1 → e ≠ oA ∧ ∀ i, i < 8 → e ≠ bA i)) ∨ (ta = .ref oA ∧ k = 1 ∧ w = pa ∧ ∃ XA cA, ATv G S oA bA XA cA)) ∧ EXl t0 u oA bA ∧ exO G S S' M r.1 u t0 o t T n ps sg io pa R c nn f st en rn tn la hf sf oA bA) := by
  have hl0 := hl
  obtain ⟨⟨hpg, hpt, hpb⟩, ⟨hre, hpl, hrp⟩, ⟨hh1, hh2⟩, ⟨hs1, hs2⟩, h70⟩ := hl
  obtain ⟨ins, out, e45, e46, i4, o31, eio, pa8⟩ := xp_num hpg hx
  have ut : u + 31 < S.2.1 := h0.lt hs1
  have ot : o < S.2.1 := h0.lt he
  have t8 : (8 : Int32).toInt = 8 := by decide
  have t4 : (4 : Int32).toInt = 4 := by decide
  have t3 : (300 : Int32).toInt = 300 := by decide
  have mi : ∀ i, ¬ i = 0 → (md_i M 0 0).1 i = M.1 i := fun i hi => by rw [md_i1, if_neg hi]
  have mE0 : mdE M (md_i M 0 0) := ⟨fun i a1 a2 => mi i (by omega), fun _ _ => rfl⟩
  -- the reference
  have ref : ∃ kept, kept = (if (md_i M 0 0).1 77 = 0 then 0 else 256) ||| oB (thB ((md_i M 0 0).2.1 74)) pa ∧ mm_explore_L123 (md_i M 0 0) kept = some r := by
    have f0 : mm_fails M 0 0 = some (md_i M 0 0, 0) := by
      delta mm_fails mm_fails_L18 mm_fails_L33
      rw [if_pos rfl, if_pos rfl]
      rfl
    delta mm_explore mm_explore_L13 at hq
    rw [if_neg (by rw [h41]; decide), f0] at hq
    have hq : (if (8 : Int32) < ((md_i M 0 0).1 47) then (mm_explore_L59 (md_i M 0 0)) else (if (4 : Int32) < ((md_i M 0 0).1 45) then (mm_explore_L59 (md_i M 0 0)) else (if (300 : Int32) < ((md_i M 0 0).1 48) then (mm_explore_L59 (md_i M 0 0)) else (if (300 : Int32) < ((md_i M 0 0).1 43) then (mm_explore_L59 (md_i M 0 0)) else (if ((md_i M 0 0).1 85) = 0 then (if ((md_i M 0 0).1 77) = 0 then (mm_explore_L87 (md_i M 0 0) 0) else (mm_explore_L87 (md_i M 0 0) 256)) else (some ((md_i M 0 0), ((md_i M 0 0).1 87)))))))) = some r := hq
    rw [mi 47 (by decide), mi 45 (by decide), mi 48 (by decide), mi 43 (by decide), mi 85 (by decide), if_neg (fun z => hx.1 (by have := i_lt.mp z; rw [t8] at this; exact this)), if_neg (fun z => hx.2.1 (by have := i_lt.mp z; rw [t4] at this; exact this)), if_neg (fun z => hx.2.2.1 (by have := i_lt.mp z; rw [t3] at this; exact this)), if_neg (fun z => hx.2.2.2 (by have := i_lt.mp z; rw [t3] at this; exact this)), if_pos h85] at hq
    have e47 : (md_i M 0 0).1 47 = Int32.ofNat pa := by rw [mi 47 (by decide)]; exact hpg.2.2.1.2.2.2.2.2.2.2.2.2
    rcases iv_if hq with ⟨c7, hq⟩ | ⟨c7, hq⟩
    · exact ⟨_, rfl, by rw [if_pos c7]; exact x90_r (by omega) e47 hq⟩
    · exact ⟨_, rfl, by rw [if_neg c7]; exact x90_r (by omega) e47 hq⟩
  obtain ⟨kept, ek, hq3⟩ := ref
  have m00 : (md_i M 0 0).1 0 = 0 := by rw [md_i1, if_pos rfl]
  have hlL : ∀ S1 : hg_S, (∀ e, t0 ≤ e → e < u + 32 → hg_at S1.1 e = hg_at S.1 e) → LDp G S1 (md_i M 0 0) u t0 T n ps sg io pa R c X cn hf sf := fun S1 h => ⟨⟨pgS_c hpg mE0 (fun b b1 b2 => h b b1 (by omega)) ho.2, pgT_c hpt mE0, pgB_c hpb mE0⟩, ⟨REv_c hre (fun i i1 i2 => by have := reB_b (u := u) i1 i2; exact h _ (by omega) (by omega)) (h _ (by omega) (by omega)), hpl, hrp⟩, ⟨by rw [h _ (by omega) (by omega)]; exact hh1, hh2⟩, ⟨by rw [h _ (by omega) (by omega)]; exact hs1, hs2⟩, h70⟩
  have hleL : LDe (md_i M 0 0) pa st en rn := by
    unfold LDe
    rw [mi 77 (by decide), mi 82 (by decide), mi 83 (by decide)]
    exact hle
  have hxL : xpO (md_i M 0 0) := by
    unfold xpO
    rw [mi 47 (by decide), mi 45 (by decide), mi 48 (by decide), mi 43 (by decide)]
    exact hx
  have back : ∀ {S' : hg_S} {oA : Nat} {bA : Nat → Nat}, exO G S S' (md_i M 0 0) r.1 u t0 o t T n ps sg io pa R c nn f st en rn tn la hf sf oA bA → exO G S S' M r.1 u t0 o t T n ps sg io pa R c nn f st en rn tn la hf sf oA bA := by
    rintro S' oA bA ⟨a1, a2, ⟨⟨a3, a4⟩, a5⟩, a6⟩
    exact ⟨a1, a2, ⟨⟨fun i hi => by rw [a3 i hi, mi i (by omega)], a4⟩, a5⟩, a6⟩
  obtain ⟨nm, hnm, hpv⟩ := hpg.1
  delta hm_SE_explore
  refine wq_gr (x := some u) he rfl ?_
  rw [if_neg (fun z => by cases z)]
  refine wq_gr (x := some u) he rfl ?_
  refine wq_chk hpv.1 ?_
  refine wq_call (cbe_w hl0) (fun v hv => ?_)
  rcases hv with ⟨hv, -⟩ | ⟨-, hv⟩
  case inr => exact absurd hx hv
  rw [if_neg (by rw [hv]; decide)]
  refine wq_gi (x := 0) he rfl ?_
  rw [if_pos rfl]
  rcases hta with e | ⟨oA, bA, XA, cA, e, hat, hinj, hL⟩
  · subst e
    refine wq_gr (x := none) he rfl ?_
    rw [if_pos rfl]
    refine wq_new (N := 15) (by omega) (by omega) ?_
    generalize hS1 : hp S (.inr (11, at0)) 15 = S1
    have s1w : hw S1 := by rw [← hS1]; exact h0.hp
    have s12 : S1.2 = (S.2.1 + 1, S.2.2.1 - 1, S.2.2.2 - 15) := by rw [← hS1]; rfl
    have s1h : hg_at S1.1 S.2.1 = some (.inr (11, at0)) := by rw [← hS1]; exact hp_self h0
    have s1n : ∀ e, e ≠ S.2.1 → hg_at S1.1 e = hg_at S.1 e := fun e he => by rw [← hS1]; exact hp_ne he
    refine wq_call (ati_w s1w s1h (by rw [s12]; show 8 ≤ S.2.2.1 - 1; omega) (by rw [s12]; show 9766 ≤ S.2.2.2 - 15; omega)) ?_
    rintro S2 ⟨⟨b1, b2⟩, b3, b4⟩
    have b2 : S2.2 = (S.2.1 + 1 + 8, S.2.2.1 - 1 - 8, S.2.2.2 - 15 - 9766) := by rw [b2, s12]
    have t1 : S1.2.1 = S.2.1 + 1 := by rw [s12]
    have he2 : hg_at S2.1 o = some (.inr (0, enL t nn f (.ref u) (.ref (u + 18)) (.ref (u + 30)) (.ref (u + 31)) st en rn .null tn 0 la)) := by rw [b3 o (by omega) (by omega), s1n o (by omega)]; exact he
    refine wq_pfT (fs' := enL t nn f (.ref u) (.ref (u + 18)) (.ref (u + 30)) (.ref (u + 31)) st en rn (.ref S.2.1) tn 0 la) he2 (Nat.le_of_ble_eq_true rfl) rfl (fun S3 e3 => ?_)
    have s3w : hw S3 := by rw [← e3]; exact b1.hu
    have s32 : S3.2 = S2.2 := by rw [← e3]; rfl
    have s3n : ∀ e, e ≠ o → hg_at S3.1 e = hg_at S2.1 e := fun e h => by rw [← e3]; exact hu_ne h
    have s3o : hg_at S3.1 o = some (.inr (0, enL t nn f (.ref u) (.ref (u + 18)) (.ref (u + 30)) (.ref (u + 31)) st en rn (.ref S.2.1) tn 0 la)) := by rw [← e3]; exact hu_self he2
    have old : ∀ e, e < S.2.1 → e ≠ o → hg_at S3.1 e = hg_at S.1 e := fun e a1 a2 => by rw [s3n e a2, b3 e (by omega) (by omega), s1n e (by omega)]
    have hat3 : ATv G S3 S.2.1 (fun i => S1.2.1 + i) (fun _ _ => 0) (fun _ => 0) := ⟨by rw [s3n _ (by omega)]; exact b4.1, fun i hi => by rw [s3n _ (by show S1.2.1 + i ≠ o; omega)]; exact b4.2 i hi⟩
    have hL3 : EXl t0 u S.2.1 (fun i => S1.2.1 + i) := ⟨Or.inr (by omega), fun i hi => Or.inr (by show u + 32 ≤ S1.2.1 + i; omega)⟩
    refine wq_w (ex_52 s3w s3o (hlL S3 (fun e a1 a2 => old e (by omega) (by omega))) hleL hxL ho hat3 (fun i j _ _ e => by have e : S1.2.1 + i = S1.2.1 + j := e; omega) hL3 (by rw [s32, b2]; show 1 ≤ S.2.2.1 - 1 - 8 ∧ pa ≤ S.2.2.2 - 15 - 9766; omega) m00 ek hq3) ?_
    rintro z ⟨S', ez, e2, hO⟩
    refine ⟨S', S.2.1, fun i => S1.2.1 + i, 10, 9781 + pa, ez, ?_, Or.inl ⟨rfl, rfl, rfl, fun e he => ⟨by omega, fun i hi => by show e ≠ S1.2.1 + i; omega⟩⟩, hL3, back ?_⟩
    · rw [e2, s32, b2]
      show (S.2.1 + 1 + 8 + 1, S.2.2.1 - 1 - 8 - 1, S.2.2.2 - 15 - 9766 - pa) = _
      refine Prod.ext ?_ (Prod.ext ?_ ?_)
      · show S.2.1 + 1 + 8 + 1 = S.2.1 + 10; omega
      · show S.2.2.1 - 1 - 8 - 1 = S.2.2.1 - 10; omega
      · show S.2.2.2 - 15 - 9766 - pa = S.2.2.2 - (9781 + pa); omega
    · obtain ⟨a1, a2, a3⟩ := hO
      refine ⟨a1, fun e c1 c2 c3 c4 c5 => ?_, a3⟩
      rw [a2 e (by rw [s32, b2]; show e < S.2.1 + 1 + 8; omega) c2 c3 c4 c5]
      exact old e c1 c2
  · subst e
    refine wq_gr (x := some oA) he rfl ?_
    rw [if_neg (fun z => by cases z)]
    refine wq_w (ex_52 h0 he (hlL S (fun _ _ _ => rfl)) hleL hxL ho hat hinj hL ⟨by omega, by omega⟩ m00 ek hq3) ?_
    rintro z ⟨S', ez, e2, hO⟩
    exact ⟨S', oA, bA, 1, pa, ez, e2, Or.inr ⟨rfl, rfl, rfl, XA, cA, hat⟩, hL, back hO⟩
end EXQ
