/-! RESTART OF CLASS AND REFERENCE ARE IN STEP; a state is taken up -/
section PLR
variable {S r : md_S} {x1 : Int32}
theorem place_r (hq : mm_place S x1 = some r) : (∀ i, ¬ i = 77 → r.1 i = S.1 i) ∧ r.1 77 = (if x1 = 256 then 1 else 0) ∧ (∀ i, ¬ i = 74 → r.2.1 i = S.2.1 i) ∧ ∀ p, p < 200 → r.2.1 74 p = if ¬ x1 = 256 ∧ p < 8 ∧ (x1 >>> (Int32.ofNat p &&& (31 : Int32))) &&& 1 = 1 then 1 else 0 := by
  have core : ∀ y : Int32, (y = 0 ∨ y = 1) → y = (if x1 = 256 then 1 else 0) → dc_pw (mm_place_L13 S x1 y) (fun r => (∀ i, ¬ i = 77 → r.1 i = S.1 i) ∧ r.1 77 = y ∧ (∀ i, ¬ i = 74 → r.2.1 i = S.2.1 i) ∧ ∀ p, p < 200 → r.2.1 74 p = if ¬ x1 = 256 ∧ p < 8 ∧ (x1 >>> (Int32.ofNat p &&& (31 : Int32))) &&& 1 = 1 then 1 else 0) := by
    intro y hy ey
    have y0 : y = 0 ↔ ¬ x1 = 256 := by
      by_cases z : x1 = 256
      · rw [if_pos z] at ey; rw [ey]; exact ⟨fun u => absurd u (by decide), fun u => absurd z u⟩
      · rw [if_neg z] at ey; rw [ey]; exact ⟨fun _ => z, fun _ => rfl⟩
    delta mm_place_L13
    have ez : dc_zb y = some () := if_pos hy
    rw [ez]
    show dc_pw (mm_place_L18 (md_i S 77 y) x1 0) _
    delta mm_place_L18
    refine pw_loop (fun (z : md_S × Int32) => ∃ k, z.2 = Int32.ofNat k ∧ k ≤ 200 ∧ z.1.1 = (md_i S 77 y).1 ∧ (∀ i, ¬ i = 74 → z.1.2.1 i = S.2.1 i) ∧ ∀ p, p < k → z.1.2.1 74 p = if ¬ x1 = 256 ∧ p < 8 ∧ (x1 >>> (Int32.ofNat p &&& (31 : Int32))) &&& 1 = 1 then 1 else 0) (fun Z => Z.1 = (md_i S 77 y).1 ∧ (∀ i, ¬ i = 74 → Z.2.1 i = S.2.1 i) ∧ ∀ p, p < 200 → Z.2.1 74 p = if ¬ x1 = 256 ∧ p < 8 ∧ (x1 >>> (Int32.ofNat p &&& (31 : Int32))) &&& 1 = 1 then 1 else 0) ⟨0, rfl, by omega, rfl, fun _ _ => rfl, fun i hi => absurd hi (by omega)⟩ ?_ (fun Z hZ r hr => ?_)
    · rintro ⟨Y, v⟩ ⟨k, ev, k1, f1, f2, f3⟩
      have ev : v = Int32.ofNat k := ev
      have f1 : Y.1 = (md_i S 77 y).1 := f1
      have f2 : ∀ i, ¬ i = 74 → Y.2.1 i = S.2.1 i := f2
      have f3 : ∀ p, p < k → Y.2.1 74 p = if ¬ x1 = 256 ∧ p < 8 ∧ (x1 >>> (Int32.ofNat p &&& (31 : Int32))) &&& 1 = 1 then 1 else 0 := f3
      subst ev
      have tk : (Int32.ofNat k).toInt = (k : Int) := Int32.toInt_ofNat_of_lt (by omega)
      have tkn : (Int32.ofNat k).toInt.toNat = k := by omega
      have t200 : (200 : Int32).toInt = 200 := by decide
      have t8 : (8 : Int32).toInt = 8 := by decide
      have y77 : Y.1 77 = y := by rw [f1, md_i1, if_pos rfl]
      have last : ∀ w : Int32, (w = 0 ∨ w = 1) → k < 200 → w = (if ¬ x1 = 256 ∧ k < 8 ∧ (x1 >>> (Int32.ofNat k &&& (31 : Int32))) &&& 1 = 1 then 1 else 0) → dc_pw (mm_place_L57 Y x1 (Int32.ofNat k) w (Int32.ofNat k)) (Sum.elim (fun (z : md_S × Int32) => ∃ k, z.2 = Int32.ofNat k ∧ k ≤ 200 ∧ z.1.1 = (md_i S 77 y).1 ∧ (∀ i, ¬ i = 74 → z.1.2.1 i = S.2.1 i) ∧ ∀ p, p < k → z.1.2.1 74 p = if ¬ x1 = 256 ∧ p < 8 ∧ (x1 >>> (Int32.ofNat p &&& (31 : Int32))) &&& 1 = 1 then 1 else 0) (fun Z => Z.1 = (md_i S 77 y).1 ∧ (∀ i, ¬ i = 74 → Z.2.1 i = S.2.1 i) ∧ ∀ p, p < 200 → Z.2.1 74 p = if ¬ x1 = 256 ∧ p < 8 ∧ (x1 >>> (Int32.ofNat p &&& (31 : Int32))) &&& 1 = 1 then 1 else 0)) := by
        intro w hw hk he
        delta mm_place_L57
        have ez : dc_zb w = some () := if_pos hw
        rw [ez]
        show dc_pw ((dc_ix (Int32.ofNat k) 200).bind _) _
        refine pw_ix (fun _ _ => ?_)
        rw [tkn]
        refine pw_some ⟨k + 1, ad_m (by omega), by omega, f1, fun i hi => by show (md_a Y 74 k w).2.1 i = _; rw [md_a2, if_neg hi]; exact f2 i hi, fun p hp => ?_⟩
        show (md_a Y 74 k w).2.1 74 p = _
        rw [md_a2, if_pos rfl]
        by_cases e : p = k
        · subst e
          rw [upd_s]; exact he
        · rw [upd_n e]
          exact f3 p (by omega)
      show dc_pw (mm_place_b18 Y x1 (Int32.ofNat k)) _
      delta mm_place_b18
      refine pw_ifc (fun c => ?_) (fun c => ?_)
      · have c := i_lt.mp c
        rw [tk, t200] at c
        rw [y77]
        refine pw_ifc (fun c1 => ?_) (fun c1 => ?_)
        · refine pw_ifc (fun c2 => ?_) (fun c2 => ?_)
          · have c2 := i_lt.mp c2
            rw [tk, t8] at c2
            refine pw_ifc (fun c3 => ?_) (fun c3 => ?_)
            · exact last 1 (Or.inr rfl) (by omega) (by rw [if_pos ⟨y0.mp c1, by omega, c3⟩])
            · delta mm_place_L56
              exact last 0 (Or.inl rfl) (by omega) (by rw [if_neg (fun z => c3 z.2.2)])
          · have c2 : ¬ (Int32.ofNat k).toInt < (8 : Int32).toInt := fun z => c2 (i_lt.mpr z)
            rw [tk, t8] at c2
            delta mm_place_L56
            exact last 0 (Or.inl rfl) (by omega) (by rw [if_neg (fun z => by omega)])
        · delta mm_place_L56
          exact last 0 (Or.inl rfl) (by omega) (by rw [if_neg (fun z => c1 (y0.mpr z.1))])
      · have c : ¬ (Int32.ofNat k).toInt < (200 : Int32).toInt := fun z => c (i_lt.mpr z)
        rw [tk, t200] at c
        have : k = 200 := by omega
        subst this
        exact pw_some ⟨f1, f2, f3⟩
    · have hr : some Z = some r := hr
      rw [← Option.some.inj hr]
      exact ⟨fun i hi => by rw [hZ.1, md_i1, if_neg hi], by rw [hZ.1, md_i1, if_pos rfl], hZ.2.1, hZ.2.2⟩
  delta mm_place at hq
  by_cases z : x1 = 256
  · rw [if_pos z] at hq
    have := core 1 (Or.inr rfl) (by rw [if_pos z]) r hq
    rw [if_pos z]
    exact this
  · rw [if_neg z] at hq
    have := core 0 (Or.inl rfl) (by rw [if_neg z]) r hq
    rw [if_neg z]
    exact this
end PLR
section STL
variable {G : hg_E} {S : hg_S} {M : md_S} {T : tT} {t0 u n ps sg io pa o t : Nat} {R : Nat → Nat → Int32} {c : Nat → Int32} {X : Nat → Nat → Int32} {cn : Nat → Int32} {hf sf : Nat → Int32} {nn f st en rn ex la x1 : Int32} {ta tn : Value}
/-- both sides take up a state -/
theorem std_l (h0 : hw S) (he : hg_at S.1 o = some (.inr (0, enL t nn f (.ref u) (.ref (u + 18)) (.ref (u + 30)) (.ref (u + 31)) st en rn ta tn ex la))) (hl : LDp G S M u t0 T n ps sg io pa R c X cn hf sf) (ho : o < t0 ∧ t0 ≤ u) {a b : md_S} (e1 : mm_rest (md_i M 0 0) = some a) (e2 : mm_place a x1 = some b) (hx : x1 = 256 ∨ (¬ x1 = 256 ∧ pa ≤ 8 ∧ ∃ p, p < pa ∧ ¬ inB x1 p = 0)) : dc_wp (hm_SE_stand G S o x1) (fun S' => inL G S S' M (md_i b 82 1) u t0 o t T n ps sg io pa R c nn f ta tn ex la) := by
  obtain ⟨⟨hpg, hpt, hpb⟩, ⟨hre, hpl, hrp⟩, ⟨hh1, hh2⟩, ⟨hs1, hs2⟩, h70⟩ := hl
  obtain ⟨r1, r2, r3, r4⟩ := rest_r e1
  obtain ⟨p1, p2, p3, p4⟩ := place_r e2
  obtain ⟨-, -, ⟨-, -, -, -, -, -, -, -, -, -⟩, ⟨-, b2, b3, b4, b5, b6⟩, -⟩ := id hpg
  have eb : enH G S S o u io pa (enL t nn f (.ref u) (.ref (u + 18)) (.ref (u + 30)) (.ref (u + 31)) st en rn ta tn ex la) hf sf := ⟨⟨h0, rfl⟩, he, fun _ _ _ _ => rfl, hh1, hs1⟩
  obtain ⟨y, hy, hxy⟩ : ∃ y : Int32, (y = 0 ∨ y = 1) ∧ ((x1 = 256 ∧ y = 0) ∨ (¬ x1 = 256 ∧ y = 1)) := by
    by_cases z : x1 = 256
    · exact ⟨0, Or.inl rfl, Or.inl ⟨z, rfl⟩⟩
    · exact ⟨1, Or.inr rfl, Or.inr ⟨z, rfl⟩⟩
  refine wq_w (sta_w hy (by omega) eb b4 b6 hxy) ?_
  rintro S' ⟨hf', ⟨⟨w1, w2⟩, w3, w4, w5, w6⟩, hfp⟩
  have bn : ∀ i, ¬ (i = 0 ∨ (77 ≤ i ∧ i ≤ 83)) → (md_i b 82 1).1 i = M.1 i := fun i hi => by rw [md_i1, if_neg (by omega), p1 i (by omega), r1 i (by omega), md_i1, if_neg (by omega)]
  have ba : ∀ i, ¬ (i = 67 ∨ (70 ≤ i ∧ i ≤ 76) ∨ i = 84) → (md_i b 82 1).2.1 i = M.2.1 i := fun i hi => by
    show b.2.1 i = _
    rw [p3 i (by omega), r3 i (by omega)]
    rfl
  have mE' : mdE M (md_i b 82 1) := ⟨fun i b1 b2 => bn i (by omega), fun i hi => ba i (by omega)⟩
  have hb : ∀ b, b ≠ o → ¬ (u + 18 ≤ b ∧ b < u + 32) → hg_at S'.1 b = hg_at S.1 b := fun b b1 b2 => w4 b b1 (by omega) (by omega)
  have e74 : ∀ p, p < pa → (hf' p = 0 ↔ (md_i b 82 1).2.1 74 p = 0) := by
    intro p hp
    show hf' p = 0 ↔ b.2.1 74 p = 0
    rw [hfp p hp, p4 p (by omega)]
    unfold stB
    rcases hxy with ⟨a1, a2⟩ | ⟨a1, a2⟩
    · rw [if_pos a2, if_neg (fun z => z.1 a1)]
    · rw [if_neg (by rw [a2]; decide)]
      have hp8 : p < 8 := by
        rcases hx with z | z
        · exact absurd z a1
        · omega
      rw [inB_s (by omega)]
      rcases a1_01 (x := x1 >>> (Int32.ofNat p &&& (31 : Int32))) with z | z
      · rw [if_pos z, if_neg (fun y => by rw [z] at y; exact absurd y.2.2 (by decide))]
      · rw [if_neg (by rw [z]; decide), if_pos ⟨a1, hp8, z⟩]
  have n77 : (md_i b 82 1).1 77 = if x1 = 256 then 1 else 0 := by rw [md_i1, if_neg (by decide)]; exact p2
  refine ⟨⟨w1, w2⟩, hb, ⟨bn, ba⟩, ?_, X, cn, hf', _, y, 0, 0, w3, ⟨⟨pgS_c hpg mE' (fun b b1 b2 => hb b (by omega) (by omega)) ho.2, pgT_c hpt mE', pgB_c hpb mE'⟩, ⟨?_, hpl, hrp⟩, ⟨w5, e74⟩, ⟨w6, fun i hi => ?_⟩, fun i => ?_⟩, ?_, Or.inl ⟨rfl, by rw [md_i1, if_pos rfl]⟩, ?_, fun z _ => ?_, fun z => by rw [md_i1, if_pos rfl] at z; exact absurd z (by decide), fun z p hp => ?_⟩
  · rw [md_i1, if_neg (by decide), p1 0 (by omega), r1 0 (by omega), md_i1, if_pos rfl]
  · refine REv_c (S := S) hre (fun i b1 b2 => ?_) (w4 (u + 18) (by omega) (by omega) (by omega))
    have := reB_b (u := u) b1 b2
    exact w4 _ (by omega) (by omega) (by omega)
  · rw [if_pos hi]
    show (0 : Int32) = b.2.1 84 i
    rw [p3 84 (by omega), r4 i (by omega)]
  · show v3 (b.2.1 70 i)
    rw [p3 70 (by omega), r3 70 (by omega)]
    exact h70 i
  · rw [n77]
    rcases hxy with ⟨a1, a2⟩ | ⟨a1, a2⟩
    · rw [if_pos a1]; exact Or.inl ⟨a2, rfl⟩
    · rw [if_neg a1]; exact Or.inr ⟨a2, rfl⟩
  · rw [md_i1, if_neg (by decide), p1 83 (by omega), r2]
  · have nx : ¬ x1 = 256 := by
      intro u
      rw [n77, if_pos u] at z
      exact absurd z (by decide)
    rcases hx with u | ⟨-, u8, p, hp, hb'⟩
    · exact absurd u nx
    · refine ⟨p, hp, fun u => ?_⟩
      have := (e74 p hp).mpr u
      rw [hfp p hp] at this
      unfold stB at this
      rcases hxy with ⟨a1, a2⟩ | ⟨a1, a2⟩
      · exact nx a1
      · rw [if_neg (by rw [a2]; decide), if_neg hb'] at this
        exact absurd this (by decide)
  · show b.2.1 74 p = 0
    rw [n77] at z
    rw [p4 p (by omega)]
    by_cases e : x1 = 256
    · rw [if_neg (fun w => w.1 e)]
    · rw [if_neg e] at z
      exact absurd z (by decide)
/-- restart, of an engine with a program -/
theorem rst_l (h0 : hw S) (he : hg_at S.1 o = some (.inr (0, enL t nn f (.ref u) (.ref (u + 18)) (.ref (u + 30)) (.ref (u + 31)) st en rn ta tn ex la))) (hl : LDp G S M u t0 T n ps sg io pa R c X cn hf sf) (hle : LDe M pa st en rn) (h41 : M.1 41 = 1) (ho : o < t0 ∧ t0 ≤ u) {r : md_S × Int32} (hq : mm_restart M = some r) : dc_wp (hm_SE_restart G S o) (fun z => ∃ S', z = .inl (S', r.2) ∧ inL G S S' M r.1 u t0 o t T n ps sg io pa R c nn f ta tn ex la) := by
  delta mm_restart mm_restart_L13 at hq
  rw [if_neg (by rw [h41]; decide)] at hq
  have f0 : mm_fails M 0 0 = some (md_i M 0 0, 0) := by
    delta mm_fails mm_fails_L18 mm_fails_L33
    rw [if_pos rfl, if_pos rfl]
    rfl
  rw [f0] at hq
  have hq : (if (0 : Int32) = 0 then ((mm_rest (md_i M 0 0)).bind fun q3 => (mm_place q3 256).bind fun q4 => some (md_i q4 82 1, (md_i M 0 0).1 83)) else some (md_i M 0 0, 0)) = some r := hq
  rw [if_pos rfl] at hq
  obtain ⟨a, e1, hq⟩ := iv_bind hq
  obtain ⟨b, e2, hq⟩ := iv_bind hq
  have er : r = (md_i b 82 1, M.1 83) := by
    rw [← Option.some.inj hq, md_i1, if_neg (by decide)]
  delta hm_SE_restart
  refine wq_gr (x := some u) he rfl ?_
  rw [if_neg (fun z => by cases z)]
  refine wq_gi he rfl ?_
  refine wq_chk he ?_
  refine wq_call (std_l h0 he hl ho e1 e2 (Or.inl rfl)) (fun S' hS' => ?_)
  rw [er]
  exact ⟨_, rfl, S', by rw [hle.2.2.1], hS'⟩
end STL
