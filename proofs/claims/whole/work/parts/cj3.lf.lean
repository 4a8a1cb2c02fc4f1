/-! the reference's run at a leaf, on -/
section SIM
variable {S q : md_S} {k : Nat} {p3 : Int32}
theorem sim_109 {x3 : Int32} (hq : mm_simple_IZ_L109 S p3 x3 = some q) : q = md_i (md_i S 81 ((1 : Int32) <<< (x3 &&& (31 : Int32)))) 80 (if p3 = 0 then -1 else x3) := by
  delta mm_simple_IZ_L109 at hq
  by_cases c : p3 = 0
  · rw [if_pos c] at hq ⊢
    delta mm_simple_IZ_L122 at hq
    obtain ⟨z, ez, hq⟩ := iv_bind hq
    rw [← Option.some.inj hq]
    exact out_r ez
  · rw [if_neg c] at hq ⊢
    delta mm_simple_IZ_L122 at hq
    obtain ⟨z, ez, hq⟩ := iv_bind hq
    rw [← Option.some.inj hq]
    exact out_r ez
theorem sim_pl (hk : k < 1200) (n1 : ¬ S.2.1 51 k = 1) (n2 : ¬ S.2.1 51 k = 2) (hq : mm_simple_IZ S (Int32.ofNat k) p3 = some q) : q = md_i (md_i S 81 ((1 : Int32) <<< ((if S.2.1 51 k = 9 then S.2.1 54 k else 0) &&& (31 : Int32)))) 80 (if p3 = 0 then -1 else (if S.2.1 51 k = 9 then S.2.1 54 k else 0)) := by
  have tk : (Int32.ofNat k).toInt.toNat = k := by rw [Int32.toInt_ofNat_of_lt (by omega)]; omega
  have h83 : ∀ x3, mm_simple_IZ_L35 S (Int32.ofNat k) p3 x3 = some q → q = md_i (md_i S 81 ((1 : Int32) <<< (x3 &&& (31 : Int32)))) 80 (if p3 = 0 then -1 else x3) := by
    intro x3 h
    delta mm_simple_IZ_L35 at h
    obtain ⟨-, -, h⟩ := iv_ix h
    rw [tk, if_neg n2] at h
    delta mm_simple_IZ_L83 at h
    obtain ⟨-, -, h⟩ := iv_ix h
    rw [tk, if_neg n1] at h
    exact sim_109 h
  delta mm_simple_IZ at hq
  obtain ⟨-, -, hq⟩ := iv_ix hq
  rw [tk, if_neg n1] at hq
  obtain ⟨-, -, hq⟩ := iv_ix hq
  rw [tk] at hq
  by_cases c : S.2.1 51 k = 9
  · rw [if_pos c] at hq
    obtain ⟨-, -, hq⟩ := iv_ix hq
    rw [tk] at hq
    rw [if_pos c]
    exact h83 _ hq
  · rw [if_neg c] at hq
    rw [if_neg c]
    exact h83 _ hq
theorem sim_pa (hk : k < 1200) (e1 : S.2.1 51 k = 1) (hq : mm_simple_IZ S (Int32.ofNat k) p3 = some q) : q = md_i (md_i (if p3 = 0 then S else md_a S 75 (S.2.1 54 k).toInt.toNat 1) 81 ((1 : Int32) <<< (1 &&& (31 : Int32)))) 80 (if p3 = 0 then -1 else 1) := by
  have tk : (Int32.ofNat k).toInt.toNat = k := by rw [Int32.toInt_ofNat_of_lt (by omega)]; omega
  delta mm_simple_IZ at hq
  obtain ⟨-, -, hq⟩ := iv_ix hq
  rw [tk, if_pos e1] at hq
  delta mm_simple_IZ_L35 at hq
  obtain ⟨-, -, hq⟩ := iv_ix hq
  rw [tk, if_neg (by rw [e1]; decide)] at hq
  delta mm_simple_IZ_L83 at hq
  obtain ⟨-, -, hq⟩ := iv_ix hq
  rw [tk, if_pos e1] at hq
  by_cases c : p3 = 0
  · rw [if_pos c] at hq
    have := sim_109 hq
    rw [if_pos c] at this
    rw [if_pos c, if_pos c]
    exact this
  · rw [if_neg c] at hq
    obtain ⟨-, -, hq⟩ := iv_ix hq
    obtain ⟨-, -, hq⟩ := iv_ix hq
    rw [tk] at hq
    have hq : mm_simple_IZ_L109 (md_a S 75 (S.2.1 54 k).toInt.toNat 1) p3 1 = some q := hq
    have := sim_109 hq
    rw [if_neg c] at this
    rw [if_neg c, if_neg c]
    exact this
theorem or_1 {x : Int32} (h : (x ||| 1) = 0 ∨ (x ||| 1) = 1) : (x ||| 1) = 1 := by
  rcases h with h | h
  · exfalso
    have e := gb_or (a := x) (b := 1) (k := 0)
    rw [h, gb_0, gb_1] at e
    have e : false = (gb x 0 || true) := e
    rw [Bool.or_true] at e
    cases e
  · exact h
theorem sim_em (hk : k < 1200) (e2 : S.2.1 51 k = 2) {i : Nat} (hi : (S.2.1 73 (S.2.1 54 k).toInt.toNat).toInt.toNat = i) (hp : p3 = 0 ∨ p3 = 1) (hq : mm_simple_IZ S (Int32.ofNat k) p3 = some q) : q = md_i (md_i (md_a (md_a S 72 i 1) 71 i (if p3 = 0 then S.2.1 71 i else 1)) 81 ((1 : Int32) <<< (0 &&& (31 : Int32)))) 80 (if p3 = 0 then -1 else 0) := by
  have tk : (Int32.ofNat k).toInt.toNat = k := by rw [Int32.toInt_ofNat_of_lt (by omega)]; omega
  delta mm_simple_IZ at hq
  obtain ⟨-, -, hq⟩ := iv_ix hq
  rw [tk, if_neg (by rw [e2]; decide)] at hq
  obtain ⟨-, -, hq⟩ := iv_ix hq
  rw [tk, if_neg (by rw [e2]; decide)] at hq
  delta mm_simple_IZ_L35 at hq
  obtain ⟨-, -, hq⟩ := iv_ix hq
  rw [tk, if_pos e2] at hq
  obtain ⟨-, -, hq⟩ := iv_ix hq
  obtain ⟨-, -, hq⟩ := iv_ix hq
  obtain ⟨-, -, hq⟩ := iv_ix hq
  rw [tk, hi] at hq
  have f1 : ∀ j, ¬ j = 72 → (md_a S 72 i 1).2.1 j = S.2.1 j := fun j hj => by rw [md_a2, if_neg hj]
  have f0 : (md_a S 72 i 1).1 = S.1 := rfl
  have hq : (dc_ix (Int32.ofNat k) 1200).bind (fun j11 => (dc_ix ((md_a S 72 i 1).2.1 54 j11) 400).bind fun j12 => (dc_ix ((md_a S 72 i 1).2.1 73 j12) 1662).bind fun j13 => (dc_zb (((md_a S 72 i 1).2.1 71 j13) ||| p3)).bind fun _ => (dc_ix ((md_a S 72 i 1).2.1 73 j12) 1662).bind fun j15 => dc_let (md_a (md_a S 72 i 1) 71 j15 (((md_a S 72 i 1).2.1 71 j13) ||| p3)) fun S16 => mm_simple_IZ_L83 S16 (Int32.ofNat k) p3 0) = some q := hq
  obtain ⟨-, -, hq⟩ := iv_ix hq
  obtain ⟨-, -, hq⟩ := iv_ix hq
  obtain ⟨-, -, hq⟩ := iv_ix hq
  rw [tk, f1 54 (by omega), f1 73 (by omega), f1 71 (by omega), hi] at hq
  obtain ⟨_, ezb, hq⟩ := iv_bind hq
  obtain ⟨-, -, hq⟩ := iv_ix hq
  rw [hi] at hq
  have hq : mm_simple_IZ_L83 (md_a (md_a S 72 i 1) 71 i (S.2.1 71 i ||| p3)) (Int32.ofNat k) p3 0 = some q := hq
  have ez : (S.2.1 71 i ||| p3) = (if p3 = 0 then S.2.1 71 i else 1) := by
    rcases hp with c | c
    · rw [if_pos c, c, Int32.or_zero]
    · rw [if_neg (by rw [c]; decide), c]
      rw [c] at ezb
      delta dc_zb at ezb
      by_cases y : (S.2.1 71 i ||| 1) = 0 ∨ (S.2.1 71 i ||| 1) = 1
      · exact or_1 y
      · rw [if_neg y] at ezb
        cases ezb
  rw [ez] at hq
  delta mm_simple_IZ_L83 at hq
  obtain ⟨-, -, hq⟩ := iv_ix hq
  have e51 : (md_a (md_a S 72 i 1) 71 i (if p3 = 0 then S.2.1 71 i else 1)).2.1 51 k = 2 := e2
  rw [tk, e51, if_neg (by decide)] at hq
  exact sim_109 hq
end SIM
section LEAF
variable {M : md_S} {names : Int32} {kk ff ss xx : Nat → Int32} {m : Nat} {V : Int32 → Prop} {k : Nat} {up : Int32} {w : Int} {t : Int32} {a c : Int} {E : List (Int32 × Int32)}
theorem bB_i {p : Int32} {s : Prop} (h : bB p s) {c : Int32} : (s ∧ (if p = 0 then (-1 : Int32) else c) = c) ∨ (¬ s ∧ (if p = 0 then (-1 : Int32) else c) = -1) := by
  rcases h with ⟨h, e⟩ | ⟨h, e⟩
  · exact Or.inl ⟨h, if_neg (by rw [e]; decide)⟩
  · exact Or.inr ⟨h, if_pos e⟩
theorem rn_leaf {x : Lean.Name} (h : sfT M kk ff xx m (.const x) V k up w t a c E) : rnT M (.const x) V k w.toNat := by
  intro d S q ρ md s p2 p3 hP hq
  have rg := sfT_p h
  obtain ⟨hO, hL, hC, hw, ⟨b1, b2, b3, b4, b5, b6, b7⟩, h62, hE, hB, hn, hl, hV⟩ := h
  have b1 : k + 1 ≤ 1200 := b1
  have tk : (Int32.ofNat k).toInt.toNat = k := by rw [Int32.toInt_ofNat_of_lt (by omega)]; omega
  obtain ⟨hF, hv, hmd, hs, h78⟩ := hP
  cases d with
  | zero => exact (rn_z hq).elim
  | succ d =>
    have e51 : S.2.1 51 k = (lT x).1 := by rw [hF.2 51 (by omega)]; exact hL.1.1
    have e54 : S.2.1 54 = M.2.1 54 := hF.2 54 (by omega)
    have n10 : ¬ (lT x).1 = 10 := by rcases hO.1 with (z | z | z) | ⟨z, -⟩ <;> (rw [z]; decide)
    have hq : mm_run_L108 (mm_P3 d) S p2 p3 (Int32.ofNat k) = some q := rn_108 (by omega) (by rw [e51]; exact n10) hq
    delta mm_run_L108 at hq
    obtain ⟨-, -, hq⟩ := iv_ix hq
    rw [tk] at hq
    delta dc_let at hq
    dsimp only at hq
    rw [e51] at hq
    unfold zv
    have hp01 : p3 = 0 ∨ p3 = 1 := hs.elim (fun z => Or.inr z.2) (fun z => Or.inl z.2)
    rcases hO.1 with (z | z | z) | ⟨z, hVn⟩
    · -- nothing
      rw [z] at hq ⊢
      rw [if_pos rfl] at hq
      rw [if_neg (by decide), if_neg (by decide), if_neg (by decide)]
      obtain ⟨q4, e4, hq⟩ := iv_bind hq
      have hq : some q4 = some q := hq
      rw [← Option.some.inj hq]
      have := sim_pl (by omega) (by rw [e51, z]; decide) (by rw [e51, z]; decide) e4
      rw [e51, z, if_neg (by decide)] at this
      rw [this]
      refine out_O (cd := 0) (by omega) ?_ (bB_i hs)
      exact cB_1
    · -- pause
      rw [z] at hq ⊢
      rw [if_neg (by decide), if_pos rfl] at hq
      rw [if_pos rfl]
      have pas1 : pas (.const x) = 1 := if_pos z
      rw [pas1] at rg b7
      have en : M.2.1 54 k = Int32.ofNat a.toNat := by
        have := (hL.2.1 hO.2.1).1 z
        exact ofN_m (by omega) (by omega)
      have nu : nuQ M.2.1 k = a.toNat := by
        unfold nuQ
        rw [en, Int32.toInt_ofNat_of_lt (by omega)]
        omega
      cases md with
      | none =>
        have hmd : p2 = 0 := hmd
        rw [if_pos hmd] at hq
        show rnO M S q (.const x) k (zK 0 s)
        by_cases c0 : p3 = 0
        · rw [if_pos c0] at hq
          delta mm_run_L203 at hq
          obtain ⟨q4, e4, hq⟩ := iv_bind hq
          have hq : some q4 = some q := hq
          rw [← Option.some.inj hq, out_r e4]
          exact out_O (cd := 0) (by omega) cB_1 (hs.elim (fun z => absurd (z.2.symm.trans c0) (by decide)) (fun z => Or.inr ⟨z.1, rfl⟩))
        · rw [if_neg c0] at hq
          delta mm_run_L203 at hq
          obtain ⟨q4, e4, hq⟩ := iv_bind hq
          have hq : some q4 = some q := hq
          rw [← Option.some.inj hq, out_r e4]
          exact out_O (cd := 0) (by omega) cB_1 (hs.elim (fun z => Or.inl ⟨z.1, rfl⟩) (fun z => absurd z.2 c0))
      | some d0 =>
        obtain ⟨hm1, -⟩ : p2 = 1 ∧ _ := hmd
        rw [if_neg (by rw [hm1]; decide)] at hq
        obtain ⟨q4, e4, hq⟩ := iv_bind hq
        have hq : some q4 = some q := hq
        rw [← Option.some.inj hq]
        have e := sim_pa (by omega) (by rw [e51]; exact z) e4
        rw [e54] at e
        have e9 : (M.2.1 54 k).toInt.toNat = a.toNat := nu
        rw [e9] at e
        show rnO M S q4 (.const x) k (zP (fun p => p = nuQ M.2.1 k) s)
        rw [e]
        by_cases c0 : p3 = 0
        · have ns : ¬ s := hs.elim (fun z => absurd (z.2.symm.trans c0) (by decide)) (fun z => z.1)
          rw [if_pos c0, if_pos c0]
          obtain ⟨f1, f2, f3, f4, f5, f6⟩ := out_f (S := S) (a := (1 : Int32) <<< (1 &&& (31 : Int32))) (b := -1)
          refine ⟨⟨f1, f4⟩, ⟨by rw [f2]; exact cB_2, by rw [f3]; exact mB_s (by omega) (Or.inr ⟨ns, rfl⟩)⟩, fun i => ⟨fun z => z.elim, fun _ => by rw [f6]⟩, fun i => ⟨fun z => z.elim, fun _ => by rw [f6]⟩, fun j _ => by rw [f6], ⟨fun z => z.elim, fun _ => f5⟩, fun p _ => by rw [f6], fun ⟨_, z⟩ => absurd z.1 ns⟩
        · have hs1 : s := hs.elim (fun z => z.1) (fun z => absurd z.2 c0)
          rw [if_neg c0, if_neg c0]
          obtain ⟨f1, f2, f3, f4, f5, f6⟩ := out_f (S := md_a S 75 a.toNat 1) (a := (1 : Int32) <<< (1 &&& (31 : Int32))) (b := 1)
          have g0 : rnF S (md_a S 75 a.toNat 1) := ⟨fun _ _ => rfl, fun i hi => by rw [md_a2, if_neg (by omega)]⟩
          have g1 : ∀ i, ¬ i = 75 → (md_a S 75 a.toNat 1).2.1 i = S.2.1 i := fun i hi => by rw [md_a2, if_neg hi]
          have g2 : (md_a S 75 a.toNat 1).2.1 75 = upd (S.2.1 75) a.toNat 1 := rfl
          refine ⟨⟨rnF_tr g0 f1, f4⟩, ⟨by rw [f2]; exact cB_2, by rw [f3]; exact mB_s (by omega) (Or.inl ⟨hs1, rfl⟩)⟩, fun i => ⟨fun z => z.elim, fun _ => by rw [f6, g1 72 (by omega)]⟩, fun i => ⟨fun z => z.elim, fun _ => by rw [f6, g1 71 (by omega)]⟩, fun j _ => by rw [f6, g1 73 (by omega)], ⟨fun z => z.elim, fun _ => f5⟩, fun p hp => ?_, fun _ h0 p p1 p2 => ⟨fun zz => ?_, fun zz => ?_⟩⟩
          · rw [f6, g2, upd_n (by rw [rg.1, rg.2] at hp; omega)]
          · rw [f6, g2, zz.2, nu, upd_s]
          · exfalso
            apply zz
            rw [rg.1] at p1
            rw [rg.2] at p2
            exact ⟨hs1, by rw [nu]; omega⟩
    · -- exit
      rw [z] at hq ⊢
      rw [if_neg (by decide), if_neg (by decide), if_neg (by decide), if_neg (by decide), if_neg (by decide), if_neg (by decide), if_neg (by decide), if_neg (by decide), if_neg (by decide), if_pos rfl] at hq
      rw [if_neg (by decide), if_neg (by decide), if_pos rfl]
      obtain ⟨q4, e4, hq⟩ := iv_bind hq
      have hq : some q4 = some q := hq
      rw [← Option.some.inj hq]
      have e := sim_pl (by omega) (by rw [e51, z]; decide) (by rw [e51, z]; decide) e4
      rw [e51, z, if_pos rfl, e54] at e
      have ec := hC.2.2 z
      have hE : E.length + 0 ≤ 26 := hE
      have lt : ixE (lT x).2.2.2.2.1 (E.map Prod.snd) < 26 := by
        have mem : (lT x).2.2.2.2.1 ∈ E.map Prod.snd := by
          rcases hw z with ⟨-, -, u⟩ | ⟨-, u⟩
          · cases E with
            | nil => cases u
            | cons y E =>
              have u : y = (-1, (lT x).2.2.2.2.1) := Option.some.inj u
              rw [u]
              exact List.mem_cons_self
          · exact List.mem_map.mpr ⟨_, u, rfl⟩
        have := ixE_lt _ mem
        rw [List.length_map] at this
        omega
      have nu : nuQ M.2.1 k = 2 + ixE (lT x).2.2.2.2.1 (E.map Prod.snd) := by
        unfold nuQ
        rw [ec, Int32.toInt_ofNat_of_lt (by omega)]
        omega
      rw [e, nu]
      refine out_O (by omega) (ex_b (by omega) ec) ?_
      rcases bB_i hs (c := M.2.1 54 k) with ⟨u1, u2⟩ | ⟨u1, u2⟩
      · exact Or.inl ⟨u1, u2.trans ec⟩
      · exact Or.inr ⟨u1, u2⟩
    · -- emit
      rw [z] at hq ⊢
      rw [if_neg (by decide), if_neg (by decide), if_pos rfl] at hq
      rw [if_neg (by decide), if_pos rfl]
      obtain ⟨q4, e4, hq⟩ := iv_bind hq
      have hq : some q4 = some q := hq
      rw [← Option.some.inj hq]
      have en : M.2.1 54 k = (lT x).2.2.1 := by
        have e := (hL.2.1 hO.2.1).2 (by rw [z]; decide) (Or.inl (by rw [z]; decide))
        unfold rN at e
        rw [if_neg (by rw [z]; decide)] at e
        exact e
      have nu : nuQ M.2.1 k = (lT x).2.2.1.toInt.toNat := by unfold nuQ; rw [en]
      obtain ⟨v1, v2⟩ := hv _ hVn
      have hi : (S.2.1 73 (S.2.1 54 k).toInt.toNat).toInt.toNat = ρ (nuQ M.2.1 k) := by
        rw [e54, en, v1, nu, Int32.toInt_ofNat_of_lt (by omega)]
        omega
      have e := sim_em (by omega) (by rw [e51]; exact z) hi hp01 e4
      generalize ρ (nuQ M.2.1 k) = i at e
      rw [e]
      obtain ⟨f1, f2, f3, f4, f5, f6⟩ := out_f (S := md_a (md_a S 72 i 1) 71 i (if p3 = 0 then S.2.1 71 i else 1)) (a := (1 : Int32) <<< (0 &&& (31 : Int32))) (b := if p3 = 0 then -1 else 0)
      have g0 : rnF S (md_a (md_a S 72 i 1) 71 i (if p3 = 0 then S.2.1 71 i else 1)) := ⟨fun _ _ => rfl, fun j hj => by rw [md_a2, if_neg (by omega), md_a2, if_neg (by omega)]⟩
      have g1 : ∀ j, ¬ (j = 71 ∨ j = 72) → (md_a (md_a S 72 i 1) 71 i (if p3 = 0 then S.2.1 71 i else 1)).2.1 j = S.2.1 j := fun j hj => by rw [md_a2, if_neg (by omega), md_a2, if_neg (by omega)]
      have g2 : (md_a (md_a S 72 i 1) 71 i (if p3 = 0 then S.2.1 71 i else 1)).2.1 72 = upd (S.2.1 72) i 1 := rfl
      have g3 : (md_a (md_a S 72 i 1) 71 i (if p3 = 0 then S.2.1 71 i else 1)).2.1 71 = upd (S.2.1 71) i (if p3 = 0 then S.2.1 71 i else 1) := rfl
      refine ⟨⟨rnF_tr g0 f1, f4⟩, ⟨by rw [f2]; exact cB_1, by rw [f3]; exact mB_s (by omega) (bB_i hs)⟩, fun j => ⟨fun zz => ?_, fun zz => ?_⟩, fun j => ⟨fun zz => ?_, fun zz => ?_⟩, fun j _ => by rw [f6, g1 73 (by omega)], ⟨fun zz => zz.elim, fun _ => f5⟩, fun p _ => by rw [f6, g1 75 (by omega)], fun _ h0 p p1 p2 => ⟨fun zz => zz.elim, fun _ => by rw [f6, g1 75 (by omega)]; exact h0 p p1 p2⟩⟩
      · have zz : j = i := zz
        rw [f6, g2, zz, upd_s]
      · have zz : ¬ j = i := zz
        rw [f6, g2, upd_n zz]
      · obtain ⟨z1, z2⟩ : s ∧ j = i := zz
        rw [f6, g3, z2, upd_s, if_neg (hs.elim (fun z => by rw [z.2]; decide) (fun z => absurd z1 z.1))]
      · have zz : ¬ (s ∧ j = i) := zz
        rw [f6, g3]
        by_cases ej : j = i
        · have ns : ¬ s := fun z => zz ⟨z, ej⟩
          rw [ej, upd_s, if_pos (hs.elim (fun z => absurd z.1 ns) (fun z => z.2))]
        · rw [upd_n ej]
end LEAF
