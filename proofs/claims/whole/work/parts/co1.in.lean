/-! INSTANT OF CLASS AND REFERENCE ARE IN STEP -/
section INT
variable {G : hg_E} {S : hg_S} {M : md_S} {T : tT} {t0 u n ps sg io pa o t : Nat} {R : Nat → Nat → Int32} {c : Nat → Int32} {X : Nat → Nat → Int32} {cn : Nat → Int32} {hf sf : Nat → Int32} {nn f st en rn ex la x1 : Int32} {ta tn : Value}
theorem ins_l (h0 : hw S) (he : hg_at S.1 o = some (.inr (0, enL t nn f (.ref u) (.ref (u + 18)) (.ref (u + 30)) (.ref (u + 31)) st en rn ta tn ex la))) (hl : LDp G S M u t0 T n ps sg io pa R c X cn hf sf) (hle : LDe M pa st en rn) (ho : o < t0 ∧ t0 ≤ u) (rm : 1 ≤ S.2.2.1 ∧ 6 ≤ S.2.2.2) {r : md_S × Int32} (hq : mm_instant M x1 = some r) : dc_wp (hm_SE_instant G S o x1) (fun z => (∃ S', z = .inl (S', r.2) ∧ inL G S S' M r.1 u t0 o t T n ps sg io pa R c nn f ta tn ex la) ∨ ∃ b, z = .inr ((S.1, S.2.1 + 1, S.2.2.1 - 1, S.2.2.2 - 6), S.2.1, b) ∧ ((b = false ∧ r = (md_i M 0 1, 0)) ∨ (b = true ∧ r = (md_i M 0 2, 0)))) := by
  obtain ⟨⟨hpg, hpt, hpb⟩, ⟨hre, hpl, hrp⟩, ⟨hh1, hh2⟩, ⟨hs1, hs2⟩, h70⟩ := hl
  obtain ⟨l1, l2, l3, l4, l5, l6⟩ := hle
  have mE : mdE M (md_i M 0 0) := ⟨fun i i1 i2 => by rw [md_i1, if_neg (by omega)], fun _ _ => rfl⟩
  have pg0 := pgS_c hpg mE (S' := S) (fun _ _ _ => rfl) ho.2
  have pt0 := pgT_c hpt mE
  have pb0 := pgB_c hpb mE
  have m77 : (md_i M 0 0).1 77 = M.1 77 := by rw [md_i1, if_neg (by decide)]
  have h77 : (md_i M 0 0).1 77 = 0 ∨ (md_i M 0 0).1 77 = 1 := by
    rw [m77]
    exact l1.elim (fun z => Or.inr z.2) (fun z => Or.inl z.2)
  obtain ⟨kk, ff, ss, xx, m, names, ins, ⟨W, hm⟩, hT, hn, hi, ht⟩ := pg_gt pg0 pt0 pb0 h77
  have rr : ∀ q, mm_react (md_i M 0 0) x1 = some q → rxO (md_i M 0 0) q.1 ins io (lis ((md_i M 0 0).2.1 51) ((md_i M 0 0).2.1 57) n) pa T x1 q.2 := fun q e => react_r hm W hT.1 hn h70 e
  have hn' := hn
  obtain ⟨⟨n45, nio, n50, n47⟩, ⟨i1, i2, i3, i4, i5⟩, npas, -⟩ := hn'
  have io_ := in_r i2 (show M.1 45 + M.1 46 = Int32.ofNat io from nio) i5 (show M.1 47 = Int32.ofNat pa from n47) (fun q e => (rr q e).1.1) hq
  have isI := is_I (M := M) (p := x1) (show M.1 45 = Int32.ofNat ins from n45) hi.2
  obtain ⟨nm, hnm, hpgv⟩ := pg0.1
  have c1e : c 1 = Int32.ofNat ins := (pg0.2.2.1.2.2.2.1).trans n45
  delta hm_SE_instant
  refine wq_gr (x := some u) he rfl ?_
  rw [if_neg (fun z => by cases z)]
  refine wq_gi he rfl ?_
  rcases l2 with ⟨e0, e82⟩ | ⟨e1, e82⟩
  · rw [if_pos e0]
    refine wq_gr (x := some u) he rfl ?_
    refine wq_gi hpgv.1 (x := c 1) rfl ?_
    rw [c1e]
    by_cases cin : x1.toBitVec.toNat < 2 ^ ins
    · rw [if_pos ((us_k ins (by omega)).mpr cin)]
      rw [if_pos cin] at isI
      refine wq_gr (x := some (u + 18)) he rfl ?_
      refine wq_gi he rfl ?_
      refine wq_gr (x := some (u + 30)) he rfl ?_
      refine wq_chk hre.1 ?_
      rcases io_ with ⟨u1, -⟩ | ⟨-, u2, -⟩ | ⟨-, -, q, eq, q84, hqr⟩
      · exact absurd e82 u1
      · rw [isI] at u2
        exact absurd (Option.some.inj u2) (by decide)
      · have rO := rr q eq
        have hRV : RV G (ldE S u nm n ps sg io pa R c) S (X, cn) := ld_RV h0 hpgv hre
        have hS := ld_S (S := S) (nm := nm) pg0 hpl hi ht
        have hat : ∀ S' q', RV G (ldE S u nm n ps sg io pa R c) S' q' → ∀ b, ¬ (u + 18 ≤ b ∧ b < u + 30) → hg_at S'.1 b = hg_at S.1 b := by
          intro S' q' h b hb
          refine h.2.2.2 b (fun e => ?_) (fun i a1 a2 e => ?_)
          · have e : b = u + 18 := e
            omega
          · have e : b = reB (u + 19) i := e
            have := reB_b (u := u) a1 a2
            omega
        have key := rea_w (p := st) (hA := u + 30) (hf := hf) (r := q) (x1 := x1) W hm hT hn hS h70 hRV hrp (fun S' q' h => by rw [hat S' q' h (u + 30) (by omega)]; exact hh1) hh2 (by
          rw [m77]
          rcases l1 with ⟨a1, a2⟩ | ⟨a1, a2⟩
          · rw [a1, a2]; exact ⟨fun z => absurd z (by decide), fun z => absurd rfl z⟩
          · rw [a1, a2]; exact ⟨fun _ => by decide, fun _ => rfl⟩) (fun z => l4 (by rw [← m77]; exact z) e82) rO
        refine wq_call key ?_
        rintro ⟨S1, v⟩ ⟨q', gR, rP, rA, rK, rN⟩
        have gR : RV G (ldE S u nm n ps sg io pa R c) S1 q' := gR
        have rA : (v = 2 ∧ q.2 = -1) ∨ (v = 1 ∧ q.2 = 0) ∨ (v = 0 ∧ q.2 = 1) := rA
        have hf1 := hat S1 q' gR
        have s12 : S1.2 = S.2 := gR.1.2.1
        have eb : enH G S1 S1 o u io pa (enL t nn f (.ref u) (.ref (u + 18)) (.ref (u + 30)) (.ref (u + 31)) st en rn ta tn ex la) hf sf := ⟨⟨gR.1.1, rfl⟩, by rw [hf1 o (by omega)]; exact he, fun _ _ _ _ => rfl, by rw [hf1 (u + 30) (by omega)]; exact hh1, by rw [hf1 (u + 31) (by omega)]; exact hs1⟩
        have tio : (Int32.ofNat io).toInt = (io : Int) := Int32.toInt_ofNat_of_lt (by omega)
        have tion : (Int32.ofNat io).toInt.toNat = io := by omega
        have t0n : (0 : Int32).toInt.toNat = 0 := by decide
        have t0i : (0 : Int32).toInt = 0 := by decide
        have plge : io ≤ plc (R 0) (R 7) io n := plc_le (kd := R 0) (wt := R 7) (io := io) (Nat.zero_le n)
        have hkn : hg_at S1.1 (reB (u + 19) 1) = some (.inl (G.1 0, plc (R 0) (R 7) io n, .inl (q'.1 1))) := gR.2.1.2 1 (by decide) (by decide)
        show dc_wp ((hg_gr S1 (some o) 0 4).bind fun e23 => (hg_gr S1 e23 10 1).bind fun e24 => (hg_gr S1 (some o) 0 8).bind fun e25 => (hg_gr S1 (some o) 0 8).bind fun e26 => (hg_ln S1 e26 (G.1 0)).bind fun e27 => (hg_cpy G S1 0 .int e24 0 e25 0 e27).bind fun S28 => if v = 2 then (hm_SE_instant_L135 G S28 o v) else ((hg_pf S28 (some o) 0 5 (.int 1)).bind fun S29 => if v = 1 then (hm_SE_instant_L101 G S29 o v 1) else (hm_SE_instant_L101 G S29 o v 0))) _
        refine wq_gr (x := some (u + 18)) eb.2.1 rfl ?_
        refine rv_g gR (i := 1) (by decide) (by decide) ?_
        refine wq_gr (x := some (u + 31)) eb.2.1 rfl ?_
        refine wq_gr (x := some (u + 31)) eb.2.1 rfl ?_
        refine wq_ln eb.2.2.2.2 ?_
        refine wq_cpy (a := reB (u + 19) 1) hkn eb.2.2.2.2 (by omega) (by omega) (by omega) (by omega) (by omega) (fun i hi => rfl) ?_
        rw [t0n, tion]
        have e28 := enH_s (sf' := va_cpy (q'.1 1) sf 0 0 io) (show o < u by omega) eb
        generalize hu S1 (u + 31) (.inl (G.1 0, io, .inl (va_cpy (q'.1 1) sf 0 0 io))) = S28 at e28
        -- rows that stay
        have rF := (rO.1).1
        have qn : ∀ i, ¬ (i = 0 ∨ (77 ≤ i ∧ i ≤ 83)) → q.1.1 i = M.1 i := fun i hi => by rw [rF.1 i (by omega), md_i1, if_neg (by omega)]
        have qa : ∀ i, ¬ (i = 67 ∨ (70 ≤ i ∧ i ≤ 76) ∨ i = 84) → q.1.2.1 i = M.2.1 i := fun i hi => rF.2 i (by omega)
        have q0 : q.1.1 0 = 0 := by rw [rF.1 0 (by omega), md_i1, if_pos rfl]
        have q77 : q.1.1 77 = M.1 77 := by rw [rF.1 77 (by omega), m77]
        have q82 : q.1.1 82 = M.1 82 := by rw [rF.1 82 (by omega), md_i1, if_neg (by decide)]
        have q83 : q.1.1 83 = M.1 83 := by rw [rF.1 83 (by omega), md_i1, if_neg (by decide)]
        have q74 : q.1.2.1 74 = M.2.1 74 := rF.2 74 (by omega)
        -- what is left
        have fin : ∀ (S' : hg_S) (hf' : Nat → Int32) (st' en' rn' : Int32), enH G S1 S' o u io pa (enL t nn f (.ref u) (.ref (u + 18)) (.ref (u + 30)) (.ref (u + 31)) st' en' rn' ta tn ex la) hf' (va_cpy (q'.1 1) sf 0 0 io) → (∀ i, ¬ (i = 0 ∨ (77 ≤ i ∧ i ≤ 83)) → r.1.1 i = M.1 i) → r.1.1 0 = 0 → (∀ i, ¬ (i = 74 ∨ i = 84) → r.1.2.1 i = q.1.2.1 i) → (∀ p, p < pa → (hf' p = 0 ↔ r.1.2.1 74 p = 0)) → LDe r.1 pa st' en' rn' → inL G S S' M r.1 u t0 o t T n ps sg io pa R c nn f ta tn ex la := by
          intro S' hf' st' en' rn' hE a1 a2 a3 a4 a5
          obtain ⟨⟨w1, w2⟩, w3, w4, w5, w6⟩ := hE
          have ra : ∀ i, ¬ (i = 67 ∨ (70 ≤ i ∧ i ≤ 76) ∨ i = 84) → r.1.2.1 i = M.2.1 i := fun i hi => by rw [a3 i (by omega)]; exact qa i hi
          have mE' : mdE M r.1 := ⟨fun i b1 b2 => a1 i (by omega), fun i hi => ra i (by omega)⟩
          have hb : ∀ b, b ≠ o → ¬ (u + 18 ≤ b ∧ b < u + 32) → hg_at S'.1 b = hg_at S.1 b := fun b b1 b2 => by rw [w4 b b1 (by omega) (by omega), hf1 b (by omega)]
          have hrp' : q'.1 3 = X 3 := rP.1
          refine ⟨⟨w1, w2.trans s12⟩, hb, ⟨a1, ra⟩, a2, q'.1, q'.2, hf', _, st', en', rn', w3, ⟨⟨pgS_c hpg mE' (fun b b1 b2 => hb b (by omega) (by omega)) ho.2, pgT_c hpt mE', pgB_c hpb mE'⟩, ⟨?_, by rw [hrp']; exact hpl, by rw [hrp']; exact rP⟩, ⟨w5, a4⟩, ⟨w6, fun i hi => ?_⟩, fun i => ?_⟩, a5⟩
          · refine REv_c (S := S1) gR.2.1 (fun i b1 b2 => ?_) (w4 (u + 18) (by omega) (by omega) (by omega))
            have := reB_b (u := u) b1 b2
            exact w4 _ (by show reB (u + 19) i ≠ o; omega) (by show reB (u + 19) i ≠ u + 30; omega) (by show reB (u + 19) i ≠ u + 31; omega)
          · rw [cpy_v, if_pos hi, rK i hi]
            exact (q84 i hi).symm
          · rw [a3 70 (by omega)]
            exact rO.1.2.1 i
        rcases hqr with ⟨qm, r2, r1, rr1⟩ | ⟨qm, r2, r1, r77, r82, r83, rr1, r74⟩
        · -- no reaction
          have v2 : v = 2 := by
            rcases rA with a | a | a
            · exact a.1
            · rw [a.2] at qm; exact absurd qm (by decide)
            · rw [a.2] at qm; exact absurd qm (by decide)
          rw [if_pos v2]
          delta hm_SE_instant_L135
          refine ⟨_, rfl, Or.inl ⟨S28, by rw [v2, r2], ?_⟩⟩
          refine fin S28 hf st en rn e28 (fun i hi => by rw [r1]; exact qn i hi) (by rw [r1]; exact q0) (fun i hi => rr1 i (by omega)) (fun p hp => by rw [rr1 74 (by omega), q74]; exact hh2 p hp) ?_
          refine ⟨by rw [r1, q77]; exact l1, by rw [r1, q82]; exact Or.inl ⟨e0, e82⟩, by rw [r1, q83]; exact l3, ?_, ?_, ?_⟩
          · rw [r1, q77, q82, rr1 74 (by omega), q74]
            exact l4
          · rw [r1, q82, rr1 74 (by omega), q74]
            exact l5
          · rw [r1, q77, rr1 74 (by omega), q74]
            exact l6
        · -- a reaction
          have v2 : ¬ v = 2 := by
            intro z
            rcases rA with a | a | a
            · exact qm a.2
            · rw [a.1] at z; exact absurd z (by decide)
            · rw [a.1] at z; exact absurd z (by decide)
          rw [if_neg v2]
          obtain ⟨-, rp, rp1⟩ := rN qm
          refine wq_pfT (fs' := enL t nn f (.ref u) (.ref (u + 18)) (.ref (u + 30)) (.ref (u + 31)) 1 en rn ta tn ex la) e28.2.1 (Nat.le_of_ble_eq_true rfl) rfl (fun S29 e29 => ?_)
          have h29 : enH G S1 S29 o u io pa (enL t nn f (.ref u) (.ref (u + 18)) (.ref (u + 30)) (.ref (u + 31)) 1 en rn ta tn ex la) hf (va_cpy (q'.1 1) sf 0 0 io) := by rw [← e29]; exact enH_f (by omega) e28
          have rnum : ∀ i, ¬ (i = 0 ∨ (77 ≤ i ∧ i ≤ 83)) → r.1.1 i = M.1 i := fun i hi => by rw [r1 i (by omega)]; exact qn i hi
          have rz : r.1.1 0 = 0 := by rw [r1 0 (by omega)]; exact q0
          rcases rA with a | ⟨a1, a2⟩ | ⟨a1, a2⟩
          · exact absurd a.1 v2
          · -- it ends
            rw [if_pos a1]
            refine wq_w (in_101 (Or.inr rfl) (by omega) gR h29 i5 rP.2.2.2.2.2) ?_
            rintro z ⟨S', ez, hE⟩
            have r20 : r.2 = 1 := by rw [r2, a2]; decide
            refine Or.inl ⟨S', by rw [ez, a1, r20], ?_⟩
            refine fin S' _ 1 1 (rn + 1) hE rnum rz (fun i hi => rr1 i (by omega)) (fun p hp => ?_) ⟨Or.inr ⟨rfl, r77⟩, Or.inr ⟨rfl, by rw [r82, a2]; decide⟩, by rw [r83, q83, l3], fun _ z => ?_, fun _ p hp => ?_, fun z => by rw [r77] at z; exact absurd z (by decide)⟩
            · rw [cpy_v, if_pos hp, r74 p hp, if_neg (fun y => by rw [a2] at y; exact absurd y.1 (by decide))]
              exact ⟨fun _ => rfl, fun _ => (rp p hp).2 a2⟩
            · rw [r82, a2] at z
              exact absurd z (by decide)
            · rw [r74 p hp, if_neg (fun y => by rw [a2] at y; exact absurd y.1 (by decide))]
          · -- it goes on
            rw [if_neg (by rw [a1]; decide)]
            refine wq_w (in_101 (Or.inl rfl) (by omega) gR h29 i5 rP.2.2.2.2.2) ?_
            rintro z ⟨S', ez, hE⟩
            have r20 : r.2 = 0 := by rw [r2, a2]; decide
            have h74 : ∀ p, p < pa → (q'.1 11 p = 0 ↔ r.1.2.1 74 p = 0) := by
              intro p hp
              obtain ⟨⟨b1, b2⟩, -⟩ := rp p hp
              rw [r74 p hp]
              by_cases y : q'.1 11 p = 0
              · have n1 : ¬ q.1.2.1 75 p = 1 := fun z => (b1.mpr z) y
                have z75 : q.1.2.1 75 p = 0 := b2.elim id (fun z => absurd z n1)
                rw [if_neg (fun z => z.2 z75)]
                exact ⟨fun _ => rfl, fun _ => y⟩
              · have z75 := b1.mp y
                rw [if_pos ⟨a2, by rw [z75]; decide⟩]
                exact ⟨fun z => absurd z y, fun z => absurd z (by decide)⟩
            refine Or.inl ⟨S', by rw [ez, a1, r20], ?_⟩
            refine fin S' _ 1 0 (rn + 1) hE rnum rz (fun i hi => rr1 i (by omega)) (fun p hp => ?_) ⟨Or.inr ⟨rfl, r77⟩, Or.inl ⟨rfl, by rw [r82, a2]; decide⟩, by rw [r83, q83, l3], fun _ _ => ?_, fun z => by rw [r82, a2] at z; exact absurd z (by decide), fun z => by rw [r77] at z; exact absurd z (by decide)⟩
            · rw [cpy_v, if_pos hp]
              exact h74 p hp
            · obtain ⟨p, hp, np⟩ := rp1 a2
              exact ⟨p, hp, fun z => np ((h74 p hp).mpr z)⟩
    · rw [if_neg (fun z => cin ((us_k ins (by omega)).mp z)), if_pos rm]
      rw [if_neg cin] at isI
      refine ⟨_, rfl, Or.inr ⟨true, rfl, Or.inr ⟨rfl, ?_⟩⟩⟩
      rcases io_ with ⟨u1, -⟩ | ⟨-, -, u3⟩ | ⟨-, ⟨v, u2, u3⟩, -⟩
      · exact absurd e82 u1
      · exact u3
      · rw [isI] at u2
        exact absurd (Option.some.inj u2).symm u3
  · rw [if_neg (by rw [e1]; decide)]
    delta hm_SE_instant_L14
    rw [if_pos rm]
    refine ⟨_, rfl, Or.inr ⟨false, rfl, Or.inl ⟨rfl, ?_⟩⟩⟩
    rcases io_ with ⟨-, u2⟩ | ⟨u1, -⟩ | ⟨u1, -⟩
    · exact u2
    · rw [e82] at u1; exact absurd u1 (by decide)
    · rw [e82] at u1; exact absurd u1 (by decide)
end INT
