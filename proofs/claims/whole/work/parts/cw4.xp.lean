/-! explore, between calls -/
section XPS
variable {Ks : md_S → Prop} {G : hg_E} {S : hg_S} {M : md_S} {sz k : Nat}
theorem ATv_b {oA : Nat} {b b' : Nat → Nat} {X X' : Nat → Nat → Int32} {c c' : Nat → Int32} (h : ATv G S oA b X c) (h' : ATv G S oA b' X' c') : ∀ i, i < 8 → b' i = b i := by
  have e := Option.some.inj (h.1.symm.trans h'.1)
  simp only [Sum.inr.injEq, Prod.mk.injEq, List.cons.injEq, Value.ref.injEq] at e
  intro i hi
  have : i = 0 ∨ i = 1 ∨ i = 2 ∨ i = 3 ∨ i = 4 ∨ i = 5 ∨ i = 6 ∨ i = 7 := by omega
  rcases this with z | z | z | z | z | z | z | z <;> subst z <;> simp_all
theorem th_explore (hKs : ∀ M e, Ks M → Ks (md_i M 0 e)) (h : wJ Ks G sz k S M) (hk5 : k ≤ 512) (hs : dc_wp (mm_explore M) (fun r => Ks r.1)) : thO false (hm_SE_explore G S sz) (mm_explore M) (wJ Ks G sz (k + 1)) := by
  obtain ⟨r, hr, hKr⟩ := hs
  have rm := wJ_r h hk5
  obtain ⟨t, N, g, nn, f, st, en, rn, ex, la, pg, rc, hd, sh, ta, tn, oA, oN, cap, bA, bN, hK, ⟨hT, hsz⟩, hO, hR, hP⟩ := id h
  have he : hg_at S.1 sz = some (.inr (0, enL t nn f pg rc hd sh st en rn ta tn ex la)) := hT.1.1.1
  obtain ⟨⟨⟨v1, v2⟩, w0, ot⟩, ⟨t1, t2, t3⟩, t4, t5⟩ := id hT
  rcases hP with ⟨q1, ⟨a1, a2, a3, a4⟩, -⟩ | ⟨u, t0, T, n, ps, sg, io, pa, R, c, X, cn, hf, sf, ⟨a1, a2, a3, a4⟩, ⟨q2, q3, q4⟩, q5, q6⟩
  · subst a1 a2 a3 a4
    obtain ⟨e, w⟩ := np_explore he q1 ⟨by omega, by omega⟩ hr
    exact th_ex (b := false) (fun z => by cases z) hKs h hk5 hr (by rw [e]; rfl) w
  · subst a1 a2 a3 a4
    by_cases hx : xpO M
    · rcases id q6 with ⟨x1, x2, x3, x4, x5, x6⟩ | ⟨x1, x2, x3, -, q, cnt, ins, out, x5, -⟩
      · subst x1 x2
        have hta : atH G S t0 u ta := by
          rcases hO.1 with z | ⟨z, ⟨XA, cA, a2⟩, a3⟩
          · exact Or.inl z
          · exact Or.inr ⟨oA, bA, XA, cA, z, a2, a3, q5.2.2.1 z⟩
        obtain ⟨ins, out, n45, n46, n4, n31, nio, pa8⟩ := xp_num q2.1.1 hx
        refine ⟨r, hr, wq_w (exp_l w0 he q2 q3 q4 x3 hx q5.1 hta ⟨by omega, by omega⟩ hr) ?_⟩
        rintro z ⟨S', oA', bA', kk, w, ez, es, hcs, hl', ho⟩
        obtain ⟨w', hb, ⟨⟨m1, m2⟩, m0, m85⟩, he', ⟨X', cn', hld⟩, hle, q, cnt, ins', hX⟩ := ho
        refine Or.inl ⟨S', ez, m0, ?_⟩
        -- cells below that are no cells of the atlas, nor the program's
        have lu := LDp_lt w0 q2
        have nA : ∀ e x, hg_at S.1 e = some x → (∀ fs, ¬ x = .inr (11, fs)) → (ta = .ref oA → ∀ i, i < 8 → e ≠ bA i) → e ≠ oA' ∧ ∀ i, i < 8 → e ≠ bA' i := fun e x hx' hne hbb => by
          have el := w0.lt hx'
          rcases hcs with ⟨-, -, -, c4⟩ | ⟨c1, -, -, XA, cA, c4⟩
          · exact c4 e el
          · refine ⟨at_ne hx' c4.1 (hne _), fun i hi => ?_⟩
            rcases hO.1 with z | ⟨z, ⟨XB, cB, a2⟩, -⟩
            · rw [z] at c1; cases c1
            · rw [c1] at z
              have e1 : oA' = oA := by injection z
              subst e1
              rw [ATv_b a2 c4 i hi]
              exact hbb c1 i hi
        have hv1 : hg_at S.1 sz = some (.inr (0, enL t nn f (.ref u) (.ref (u + 18)) (.ref (u + 30)) (.ref (u + 31)) st en rn ta tn 0 0)) := he
        have ft : hg_at S'.1 t = hg_at S.1 t := by
          obtain ⟨y1, y2⟩ := nA t _ v2 (fun fs z => by cases z) hO.2.2.2.1
          exact hb t (w0.lt v2) (fun z => ot z.symm) y1 y2 (fun zz => by
            have z1 : t < t0 ∨ u + 32 ≤ t := q5.2.1
            have z2 : t0 ≤ u := q5.1.2
            have z3 : u + 18 ≤ t ∧ t < u + 30 := zz
            rcases z1 with z1 | z1
            · exact Nat.lt_irrefl t (Nat.lt_of_lt_of_le z1 (Nat.le_trans z2 (Nat.le_trans (Nat.le_add_right u 18) z3.1)))
            · exact Nat.lt_irrefl t (Nat.lt_of_lt_of_le z3.2 (Nat.le_trans (Nat.add_le_add_left (by decide) u) z1)))
        have fN : tn = .ref oN → (hg_at S'.1 oN = hg_at S.1 oN ∧ ∀ i, i < 9 → hg_at S'.1 (bN i) = hg_at S.1 (bN i)) ∧ ∀ i j, i < 9 → j < 8 → bN i ≠ bA' j := fun z => by
          obtain ⟨l1, l2⟩ := q5.2.2.2 z
          rcases hO.2.1 with z' | ⟨-, ⟨XN, cN, a2⟩, -⟩
          · rw [z'] at z; cases z
          · obtain ⟨y1, y2⟩ := nA oN _ a2.1 (fun fs z => by cases z) (fun za i hi => by
              rcases hO.1 with z' | ⟨-, ⟨XB, cB, a3⟩, -⟩
              · rw [z'] at za; cases za
              · exact at_ne a2.1 (a3.2 i hi) (fun z => by cases z))
            refine ⟨⟨hb oN (w0.lt a2.1) (at_ne a2.1 hv1 (fun z => by cases z)) y1 y2 (by omega), fun i hi => ?_⟩, fun i j hi hj => ?_⟩
            · obtain ⟨y3, y4⟩ := nA (bN i) _ (a2.2 i hi) (fun fs z => by cases z) (fun za j hj => hO.2.2.1 za z i j hi hj)
              exact hb (bN i) (w0.lt (a2.2 i hi)) (at_ne (a2.2 i hi) hv1 (fun z => by cases z)) y3 y4 (by have := l2 i hi; omega)
            · exact (nA (bN i) _ (a2.2 i hi) (fun fs z => by cases z) (fun za j hj => hO.2.2.1 za z i j hi hj)).2 j hj
        refine ⟨t, N, g, nn, f, st, en, rn, 1, 0, .ref u, .ref (u + 18), .ref (u + 30), .ref (u + 31), .ref oA', tn, oA', oN, cap, bA', bN, hKr, ⟨⟨⟨⟨he', by rw [ft]; exact v2⟩, w', ot⟩, ⟨by rw [m1 2 (by decide)]; exact t1, by rw [m1 3 (by decide)]; exact t2, by rw [m2 1 (by decide)]; exact t3⟩, t4, t5⟩, by rw [es]; show sz < S.2.1 + kk; omega⟩, ⟨Or.inr ⟨rfl, ⟨_, _, hX.1.1⟩, hX.1.2⟩, ?_, fun _ z => (fN z).2, fun _ i hi => ?_, hO.2.2.2.2⟩, ?_, Or.inr ⟨u, t0, T, n, ps, sg, io, pa, R, c, X', cn', hf, sf, ⟨rfl, rfl, rfl, rfl⟩, ⟨hld, hle, by rw [m1 41 (by decide)]; exact q4⟩, ⟨q5.1, q5.2.1, fun _ => hl', q5.2.2.2⟩, Or.inr ⟨rfl, rfl, m85, xpO_f hx (fun i a b => m1 i (by omega)), q, cnt, ins', out, hX, ⟨by rw [m1 46 (by decide)]; exact n46, n31⟩, Or.inl ⟨rfl, by rw [m1 86 (by decide)]; exact x4, by rw [m1 106 (by decide)]; exact x6⟩⟩⟩⟩
        · rcases hO.2.1 with z | ⟨z, ⟨XN, cN, a2⟩, a3⟩
          · exact Or.inl z
          · exact Or.inr ⟨z, ⟨XN, cN, NTv_f a2 (fN z).1.1 (fN z).1.2⟩, a3⟩
        · exact (nA t _ v2 (fun fs z => by cases z) hO.2.2.2.1).2 i hi
        · obtain ⟨kA, kN, x, r1, r2, r3, r4⟩ := hR
          rcases hcs with ⟨c1, c2, c3, -⟩ | ⟨c1, c2, c3, -⟩
          · have k0 := r1.2 c1
            refine ⟨1, kN, x, ⟨Nat.le_refl _, fun z => by cases z⟩, r2, ?_, ?_⟩
            · rw [es, c2]; show _ ≤ S.2.2.1 - 10 + _ + _ + _ + _; omega
            · rw [es, c3]; show _ ≤ S.2.2.2 - (9781 + pa) + _ + _ + _ + _ + _; omega
          · refine ⟨kA, kN, x, ⟨r1.1, fun z => by cases z⟩, r2, ?_, ?_⟩
            · rw [es, c2]; show _ ≤ S.2.2.1 - 1 + _ + _ + _ + _; omega
            · rw [es, c3]; show _ ≤ S.2.2.2 - pa + _ + _ + _ + _ + _; omega
      · subst x1 x2
        obtain ⟨e, w⟩ := xd_explore he x5 w0 rfl q2 hx q4 x3 hr
        exact th_in hKs h hr e w
    · obtain ⟨e, w⟩ := xp_large he q2 q4 hx hr
      exact th_in hKs h hr (by rw [e]) (by rw [e]; exact w)
end XPS
