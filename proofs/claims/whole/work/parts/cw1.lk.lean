/-! calls that look at the explored program and its numbers -/
section LKT
variable {Ks : md_S → Prop} {G : hg_E} {S : hg_S} {M : md_S} {sz k : Nat} {p1 p2 : Int32}
/-- explored or not, with the program -/
theorem wJ_q (h : wJ Ks G sz k S M) {Q : Prop} (c0 : ∀ t nn f pg rc hd sh st en rn ta tn la, hg_at S.1 sz = some (.inr (0, enL t nn f pg rc hd sh st en rn ta tn 0 la)) → M.1 85 = 0 → Q) (c1 : ∀ t nn f st en rn tn la oA bA q cnt ins u t0 T n ps sg io pa R c X cn hf sf, hg_at S.1 sz = some (.inr (0, enL t nn f (.ref u) (.ref (u + 18)) (.ref (u + 30)) (.ref (u + 31)) st en rn (.ref oA) tn 1 la)) → EXa G S M oA bA q cnt pa ins → hw S → LDp G S M u t0 T n ps sg io pa R c X cn hf sf → LDe M pa st en rn → (sz < t0 ∧ t0 ≤ u) → M.1 41 = 1 → M.1 85 = 1 → xpO M → Q) : Q := by
  obtain ⟨t, N, g, nn, f, st, en, rn, ex, la, pg, rc, hd, sh, ta, tn, oA, oN, cap, bA, bN, -, ⟨hT, hsz⟩, hO, hR, hP⟩ := h
  have he : hg_at S.1 sz = some (.inr (0, enL t nn f pg rc hd sh st en rn ta tn ex la)) := hT.1.1.1
  rcases hP with ⟨p1, -, ⟨-, -, -, b4, -⟩, -⟩ | ⟨u, t0, T, n, ps, sg, io, pa, R, c, X, cn, hf, sf, ⟨a1, a2, a3, a4⟩, ⟨p2, p3, p4⟩, p5, p6⟩
  · subst b4
    exact c0 t nn f pg rc hd sh st en rn ta tn la he p1.1.2.2.2.2.2.2.2.2.2.2.2.2.1
  · rcases p6 with ⟨q1, q2, q3, q4, -⟩ | ⟨q1, q2, q3, q4, q, cnt, ins, out, q5, -⟩
    · subst q1
      exact c0 t nn f pg rc hd sh st en rn ta tn la he q3
    · subst q1 q2 a1 a2 a3 a4
      exact c1 t nn f st en rn tn la oA bA q cnt ins u t0 T n ps sg io pa R c X cn hf sf he q5 hT.1.2.1 p2 p3 p5.1 p4 q3 q4
theorem lk_together (h : wJ Ks G sz k S M) (hs : dc_wp (mm_together M p1 p2) (fun _ => True)) : lkO (hm_SE_together G S sz p1 p2) (mm_together M p1 p2) M := lk_of hs (fun r hr => wJ_q h (fun _ _ _ _ _ _ _ _ _ _ _ _ _ he h85 => ux_together he h85 hr) (fun _ _ _ _ _ _ _ _ _ _ _ _ _ _ _ _ _ _ _ _ _ _ _ _ _ _ _ he hX h0 hl _ _ _ h85 _ => xd_together he hX h0 hl h85 hr))
theorem lk_ever (h : wJ Ks G sz k S M) (hs : dc_wp (mm_ever M p1) (fun _ => True)) : lkO (hm_SE_ever G S sz p1) (mm_ever M p1) M := lk_of hs (fun r hr => wJ_q h (fun _ _ _ _ _ _ _ _ _ _ _ _ _ he h85 => ux_ever he h85 hr) (fun _ _ _ _ _ _ _ _ _ _ _ _ _ _ _ _ _ _ _ _ _ _ _ _ _ _ _ he hX h0 hl _ _ _ h85 _ => xd_ever he hX h0 hl h85 hr))
theorem lk_path (h : wJ Ks G sz k S M) (hs : M.1 85 = 0 → dc_wp (mm_path M p1 p2) (fun _ => True)) : lkO (hm_SE_path G S sz p1 p2) (mm_path M p1 p2) M := wJ_d h (fun _ _ _ _ _ _ _ _ _ _ _ _ _ he h85 => lk_of (hs h85) (fun r hr => ux_path he h85 hr)) (fun _ _ _ _ _ _ _ _ _ _ _ _ _ _ _ _ _ _ he hX h0 h85 => by
  obtain ⟨r, hr, h1, h2⟩ := xd_path (p1 := p1) (p2 := p2) he hX h0 h85
  exact ⟨r, hr, h1, h2⟩)
theorem lk_count (h : wJ Ks G sz k S M) (hs : dc_wp (mm_count M p1) (fun _ => True)) : lkO (hm_SE_count G S sz p1) (mm_count M p1) M := by
  refine lk_of hs (fun r hr => wJ_c h (fun _ _ _ _ _ he hz e2 => np_count he hz e2 hr) (fun t nn f st en rn ta tn ex la u t0 T n ps sg io pa R c X cn hf sf he hl hle h41 e2 ho hx hx2 => ?_))
  by_cases c : p1.toInt ≤ 12 ∨ 15 < p1.toInt
  · exact cnt_l he hl hle h41 e2 (by omega) hr
  · have cs : p1 = 13 ∨ p1 = 14 ∨ p1 = 15 := by
      have t13 : (13 : Int32).toInt = 13 := by decide
      have t14 : (14 : Int32).toInt = 14 := by decide
      have t15 : (15 : Int32).toInt = 15 := by decide
      have : p1.toInt = 13 ∨ p1.toInt = 14 ∨ p1.toInt = 15 := by omega
      rcases this with z | z | z
      · exact Or.inl (Int32.toInt_inj.mp (by omega))
      · exact Or.inr (Or.inl (Int32.toInt_inj.mp (by omega)))
      · exact Or.inr (Or.inr (Int32.toInt_inj.mp (by omega)))
    rcases hx2 with z | z
    · obtain ⟨z1, z2, z3⟩ := hx z
      exact cnt_l he hl hle h41 e2 (Or.inr (Or.inr ⟨z, z2, z1, z3⟩)) hr
    · rcases cs with e | e | e
      · subst e
        refine wJ_q h (fun _ _ _ _ _ _ _ _ _ _ _ _ _ he' _ => ?_) (fun _ _ _ _ _ _ _ _ _ _ _ _ _ _ _ _ _ _ _ _ _ _ _ _ _ _ _ he' hX _ _ _ _ _ h85 _ => ct_13 he' hX h85 hr)
        have := Option.some.inj (he.symm.trans he')
        simp only [enL, Sum.inr.injEq, Prod.mk.injEq, List.cons.injEq, Value.int.injEq] at this
        have z0 : ex = 0 := by simp_all
        rw [z0] at z; exact absurd z (by decide)
      · subst e
        refine wJ_q h (fun _ _ _ _ _ _ _ _ _ _ _ _ _ he' _ => ?_) (fun _ _ _ _ _ _ _ _ _ _ _ _ _ _ _ _ _ _ _ _ _ _ _ _ _ _ _ he' hX _ _ _ _ _ h85 _ => ct_14 he' hX h85 hr)
        have := Option.some.inj (he.symm.trans he')
        simp only [enL, Sum.inr.injEq, Prod.mk.injEq, List.cons.injEq, Value.int.injEq] at this
        have z0 : ex = 0 := by simp_all
        rw [z0] at z; exact absurd z (by decide)
      · subst e
        refine wJ_n h (fun t' nn' f' pg' rc' hd' sh' st' en' rn' ta' tn' ex' he' h86 => ?_) (fun _ _ _ _ _ _ _ _ _ _ _ _ _ _ _ _ _ _ _ _ _ _ _ he' _ hN hL _ h86 _ _ _ => ct_15l he' hN hL h86 hr)
        have := Option.some.inj (he.symm.trans he')
        simp only [enL, Sum.inr.injEq, Prod.mk.injEq, List.cons.injEq, Value.int.injEq] at this
        have z0 : la = 0 := by simp_all
        rw [z0] at he
        exact ct_15 he h86 hr
end LKT
