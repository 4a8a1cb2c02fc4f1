/-! restart, instant and go, between calls -/
section RNS
variable {Ks : md_S → Prop} {G : hg_E} {S S' : hg_S} {M M' : md_S} {sz k : Nat} {p1 p2 : Int32}
theorem wJ_in {t N : Nat} {g : Nat → Int32} {nn f st en rn ex la : Int32} {ta tn : Value} {oA oN cap : Nat} {bA bN : Nat → Nat} {u t0 : Nat} {T : tT} {n ps sg io pa : Nat} {R : Nat → Nat → Int32} {c : Nat → Int32} (hT : tpR G S M sz t N g nn f [.ref u, .ref (u + 18), .int st, .int en, .ref (u + 30), .ref (u + 31), .int rn, ta, tn, .int ex, .int la]) (hsz : sz < S.2.1) (hO : jO G S t oA oN cap bA bN ta tn) (hR : jR S k nn.toInt.toNat N oA oN cap ta tn) (p4 : M.1 41 = 1) (p5 : (sz < t0 ∧ t0 ≤ u) ∧ (t < t0 ∨ u + 32 ≤ t) ∧ (ta = .ref oA → EXl t0 u oA bA) ∧ (tn = .ref oN → NTl t0 u oN bN)) (p6 : jX G S M k pa oA oN cap bA bN ta tn ex la) (hin : inL G S S' M M' u t0 sz t T n ps sg io pa R c nn f ta tn ex la) (hK : Ks M') (ht : M'.2.2.2 = M.2.2.2) : wJ Ks G sz (k + 1) S' M' := by
  obtain ⟨⟨w', s'⟩, hb, ⟨m1, m2⟩, m0, X', cn', hf', sf', st', en', rn', he', hl', hle'⟩ := hin
  obtain ⟨⟨⟨v1, v2⟩, w0, ot⟩, ⟨t1, t2, t3⟩, t4, t5⟩ := id hT
  obtain ⟨⟨o1, o2⟩, tl, eA, eN⟩ := id p5
  have hsu : hg_at S.1 sz = some (.inr (0, .ref t :: .int nn :: .int f :: [.ref u, .ref (u + 18), .int st, .int en, .ref (u + 30), .ref (u + 31), .int rn, ta, tn, .int ex, .int la])) := v1
  have fA : ta = .ref oA → hg_at S'.1 oA = hg_at S.1 oA ∧ ∀ i, i < 8 → hg_at S'.1 (bA i) = hg_at S.1 (bA i) := fun z => by
    obtain ⟨l1, l2⟩ := eA z
    rcases hO.1 with z' | ⟨-, ⟨XA, cA, a2⟩, -⟩
    · rw [z'] at z; cases z
    · refine ⟨hb _ (at_ne a2.1 hsu (fun z => by cases z)) (by omega), fun i hi => hb _ (at_ne (a2.2 i hi) hsu (fun z => by cases z)) ?_⟩
      have := l2 i hi
      omega
  have fN : tn = .ref oN → hg_at S'.1 oN = hg_at S.1 oN ∧ ∀ i, i < 9 → hg_at S'.1 (bN i) = hg_at S.1 (bN i) := fun z => by
    obtain ⟨l1, l2⟩ := eN z
    rcases hO.2.1 with z' | ⟨-, ⟨XN, cN, a2⟩, -⟩
    · rw [z'] at z; cases z
    · refine ⟨hb _ (at_ne a2.1 hsu (fun z => by cases z)) (by omega), fun i hi => hb _ (at_ne (a2.2 i hi) hsu (fun z => by cases z)) ?_⟩
      have := l2 i hi
      omega
  have jm : jM M M' := ⟨fun i hi => m1 i (by omega), fun i hi => m2 i (by omega), ht⟩
  refine ⟨t, N, g, nn, f, st', en', rn', ex, la, .ref u, .ref (u + 18), .ref (u + 30), .ref (u + 31), ta, tn, oA, oN, cap, bA, bN, hK, ⟨⟨⟨⟨he', by rw [hb t (fun z => ot z.symm) (by omega)]; exact v2⟩, w', ot⟩, ⟨by rw [m1 2 (by decide)]; exact t1, by rw [m1 3 (by decide)]; exact t2, by rw [m2 1 (by decide)]; exact t3⟩, t4, t5⟩, by rw [s']; exact hsz⟩, jO_f hO fA fN, ?_, Or.inr ⟨u, t0, T, n, ps, sg, io, pa, R, c, X', cn', hf', sf', ⟨rfl, rfl, rfl, rfl⟩, ⟨hl', hle', by rw [m1 41 (by decide)]; exact p4⟩, p5, jX_f p6 (by omega) fA fN jm⟩⟩
  obtain ⟨kA, kN, x, r1, r2, r3, r4⟩ := hR
  exact ⟨kA, kN, x, r1, r2, by rw [s']; omega, by rw [s']; omega⟩
theorem th_restart (hKs : ∀ M e, Ks M → Ks (md_i M 0 e)) (h : wJ Ks G sz k S M) (hk5 : k ≤ 512) (hs : dc_wp (mm_restart M) (fun r => Ks r.1)) : thO false (hm_SE_restart G S sz) (mm_restart M) (wJ Ks G sz (k + 1)) := by
  obtain ⟨r, hr, hKr⟩ := hs
  have rm := wJ_r h hk5
  obtain ⟨t, N, g, nn, f, st, en, rn, ex, la, pg, rc, hd, sh, ta, tn, oA, oN, cap, bA, bN, hK, ⟨hT, hsz⟩, hO, hR, hP⟩ := id h
  have he : hg_at S.1 sz = some (.inr (0, enL t nn f pg rc hd sh st en rn ta tn ex la)) := hT.1.1.1
  have w0 := hT.1.2.1
  rcases hP with ⟨q1, ⟨a1, a2, a3, a4⟩, -⟩ | ⟨u, t0, T, n, ps, sg, io, pa, R, c, X, cn, hf, sf, ⟨a1, a2, a3, a4⟩, ⟨q2, q3, q4⟩, q5, q6⟩
  · subst a1 a2 a3 a4
    obtain ⟨e, w⟩ := np_restart he q1 ⟨by omega, by omega⟩ hr
    exact th_ex (b := false) (fun z => by cases z) hKs h hk5 hr (by rw [e]; rfl) w
  · subst a1 a2 a3 a4
    refine ⟨r, hr, wq_w (rst_l w0 he q2 q3 q4 q5.1 hr) ?_⟩
    rintro z ⟨S', ez, hin⟩
    exact Or.inl ⟨S', ez, hin.2.2.2.1, wJ_in hT hsz hO hR q4 q5 q6 hin hKr ((mm_restart_fr M r hr).2.2.2 rfl)⟩
theorem th_instant (hKs : ∀ M e, Ks M → Ks (md_i M 0 e)) (h : wJ Ks G sz k S M) (hk5 : k ≤ 512) (hs : dc_wp (mm_instant M p1) (fun r => Ks r.1)) : thO true (hm_SE_instant G S sz p1) (mm_instant M p1) (wJ Ks G sz (k + 1)) := by
  obtain ⟨r, hr, hKr⟩ := hs
  have rm := wJ_r h hk5
  obtain ⟨t, N, g, nn, f, st, en, rn, ex, la, pg, rc, hd, sh, ta, tn, oA, oN, cap, bA, bN, hK, ⟨hT, hsz⟩, hO, hR, hP⟩ := id h
  have he : hg_at S.1 sz = some (.inr (0, enL t nn f pg rc hd sh st en rn ta tn ex la)) := hT.1.1.1
  have w0 := hT.1.2.1
  rcases hP with ⟨q1, ⟨a1, a2, a3, a4⟩, -⟩ | ⟨u, t0, T, n, ps, sg, io, pa, R, c, X, cn, hf, sf, ⟨a1, a2, a3, a4⟩, ⟨q2, q3, q4⟩, q5, q6⟩
  · subst a1 a2 a3 a4
    obtain ⟨e, w⟩ := np_instant he q1 ⟨by omega, by omega⟩ hr
    exact th_ex (b := false) (fun z => by cases z) hKs h hk5 hr (by rw [e]; rfl) w
  · subst a1 a2 a3 a4
    refine ⟨r, hr, wq_w (ins_l w0 he q2 q3 q5.1 ⟨by omega, by omega⟩ hr) ?_⟩
    rintro z (⟨S', ez, hin⟩ | ⟨b, ez, hb⟩)
    · exact Or.inl ⟨S', ez, hin.2.2.2.1, wJ_in hT hsz hO hR q4 q5 q6 hin hKr ((mm_instant_fr M p1 r hr).2.2.2 rfl)⟩
    · refine Or.inr ⟨_, _, b, fun _ => rfl, ez, ?_, ?_⟩
      · rcases hb with ⟨eb, er⟩ | ⟨eb, er⟩
        · rw [er, eb]; rfl
        · rw [er, eb]; rfl
      · rcases hb with ⟨eb, er⟩ | ⟨eb, er⟩
        · rw [er]; exact wJ_x (fun e => hKs M e hK) h (by omega) (by omega) 1
        · rw [er]; exact wJ_x (fun e => hKs M e hK) h (by omega) (by omega) 2
/-- go: no answer -/
theorem th_go (hKs : ∀ M e, Ks M → Ks (md_i M 0 e)) (h : wJ Ks G sz k S M) (hk5 : k ≤ 512) (hs : dc_wp (mm_go M p1) (fun r => Ks r)) : ∃ r, mm_go M p1 = some r ∧ dc_wp (hm_SE_go G S sz p1) (fun z => (∃ S', z = .inl S' ∧ r.1 0 = 0 ∧ wJ Ks G sz (k + 1) S' r) ∨ ∃ S' a b, z = .inr (S', a, b) ∧ r.1 0 = (if b = true then 2 else 1) ∧ wJ Ks G sz (k + 1) S' r) := by
  obtain ⟨r, hr, hKr⟩ := hs
  have rm := wJ_r h hk5
  obtain ⟨t, N, g, nn, f, st, en, rn, ex, la, pg, rc, hd, sh, ta, tn, oA, oN, cap, bA, bN, hK, ⟨hT, hsz⟩, hO, hR, hP⟩ := id h
  have he : hg_at S.1 sz = some (.inr (0, enL t nn f pg rc hd sh st en rn ta tn ex la)) := hT.1.1.1
  have w0 := hT.1.2.1
  have un : ex = 0 → M.1 85 = 0 → ∃ r, mm_go M p1 = some r ∧ dc_wp (hm_SE_go G S sz p1) (fun z => (∃ S', z = .inl S' ∧ r.1 0 = 0 ∧ wJ Ks G sz (k + 1) S' r) ∨ ∃ S' a b, z = .inr (S', a, b) ∧ r.1 0 = (if b = true then 2 else 1) ∧ wJ Ks G sz (k + 1) S' r) := fun e0 h85 => by
    subst e0
    obtain ⟨e, w⟩ := ux_go he h85 ⟨by omega, by omega⟩ hr
    refine ⟨r, hr, wq_w w (fun z hz => Or.inr ⟨_, _, false, hz, by rw [e]; rfl, ?_⟩)⟩
    rw [e]
    exact wJ_x (fun e => hKs M e hK) h (by omega) (by omega) 1
  rcases hP with ⟨q1, -, ⟨-, -, -, b4, -⟩, -⟩ | ⟨u, t0, T, n, ps, sg, io, pa, R, c, X, cn, hf, sf, ⟨a1, a2, a3, a4⟩, ⟨q2, q3, q4⟩, q5, q6⟩
  · exact un b4 q1.1.2.2.2.2.2.2.2.2.2.2.2.2.1
  · rcases id q6 with ⟨x1, -, x3, -⟩ | ⟨x1, x2, x3, -, q, cnt, ins, out, x5, -⟩
    · exact un x1 x3
    · subst a1 a2 a3 a4 x1 x2
      refine ⟨r, hr, wq_w (xd_go he x5 w0 q2 q5.1 x3 ⟨by omega, by omega⟩ hr) ?_⟩
      rintro z (⟨S', ez, hin⟩ | ⟨ez, er⟩)
      · exact Or.inl ⟨S', ez, hin.2.2.2.1, wJ_in hT hsz hO hR q4 q5 q6 hin hKr ((mm_go_fr M p1 r hr).2.2.2 rfl)⟩
      · refine Or.inr ⟨_, _, true, ez, by rw [er]; rfl, ?_⟩
        rw [er]
        exact wJ_x (fun e => hKs M e hK) h (by omega) (by omega) 2
end RNS
