/-! size, between calls -/
section SZB
variable {Ks : md_S → Prop} {G : hg_E} {S : hg_S} {M : md_S} {sz k : Nat} {p1 : Int32}
theorem th_size (hKs : ∀ M e, Ks M → Ks (md_i M 0 e)) (h : wJ Ks G sz k S M) (hk5 : k ≤ 512) (hs : dc_wp (mm_size M p1) (fun r => Ks r.1)) : ∃ r, mm_size M p1 = some r ∧ dc_wp (hm_SE_size G S sz p1) (fun z => z.2 = r.2 ∧ wJ Ks G sz (k + 1) z.1 r.1) := by
  obtain ⟨r, hr, hKr⟩ := hs
  obtain ⟨t, N, g, nn, f, st, en, rn, ex, la, pg, rc, hd, sh, ta, tn, oA, oN, cap, bA, bN, hK, ⟨hT, hsz⟩, hO, hR, hP⟩ := id h
  have he : hg_at S.1 sz = some (.inr (0, enL t nn f pg rc hd sh st en rn ta tn ex la)) := hT.1.1.1
  obtain ⟨⟨⟨v1, v2⟩, w0, ot⟩, ⟨t1, t2, t3⟩, t4, t5⟩ := id hT
  have un : la = 0 → M.1 86 = 0 → ∃ r, mm_size M p1 = some r ∧ dc_wp (hm_SE_size G S sz p1) (fun z => z.2 = r.2 ∧ wJ Ks G sz (k + 1) z.1 r.1) := fun e0 h86 => by
    subst e0
    obtain ⟨e, w⟩ := ul_size he h86 hr
    refine ⟨r, hr, wq_w w (fun z hz => ?_)⟩
    rw [hz, e]
    exact ⟨rfl, wJ_l (fun e => hKs M e hK) h 0⟩
  rcases hP with ⟨q1, -, ⟨-, -, -, -, b5⟩, -⟩ | ⟨u, t0, T, n, ps, sg, io, pa, R, c, X, cn, hf, sf, ⟨a1, a2, a3, a4⟩, ⟨q2, q3, q4⟩, q5, q6⟩
  · exact un b5 q1.1.2.2.2.2.2.2.2.2.2.2.2.2.2.1
  · rcases q6 with ⟨x1, x2, x3, x4, -⟩ | ⟨x1, x2, x3, x4, q, cnt, ins, out, x5, x6, x7⟩
    · exact un x2 x4
    · rcases x7 with ⟨y1, y2, y3⟩ | ⟨y1, y2, y3, qn, m, y4, y5, y6, L, L1, L2⟩
      · exact un y1 y2
      · subst a1 a2 a3 a4 x1 x2 y1 y2
        have e47 : M.1 47 = Int32.ofNat pa := q2.1.1.2.2.1.2.2.2.2.2.2.2.2.2
        have fr := mm_size_fr M p1 r hr
        have m2 : ∀ i, ¬ i = 105 → r.1.2.1 i = M.2.1 i := fun i hi => fr.2.1 i (by simp [hi])
        have m1 : ∀ i, ¬ i = 0 → r.1.1 i = M.1 i := fun i hi => fr.1 i (by simp [hi])
        have m3 : r.1.2.2.2 = M.2.2.2 := fr.2.2.2 rfl
        obtain ⟨hwz, hLr⟩ := xl_size he w0 y4 y5 y3 x6.1 e47 L2 (by omega) hr
        refine ⟨r, hr, wq_w hwz ?_⟩
        rintro ⟨S', v⟩ ⟨ev, w', s', hb, qn', hNL, h14⟩
        refine ⟨ev, ?_⟩
        have w' : hw S' := w'
        have s' : S'.2 = S.2 := s'
        have hb : ∀ e, e < S.2.1 → e ≠ oN → (∀ i, i < 9 → e ≠ bN i) → hg_at S'.1 e = hg_at S.1 e := hb
        have hNL : NLa G S' r.1 oN bN cap qn' m (out + pa + 1) := hNL
        show wJ Ks G sz (k + 1) S' r.1
        have aA := x5.1.1
        have aN := y4.1.1
        have lu := LDp_lt w0 q2
        obtain ⟨l1, l2⟩ := q5.2.2.2 rfl
        have fo : hg_at S'.1 sz = hg_at S.1 sz := hb sz (w0.lt v1) (at_ne v1 aN.1 (fun z => by cases z)) (fun i hi => at_ne v1 (aN.2 i hi) (fun z => by cases z))
        have ft : hg_at S'.1 t = hg_at S.1 t := hb t (w0.lt v2) (at_ne v2 aN.1 (fun z => by cases z)) (hO.2.2.2.2 rfl)
        have fA : hg_at S'.1 oA = hg_at S.1 oA := hb oA (w0.lt aA.1) (at_ne aA.1 aN.1 (fun z => by cases z)) (fun i hi => at_ne aA.1 (aN.2 i hi) (fun z => by cases z))
        have fB : ∀ i, i < 8 → hg_at S'.1 (bA i) = hg_at S.1 (bA i) := fun i hi => hb _ (w0.lt (aA.2 i hi)) (at_ne (aA.2 i hi) aN.1 (fun z => by cases z)) (fun j hj e => hO.2.2.1 rfl rfl j i hj hi e.symm)
        have fP : ∀ b, t0 ≤ b → b < u + 32 → hg_at S'.1 b = hg_at S.1 b := fun b b1 b2 => hb b (by omega) (by omega) (fun i hi => by have := l2 i hi; omega)
        have jm : jM M r.1 := ⟨fun i hi => m1 i (by omega), fun i hi => m2 i (by omega), m3⟩
        have X' : EXa G S' r.1 oA bA q cnt pa ins := EXa_m (EXa_f x5 fA fB) (m1 87 (by decide)) (m1 45 (by decide)) (m1 46 (by decide)) (fun i a b => m2 i (by omega))
        refine ⟨t, N, g, nn, f, st, en, rn, 1, 1, .ref u, .ref (u + 18), .ref (u + 30), .ref (u + 31), .ref oA, .ref oN, oA, oN, cap, bA, bN, hKr, ⟨⟨⟨⟨by rw [fo]; exact v1, by rw [ft]; exact v2⟩, w', ot⟩, ⟨by rw [m1 2 (by decide)]; exact t1, by rw [m1 3 (by decide)]; exact t2, by rw [m2 1 (by decide)]; exact t3⟩, t4, t5⟩, by rw [s']; exact hsz⟩, ⟨Or.inr ⟨rfl, ⟨_, _, X'.1.1⟩, x5.1.2⟩, Or.inr ⟨rfl, ⟨_, _, hNL.1.1⟩, hNL.1.2, hNL.2.1⟩, hO.2.2⟩, ?_, Or.inr ⟨u, t0, T, n, ps, sg, io, pa, R, c, X, cn, hf, sf, ⟨rfl, rfl, rfl, rfl⟩, ⟨LDp_f q2 fP q5.1.2 ⟨fun i a b => m1 i (by omega), fun i hi => m2 i (by omega)⟩ (m2 70 (by decide)) (m2 74 (by decide)) (m2 84 (by decide)), LDe_f q3 (fun i hi => m1 i (by omega)) (m2 74 (by decide)), by rw [m1 41 (by decide)]; exact q4⟩, q5, Or.inr ⟨rfl, rfl, by rw [m1 85 (by decide)]; exact x3, xpO_f x4 (fun i a b => m1 i (by omega)), q, cnt, ins, out, X', by rw [m1 46 (by decide)]; exact x6, Or.inr ⟨rfl, rfl, by rw [m1 86 (by decide)]; exact y3, qn', m, hNL, hLr, fun c hc => by rw [m3]; exact tbC_f jm (y6 c hc), ?_⟩⟩⟩⟩
        · obtain ⟨kA, kN, x, r1, r2, r3, r4⟩ := hR
          exact ⟨kA, kN, x, r1, r2, by rw [s']; omega, by rw [s']; omega⟩
        · rcases h14 with z | z
          · exact ⟨L, by omega, z⟩
          · exact ⟨L + 1, by omega, z⟩
end SZB
