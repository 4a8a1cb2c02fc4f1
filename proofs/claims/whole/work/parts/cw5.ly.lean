/-! lay, between calls -/
section LYB
variable {Ks : md_S → Prop} {G : hg_E} {S S' : hg_S} {M r : md_S} {sz k : Nat}
theorem tbC_r (e88 : r.2.1 88 = M.2.1 88) (e92 : r.2.1 92 = M.2.1 92) (e93 : r.2.1 93 = M.2.1 93) {cnt ins out pa c : Nat} {v : Int64} (h : tbC M cnt ins out pa c v) : tbC r cnt ins out pa c v := by
  unfold tbC trT clC trK at h ⊢
  rw [e88, e92, e93]
  exact h
theorem wJ_ly {t N : Nat} {g : Nat → Int32} {nn f st en rn : Int32} {tn : Value} {oA oN cap : Nat} {bA bN : Nat → Nat} {la : Int32} {u t0 : Nat} {T : tT} {n ps sg io pa : Nat} {R : Nat → Nat → Int32} {c : Nat → Int32} {X : Nat → Nat → Int32} {cn hf sf : Nat → Int32} {q qn : rsT} {cnt ins out m oN' cap' : Nat} {b' : Nat → Nat}
    (hT : tpR G S M sz t N g nn f [.ref u, .ref (u + 18), .int st, .int en, .ref (u + 30), .ref (u + 31), .int rn, .ref oA, tn, .int 1, .int la]) (hsz : sz < S.2.1) (hO : jO G S t oA oN cap bA bN (.ref oA) tn) (q2 : LDp G S M u t0 T n ps sg io pa R c X cn hf sf) (q3 : LDe M pa st en rn) (q4 : M.1 41 = 1) (q5 : (sz < t0 ∧ t0 ≤ u) ∧ (t < t0 ∨ u + 32 ≤ t) ∧ ((Value.ref oA) = .ref oA → EXl t0 u oA bA) ∧ (tn = .ref oN → NTl t0 u oN bN)) (h85 : M.1 85 = 1) (hx : xpO M) (hX : EXa G S M oA bA q cnt pa ins) (h46 : M.1 46 = Int32.ofNat out ∧ out ≤ 31)
    (w' : hw S') (hl : S.2.1 ≤ S'.2.1) (hb : ∀ e, e < S.2.1 → e ≠ sz → (tn = .ref oN → e ≠ oN ∧ ∀ i, i < 9 → e ≠ bN i) → hg_at S'.1 e = hg_at S.1 e) (he' : hg_at S'.1 sz = some (.inr (0, enL t nn f (.ref u) (.ref (u + 18)) (.ref (u + 30)) (.ref (u + 31)) st en rn (.ref oA) (.ref oN') 1 1))) (hNL : NLa G S' r oN' b' cap' qn m (out + pa + 1)) (hLY : LYo M r cnt ins out pa m) (ho' : (tn = .ref oN ∧ oN' = oN) ∨ S.2.1 ≤ oN') (hb' : ∀ i, i < 9 → (tn = .ref oN ∧ b' i = bN i) ∨ S.2.1 ≤ b' i) (hR' : jR S' (k + 1) nn.toInt.toNat N oA oN' cap' (.ref oA) (.ref oN')) (hK : Ks r) (h14 : ∃ L, L ≤ k + 1 ∧ qn.2 14 = Int32.ofNat L) : wJ Ks G sz (k + 1) S' r := by
  obtain ⟨⟨⟨v1, v2⟩, w0, ot⟩, ⟨t1, t2, t3⟩, t4, t5⟩ := id hT
  obtain ⟨⟨m1, m2, m0⟩, ⟨m86, -⟩, -, -, -, hT'⟩ := id hLY
  have aA := hX.1.1
  have lu := LDp_lt w0 q2
  obtain ⟨⟨o1, o2⟩, tl, eA, eN⟩ := id q5
  have nN : ∀ e x, hg_at S.1 e = some x → (∀ fs, ¬ x = .inr (12, fs)) → (tn = .ref oN → ∀ i, i < 9 → e ≠ bN i) → tn = .ref oN → e ≠ oN ∧ ∀ i, i < 9 → e ≠ bN i := fun e x hx' hne hbb z => by
    rcases hO.2.1 with z' | ⟨-, ⟨XN, cN, a2⟩, -⟩
    · rw [z'] at z; cases z
    · exact ⟨at_ne hx' a2.1 (hne _), hbb z⟩
  have nB : ∀ e fs, hg_at S.1 e = some (.inr fs) → tn = .ref oN → ∀ i, i < 9 → e ≠ bN i := fun e fs hx' z i hi => by
    rcases hO.2.1 with z' | ⟨-, ⟨XN, cN, a2⟩, -⟩
    · rw [z'] at z; cases z
    · exact at_ne hx' (a2.2 i hi) (fun z => by cases z)
  have ft : hg_at S'.1 t = hg_at S.1 t := hb t (w0.lt v2) (fun z => ot z.symm) (nN t _ v2 (fun fs z => by cases z) hO.2.2.2.2)
  have fA : hg_at S'.1 oA = hg_at S.1 oA := hb oA (w0.lt aA.1) (at_ne aA.1 v1 (fun z => by cases z)) (nN oA _ aA.1 (fun fs z => by cases z) (nB oA _ aA.1))
  have fB : ∀ i, i < 8 → hg_at S'.1 (bA i) = hg_at S.1 (bA i) := fun i hi => hb _ (w0.lt (aA.2 i hi)) (at_ne (aA.2 i hi) v1 (fun z => by cases z)) (nN _ _ (aA.2 i hi) (fun fs z => by cases z) (fun z j hj => fun e => by
    rcases hO.1 with z' | ⟨-, ⟨XA, cA, a2⟩, -⟩
    · cases z'
    · exact hO.2.2.1 rfl z j i hj hi e.symm))
  have fP : ∀ b, t0 ≤ b → b < u + 32 → hg_at S'.1 b = hg_at S.1 b := fun b b1 b2 => hb b (by omega) (by omega) (fun z => by
    obtain ⟨l1, l2⟩ := eN z
    exact ⟨by omega, fun i hi => by have := l2 i hi; omega⟩)
  have X' : EXa G S' r oA bA q cnt pa ins := EXa_m (EXa_f hX fA fB) (m1 87 (by decide)) (m1 45 (by decide)) (m1 46 (by decide)) (fun i a b => m2 i (by omega))
  refine ⟨t, N, g, nn, f, st, en, rn, 1, 1, .ref u, .ref (u + 18), .ref (u + 30), .ref (u + 31), .ref oA, .ref oN', oA, oN', cap', bA, b', hK, ⟨⟨⟨⟨he', by rw [ft]; exact v2⟩, w', ot⟩, ⟨by rw [m1 2 (by decide)]; exact t1, by rw [m1 3 (by decide)]; exact t2, by rw [m2 1 (by decide)]; exact t3⟩, t4, t5⟩, by omega⟩, ⟨Or.inr ⟨rfl, ⟨_, _, X'.1.1⟩, hX.1.2⟩, Or.inr ⟨rfl, ⟨_, _, hNL.1.1⟩, hNL.1.2, hNL.2.1⟩, fun _ _ i j hi hj e => ?_, hO.2.2.2.1, fun _ i hi e => ?_⟩, hR', Or.inr ⟨u, t0, T, n, ps, sg, io, pa, R, c, X, cn, hf, sf, ⟨rfl, rfl, rfl, rfl⟩, ⟨LDp_f q2 fP o2 ⟨fun i a b => m1 i (by omega), fun i hi => m2 i (by omega)⟩ (m2 70 (by decide)) (m2 74 (by decide)) (m2 84 (by decide)), LDe_f q3 (fun i hi => m1 i (by omega)) (m2 74 (by decide)), by rw [m1 41 (by decide)]; exact q4⟩, ⟨q5.1, q5.2.1, eA, fun _ => ⟨?_, fun i hi => ?_⟩⟩, Or.inr ⟨rfl, rfl, by rw [m1 85 (by decide)]; exact h85, xpO_f hx (fun i a b => m1 i (by omega)), q, cnt, ins, out, X', by rw [m1 46 (by decide)]; exact h46, Or.inr ⟨rfl, rfl, m86, qn, m, hNL, LYo_n hLY, fun c hc => tbC_r (m2 88 (by decide)) (m2 92 (by decide)) (m2 93 (by decide)) (hT' c hc), h14⟩⟩⟩⟩
  · rcases hb' i hi with ⟨z, e'⟩ | z
    · exact hO.2.2.1 rfl z i j hi hj (by rw [← e']; exact e)
    · have := w0.lt (aA.2 j hj)
      omega
  · rcases hb' i hi with ⟨z, e'⟩ | z
    · exact hO.2.2.2.2 z i hi (by rw [← e']; exact e)
    · have := w0.lt v2
      omega
  · rcases ho' with ⟨z, e'⟩ | z
    · rw [e']; exact (eN z).1
    · right; omega
  · rcases hb' i hi with ⟨z, e'⟩ | z
    · rw [e']; exact (eN z).2 i hi
    · right; omega
theorem th_lay (hKs : ∀ M e, Ks M → Ks (md_i M 0 e)) (h : wJ Ks G sz k S M) (hk5 : k ≤ 512) (hs : ∀ r, mm_lay_0 M = some r → Ks r.1) (hs0 : M.1 85 = 0 → dc_wp (mm_lay_0 M) (fun _ => True)) : thO false (hm_SE_lay G S sz) (mm_lay_0 M) (wJ Ks G sz (k + 1)) := by
  have rm := wJ_r h hk5
  obtain ⟨t, N, g, nn, f, st, en, rn, ex, la, pg, rc, hd, sh, ta, tn, oA, oN, cap, bA, bN, hK, ⟨hT, hsz⟩, hO, hR, hP⟩ := id h
  have he : hg_at S.1 sz = some (.inr (0, enL t nn f pg rc hd sh st en rn ta tn ex la)) := hT.1.1.1
  have w0 := hT.1.2.1
  have un : ex = 0 → M.1 85 = 0 → thO false (hm_SE_lay G S sz) (mm_lay_0 M) (wJ Ks G sz (k + 1)) := fun e0 h85 => by
    subst e0
    obtain ⟨r, hr, -⟩ := hs0 h85
    obtain ⟨e, w⟩ := ux_lay_0 he h85 ⟨by omega, by omega⟩ hr
    exact th_ex (b := false) (fun z => by cases z) hKs h hk5 hr (by rw [e]; rfl) w
  rcases hP with ⟨q1, -, ⟨-, -, -, b4, -⟩, -⟩ | ⟨u, t0, T, n, ps, sg, io, pa, R, c, X, cn, hf, sf, ⟨a1, a2, a3, a4⟩, ⟨q2, q3, q4⟩, q5, q6⟩
  · exact un b4 q1.1.2.2.2.2.2.2.2.2.2.2.2.2.1
  · rcases q6 with ⟨x1, -, x3, -⟩ | ⟨x1, x2, x3, x4, q, cnt, ins, out, x5, x6, x7⟩
    · exact un x1 x3
    · subst a1 a2 a3 a4 x1 x2
      have e47 : M.1 47 = Int32.ofNat pa := q2.1.1.2.2.1.2.2.2.2.2.2.2.2.2
      have hH := tbH_x x5 x6.1 x6.2 e47
      obtain ⟨r, hr, -⟩ := lay_t hH x3
      rcases x7 with ⟨y1, y2, y3⟩ | ⟨y1, y2, y3, qn, m, y4, y5, y6, y7⟩
      · subst y1
        obtain ⟨⟨nm, hnm, hpv⟩, -, ⟨-, -, -, c1, c2, c3, -⟩, -⟩ := id q2.1.1
        have hn : (tn = .null ∧ 45 ≤ S.2.2.1 ∧ 334684 ≤ S.2.2.2) ∨ (ntH G S tn bA oN bN cap ∧ 35 ≤ S.2.2.1 ∧ 10 * (32768 - cap) ≤ S.2.2.2) := by
          rcases hO.2.1 with z | ⟨z, a2, a3, a4, a5⟩
          · exact Or.inl ⟨z, by omega, by omega⟩
          · exact Or.inr ⟨⟨z, a2, a3, a4, a5, hO.2.2.1 rfl z⟩, by omega, by omega⟩
        obtain ⟨m, em, hLY, hw⟩ := ntl_w (f9 := [.ref nm, .int (c 1), .int (c 2), .int (c 3), .int (c 4), .int (c 5), .ref (u + 1), .ref (pgA (u + 1) (fun _ => 0) 0), .ref (pgA (u + 1) (fun _ => 0) 1), .ref (pgA (u + 1) (fun _ => 0) 2), .ref (pgA (u + 1) (fun _ => 0) 3), .ref (pgA (u + 1) (fun _ => 0) 4), .ref (pgA (u + 1) (fun _ => 0) 5), .ref (pgA (u + 1) (fun _ => 0) 6), .ref (pgA (u + 1) (fun _ => 0) 7), .ref (pgA (u + 1) (fun _ => 0) 8), .ref (pgA (u + 1) (fun _ => 0) 9)]) w0 he x5 x3 x6.1 x6.2 e47 hpv.1 (by show some (Value.int (c 1)) = _; rw [c1, x5.2.2.1.2.1]) (by show some (Value.int (c 2)) = _; rw [c2, x6.1]) (by show some (Value.int (c 3)) = _; rw [c3, e47]) hn hr
        refine ⟨r, hr, wq_w hw ?_⟩
        rintro z ⟨S', oN', b', cap', qn, j, ez, w', hcs, he', hNL, z14⟩
        refine Or.inl ⟨S', ez, hLY.1.2.2, ?_⟩
        obtain ⟨kA, kN, x, r1, r2, r3, r4⟩ := hR
        have cap2 : cap' ≤ 32768 := hNL.2.1.2
        rcases hcs with ⟨z1, z2, z3, z4, z5, z6⟩ | ⟨z1, z2, z3, z4, z5, z6⟩
        · have j7 : j ≤ 7 := by
            rcases Nat.lt_or_ge j 8 with h | h
            · omega
            · have := Nat.pow_le_pow_right (show 0 < 2 by decide) h
              have e8 : (2 : Nat) ^ 8 = 256 := by decide
              omega
          refine wJ_ly hT hsz hO q2 q3 q4 q5 x3 x4 x5 x6 w' (by rw [z4]; show S.2.1 ≤ S.2.1 + 10 + 5 * j; omega) (fun e e1 e2 _ => z6 e e1 e2) he' hNL hLY (Or.inr (by rw [z2]; exact Nat.le_refl _)) (fun i hi => Or.inr (z5 i hi)) ?_ (hs r hr) ⟨0, by omega, z14⟩
          rcases r2 with ⟨-, r5, r6⟩ | ⟨r5, -⟩
          · subst r5 r6
            refine ⟨kA, 1, j, ⟨r1.1, fun z => by cases z⟩, Or.inr ⟨rfl, rfl, z3⟩, ?_, ?_⟩
            · rw [z4]; show _ ≤ S.2.2.1 - 10 - 5 * j + _ + _ + _ + _; omega
            · rw [z4, ← z3]; show _ ≤ S.2.2.2 - 9564 - 10 * (cap' - 256) + _ + _ + _ + _ + _; omega
          · rw [z1] at r5; cases r5
        · obtain ⟨zt, -⟩ := id z1
          rcases r2 with ⟨r5, -⟩ | ⟨-, r5, r6⟩
          · rw [zt] at r5; cases r5
          · have ecap : cap' = 256 * 2 ^ (x + j) := by rw [z3, r6, Nat.pow_add, Nat.mul_assoc]
            have xj : x + j ≤ 7 := by
              rcases Nat.lt_or_ge (x + j) 8 with h | h
              · omega
              · have := Nat.pow_le_pow_right (show 0 < 2 by decide) h
                have e8 : (2 : Nat) ^ 8 = 256 := by decide
                omega
            have cle : cap ≤ cap' := by rw [z3]; exact Nat.le_mul_of_pos_right _ (Nat.pow_pos (by decide))
            have c256 : 256 ≤ cap := by rw [r6]; exact Nat.le_mul_of_pos_right _ (Nat.pow_pos (by decide))
            refine wJ_ly hT hsz hO q2 q3 q4 q5 x3 x4 x5 x6 w' (by rw [z4]; show S.2.1 ≤ S.2.1 + 5 * j; omega) (fun e e1 e2 e3 => z6 e e1 e2 (e3 zt).1 (e3 zt).2) he' hNL hLY (Or.inl ⟨zt, z2⟩) (fun i hi => (z5 i hi).imp (fun e => ⟨zt, e⟩) id) ?_ (hs r hr) ⟨0, by omega, z14⟩
            refine ⟨kA, 1, x + j, ⟨r1.1, fun z => by cases z⟩, Or.inr ⟨rfl, rfl, ecap⟩, ?_, ?_⟩
            · rw [z4]; show _ ≤ S.2.2.1 - 5 * j + _ + _ + _ + _; omega
            · rw [z4, ← ecap]
              rw [← r6] at r4
              show _ ≤ S.2.2.2 - 10 * (cap' - cap) + _ + _ + _ + _ + _
              omega
      · subst y1 y2
        obtain ⟨em, hLY, hNL, w⟩ := ntl_2 he y4 y5 y6 hH x3 hr
        refine ⟨r, hr, wq_w w (fun z hz => Or.inl ⟨S, hz, hLY.1.2.2, ?_⟩)⟩
        obtain ⟨L, L1, L2⟩ := y7
        refine wJ_ly hT hsz hO q2 q3 q4 q5 x3 x4 x5 x6 w0 (Nat.le_refl _) (fun _ _ _ _ => rfl) he hNL hLY (Or.inl ⟨rfl, rfl⟩) (fun i hi => Or.inl ⟨rfl, rfl⟩) ?_ (hs r hr) ⟨L, by omega, L2⟩
        obtain ⟨kA, kN, x, r1, r2, r3, r4⟩ := hR
        exact ⟨kA, kN, x, r1, r2, by omega, by omega⟩
end LYB
