/-! the calls that only look, between calls -/
/-- both answer alike, nothing is written -/
def lkO (A : Option Int32) (B : Option (md_S × Int32)) (M : md_S) : Prop := ∃ r, B = some r ∧ r.1 = md_i M 0 0 ∧ dc_wp A (fun v => v = r.2)
section LKS
variable {Ks : md_S → Prop} {G : hg_E} {S : hg_S} {M : md_S} {sz k : Nat} {p1 p2 : Int32}
theorem lk_of {A : Option Int32} {B : Option (md_S × Int32)} (hs : dc_wp B (fun _ => True)) (f : ∀ r, B = some r → r.1 = md_i M 0 0 ∧ dc_wp A (fun v => v = r.2)) : lkO A B M := by
  obtain ⟨r, hr, -⟩ := hs
  exact ⟨r, hr, (f r hr).1, (f r hr).2⟩
/-- with a program or without -/
theorem wJ_c (h : wJ Ks G sz k S M) {Q : Prop} (c0 : ∀ t nn f ta tn, hg_at S.1 sz = some (.inr (0, enL t nn f .null .null .null .null 0 0 0 ta tn 0 0)) → zI M → nn = M.1 2 → Q) (c1 : ∀ t nn f st en rn ta tn ex la u t0 T n ps sg io pa R c X cn hf sf, hg_at S.1 sz = some (.inr (0, enL t nn f (.ref u) (.ref (u + 18)) (.ref (u + 30)) (.ref (u + 31)) st en rn ta tn ex la)) → LDp G S M u t0 T n ps sg io pa R c X cn hf sf → LDe M pa st en rn → M.1 41 = 1 → nn = M.1 2 → (sz < t0 ∧ t0 ≤ u) → (ex = 0 → la = 0 ∧ M.1 85 = 0 ∧ M.1 86 = 0) → (ex = 0 ∨ ex = 1) → Q) : Q := by
  obtain ⟨t, N, g, nn, f, st, en, rn, ex, la, pg, rc, hd, sh, ta, tn, oA, oN, cap, bA, bN, -, ⟨hT, hsz⟩, hO, hR, hP⟩ := h
  have he : hg_at S.1 sz = some (.inr (0, enL t nn f pg rc hd sh st en rn ta tn ex la)) := hT.1.1.1
  have e2 := hT.2.1.1
  rcases hP with ⟨p1, ⟨a1, a2, a3, a4⟩, ⟨b1, b2, b3, b4, b5⟩, -⟩ | ⟨u, t0, T, n, ps, sg, io, pa, R, c, X, cn, hf, sf, ⟨a1, a2, a3, a4⟩, ⟨p2, p3, p4⟩, p5, p6⟩
  · subst a1 a2 a3 a4 b1 b2 b3 b4 b5
    exact c0 t nn f ta tn he p1 e2
  · subst a1 a2 a3 a4
    refine c1 t nn f st en rn ta tn ex la u t0 T n ps sg io pa R c X cn hf sf he p2 p3 p4 e2 p5.1 (fun z => ?_) ?_
    · rcases p6 with ⟨-, q2, q3, q4, -⟩ | ⟨q1, -⟩
      · exact ⟨q2, q3, q4⟩
      · rw [z] at q1; exact absurd q1 (by decide)
    · rcases p6 with ⟨q1, -⟩ | ⟨q1, -⟩
      · exact Or.inl q1
      · exact Or.inr q1
/-- explored or not -/
theorem wJ_d (h : wJ Ks G sz k S M) {Q : Prop} (c0 : ∀ t nn f pg rc hd sh st en rn ta tn la, hg_at S.1 sz = some (.inr (0, enL t nn f pg rc hd sh st en rn ta tn 0 la)) → M.1 85 = 0 → Q) (c1 : ∀ t nn f pg rc hd sh st en rn tn la oA bA q cnt pa ins, hg_at S.1 sz = some (.inr (0, enL t nn f pg rc hd sh st en rn (.ref oA) tn 1 la)) → EXa G S M oA bA q cnt pa ins → hw S → M.1 85 = 1 → Q) : Q := by
  obtain ⟨t, N, g, nn, f, st, en, rn, ex, la, pg, rc, hd, sh, ta, tn, oA, oN, cap, bA, bN, -, ⟨hT, hsz⟩, hO, hR, hP⟩ := h
  have he : hg_at S.1 sz = some (.inr (0, enL t nn f pg rc hd sh st en rn ta tn ex la)) := hT.1.1.1
  rcases hP with ⟨p1, -, ⟨-, -, -, b4, -⟩, -⟩ | ⟨u, t0, T, n, ps, sg, io, pa, R, c, X, cn, hf, sf, -, -, -, p6⟩
  · subst b4
    exact c0 t nn f pg rc hd sh st en rn ta tn la he p1.1.2.2.2.2.2.2.2.2.2.2.2.2.1
  · rcases p6 with ⟨q1, q2, q3, q4, -⟩ | ⟨q1, q2, q3, q4, q, cnt, ins, out, q5, -⟩
    · subst q1
      exact c0 t nn f pg rc hd sh st en rn ta tn la he q3
    · subst q1 q2
      exact c1 t nn f pg rc hd sh st en rn tn la oA bA q cnt pa ins he q5 hT.1.2.1 q3
/-- laid or not -/
theorem wJ_n (h : wJ Ks G sz k S M) {Q : Prop} (c0 : ∀ t nn f pg rc hd sh st en rn ta tn ex, hg_at S.1 sz = some (.inr (0, enL t nn f pg rc hd sh st en rn ta tn ex 0)) → M.1 86 = 0 → Q) (c1 : ∀ t nn f u rc hd sh st en rn tn oA oN bA bN q cnt pa ins out cap qn m, hg_at S.1 sz = some (.inr (0, enL t nn f (.ref u) rc hd sh st en rn tn (.ref oN) 1 1)) → EXa G S M oA bA q cnt pa ins → NLa G S M oN bN cap qn m (out + pa + 1) → LYn M m (out + pa + 1) → (∀ c, c < 8192 → tbC M cnt ins out pa c (M.2.2.2 c)) → M.1 86 = 1 → M.1 46 = Int32.ofNat out → out ≤ 31 → M.1 47 = Int32.ofNat pa → Q) : Q := by
  obtain ⟨t, N, g, nn, f, st, en, rn, ex, la, pg, rc, hd, sh, ta, tn, oA, oN, cap, bA, bN, -, ⟨hT, hsz⟩, hO, hR, hP⟩ := h
  have he : hg_at S.1 sz = some (.inr (0, enL t nn f pg rc hd sh st en rn ta tn ex la)) := hT.1.1.1
  rcases hP with ⟨p1, -, ⟨-, -, -, -, b5⟩, -⟩ | ⟨u, t0, T, n, ps, sg, io, pa, R, c, X, cn, hf, sf, ⟨a1, -⟩, ⟨p2, -⟩, -, p6⟩
  · subst b5
    exact c0 t nn f pg rc hd sh st en rn ta tn ex he p1.1.2.2.2.2.2.2.2.2.2.2.2.2.2.1
  · have e47 : M.1 47 = Int32.ofNat pa := p2.1.1.2.2.1.2.2.2.2.2.2.2.2.2
    rcases p6 with ⟨q1, q2, q3, q4, -⟩ | ⟨q1, q2, q3, q4, q, cnt, ins, out, q5, q6, q7⟩
    · subst q2
      exact c0 t nn f pg rc hd sh st en rn ta tn ex he q4
    · rcases q7 with ⟨w1, w2, -⟩ | ⟨w1, w2, w3, qn, m, w4, w5, w6, -⟩
      · subst w1
        exact c0 t nn f pg rc hd sh st en rn ta tn ex he w2
      · subst a1 q1 w1 w2
        exact c1 t nn f u rc hd sh st en rn ta oA oN bA bN q cnt pa ins out cap qn m he q5 w4 w5 w6 w3 q6.1 q6.2 e47
theorem lk_node (h : wJ Ks G sz k S M) (hs : dc_wp (mm_node_II M p1 p2) (fun _ => True)) : lkO (hm_SE_node G S sz p1 p2) (mm_node_II M p1 p2) M := lk_of hs (fun r hr => wJ_c h (fun _ _ _ _ _ he hz _ => np_node he hz hr) (fun _ _ _ _ _ _ _ _ _ _ _ _ _ _ _ _ _ _ _ _ _ _ _ _ he hl _ _ _ _ _ _ => nod_l he hl hr))
theorem lk_piece (h : wJ Ks G sz k S M) (hs : dc_wp (mm_piece_II M p1 p2) (fun _ => True)) : lkO (hm_SE_piece G S sz p1 p2) (mm_piece_II M p1 p2) M := lk_of hs (fun r hr => wJ_c h (fun _ _ _ _ _ he hz _ => np_piece he hz hr) (fun _ _ _ _ _ _ _ _ _ _ _ _ _ _ _ _ _ _ _ _ _ _ _ _ he hl _ _ _ _ _ _ => pce_l he hl hr))
theorem lk_letter (h : wJ Ks G sz k S M) (hs : dc_wp (mm_letter_II M p1 p2) (fun _ => True)) : lkO (hm_SE_letter G S sz p1 p2) (mm_letter_II M p1 p2) M := lk_of hs (fun r hr => wJ_c h (fun _ _ _ _ _ he hz _ => np_letter he hz hr) (fun _ _ _ _ _ _ _ _ _ _ _ _ _ _ _ _ _ _ _ _ _ _ _ _ he hl _ _ _ _ _ _ => let_l he hl hr))
theorem lk_status (h : wJ Ks G sz k S M) (hs : dc_wp (mm_status M p1) (fun _ => True)) : lkO (hm_SE_status G S sz p1) (mm_status M p1) M := lk_of hs (fun r hr => wJ_c h (fun _ _ _ _ _ he hz _ => np_status he hz hr) (fun _ _ _ _ _ _ _ _ _ _ _ _ _ _ _ _ _ _ _ _ _ _ _ _ he hl _ h41 _ _ _ _ => sts_l he hl h41 hr))
theorem lk_selected (h : wJ Ks G sz k S M) (hs : dc_wp (mm_selected M p1) (fun _ => True)) : lkO (hm_SE_selected G S sz p1) (mm_selected M p1) M := lk_of hs (fun r hr => wJ_c h (fun _ _ _ _ _ he hz _ => np_selected he hz hr) (fun _ _ _ _ _ _ _ _ _ _ _ _ _ _ _ _ _ _ _ _ _ _ _ _ he hl hle _ _ _ _ _ => sel_l he hl hle hr))
theorem lk_distance (h : wJ Ks G sz k S M) (hs : dc_wp (mm_distance M p1) (fun _ => True)) : lkO (hm_SE_distance G S sz p1) (mm_distance M p1) M := lk_of hs (fun r hr => wJ_d h (fun _ _ _ _ _ _ _ _ _ _ _ _ _ he h85 => ux_distance he h85 hr) (fun _ _ _ _ _ _ _ _ _ _ _ _ _ _ _ _ _ _ he hX h0 h85 => xd_distance he hX h0 h85 hr))
theorem lk_alike (h : wJ Ks G sz k S M) (hs : dc_wp (mm_alike M p1) (fun _ => True)) : lkO (hm_SE_alike G S sz p1) (mm_alike M p1) M := lk_of hs (fun r hr => wJ_d h (fun _ _ _ _ _ _ _ _ _ _ _ _ _ he h85 => ux_alike he h85 hr) (fun _ _ _ _ _ _ _ _ _ _ _ _ _ _ _ _ _ _ he hX h0 h85 => xd_alike he hX h0 h85 hr))
theorem lk_doubt (h : wJ Ks G sz k S M) (hs : dc_wp (mm_doubt M p1) (fun _ => True)) : lkO (hm_SE_doubt G S sz p1) (mm_doubt M p1) M := lk_of hs (fun r hr => wJ_d h (fun _ _ _ _ _ _ _ _ _ _ _ _ _ he h85 => ux_doubt he h85 hr) (fun _ _ _ _ _ _ _ _ _ _ _ _ _ _ _ _ _ _ he hX h0 h85 => xd_doubt he hX h0 h85 hr))
theorem lk_level (h : wJ Ks G sz k S M) (hs : dc_wp (mm_level M p1) (fun _ => True)) : lkO (hm_SE_level G S sz p1) (mm_level M p1) M := lk_of hs (fun r hr => wJ_n h (fun _ _ _ _ _ _ _ _ _ _ _ _ _ he h86 => ul_level he h86 hr) (fun _ _ _ _ _ _ _ _ _ _ _ _ _ _ _ _ _ _ _ _ _ _ _ he _ hN hL _ h86 _ _ _ => xl_level he hN hL h86 hr))
end LKS
