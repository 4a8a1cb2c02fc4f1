/-! feed and end, between calls -/
section FDB
variable {Ks : md_S → Prop} {G : hg_E} {S : hg_S} {M : md_S} {sz k : Nat}
theorem feed_2 {a b c d e : Int32} (h0 : 0 ≤ (M.1 2).toInt) (h1 : (M.1 2).toInt ≤ 32768) : dc_pw (mm_feed M a b c d e) (fun q => (q.1.1 2).toInt ≤ (M.1 2).toInt + 20) := by
  have t20 : (20 : Int32).toInt = 20 := by decide
  have mi : ∀ i, ¬ i = 0 → (md_i M 0 0).1 i = M.1 i := fun i hi => by rw [md_i1, if_neg hi]
  delta mm_feed
  refine (show dc_pw (if (32768 : Int32) < ((md_i M 0 0).1 2 + 20) then (some (md_i M 0 0, (-1))) else (mm_feed_L22 (md_i M 0 0) a b c d e 0)) _ from ?_)
  refine pw_ifc (fun _ => pw_some (by show ((md_i M 0 0).1 2).toInt ≤ _; rw [mi 2 (by decide)]; omega)) (fun _ => ?_)
  delta mm_feed_L22
  refine pw_loop (fun (y : md_S × Int32) => y.1.1 2 = M.1 2) (fun z => z.1 2 = M.1 2) (mi 2 (by decide)) ?_ ?_
  · rintro ⟨Y, y⟩ hY
    have hY : Y.1 2 = M.1 2 := hY
    show dc_pw (mm_feed_b22 Y a b c d e y) _
    have go : ∀ v, dc_pw (mm_feed_L75 Y a b c d e y v) (Sum.elim (fun (y : md_S × Int32) => y.1.1 2 = M.1 2) (fun z => z.1 2 = M.1 2)) := fun v => by
      delta mm_feed_L75
      refine pw_ix (fun _ _ => ?_)
      exact pw_some hY
    delta mm_feed_b22
    exact pw_ifc (fun _ => pw_ifc (fun _ => go _) (fun _ => pw_ifc (fun _ => go _) (fun _ => pw_ifc (fun _ => go _) (fun _ => pw_ifc (fun _ => go _) (fun _ => go _))))) (fun _ => pw_some hY)
  · intro Z hZ
    have hZ : Z.1 2 = M.1 2 := hZ
    delta mm_feed_L109
    refine pw_some ?_
    show (Z.1 2 + 20).toInt ≤ _
    rw [hZ, i_addS (by rw [t20]; omega), t20]
    omega
theorem end_2 {p : Int32} (h0 : 0 ≤ (M.1 2).toInt) (h1 : (M.1 2).toInt ≤ 32768) : dc_pw (mm_end M p) (fun q => (q.1.1 2).toInt ≤ (M.1 2).toInt + 20) := by
  have t20 : (20 : Int32).toInt = 20 := by decide
  have mi : ∀ i, ¬ i = 0 → (md_i M 0 0).1 i = M.1 i := fun i hi => by rw [md_i1, if_neg hi]
  have sm : dc_pw (mm_end_L22 (md_i M 0 0)) (fun q => (q.1.1 2).toInt ≤ (M.1 2).toInt + 20) := by
    delta mm_end_L22
    refine pw_some ?_
    show ((md_i M 0 0).1 2).toInt ≤ _
    rw [mi 2 (by decide)]; omega
  delta mm_end dc_let
  dsimp only
  refine pw_ifc (fun _ => sm) (fun _ => pw_ifc (fun _ => sm) (fun a => pw_ifc (fun _ => sm) (fun b => pw_some ?_)))
  have a : ¬ p.toInt < (0 : Int32).toInt := fun z => a (i_lt.mpr z)
  have b : ¬ (20 : Int32).toInt < p.toInt := fun z => b (i_lt.mpr z)
  rw [il_0] at a
  rw [t20] at b
  show (M.1 2 + (p - 20)).toInt ≤ _
  have s1 : (p - 20).toInt = p.toInt - 20 := by rw [i_subS (by rw [t20]; omega), t20]
  rw [i_addS (by rw [s1]; omega), s1]
  omega
/-- the tape was written -/
theorem wJ_tp (hKf : ∀ M M', Ks M → md_fr [0, 2, 3] [1] false false M M' → Ks M') {S' : hg_S} {M' : md_S} {t N t' N' : Nat} {g g' : Nat → Int32} {nn f n' f' st en rn ex la : Int32} {pg rc hd sh ta tn : Value} {oA oN cap : Nat} {bA bN : Nat → Nat} (hK : Ks M) (hT : tpR G S M sz t N g nn f [pg, rc, .int st, .int en, hd, sh, .int rn, ta, tn, .int ex, .int la]) (hsz : sz < S.2.1) (hO : jO G S t oA oN cap bA bN ta tn) (hR : jR S k nn.toInt.toNat N oA oN cap ta tn) (hP : jP G S M sz k t oA oN cap bA bN st en rn ex la pg rc hd sh ta tn) (r1 : 1 ≤ S.2.2.1) (r2 : 2 * N ≤ S.2.2.2) (hT' : tpR G S' M' sz t' N' g' n' f' [pg, rc, .int st, .int en, hd, sh, .int rn, ta, tn, .int ex, .int la]) (hF : tpF S S' sz t t' N N') (fr : md_fr [0, 2, 3] [1] false false M M') (h2 : (M'.1 2).toInt ≤ (M.1 2).toInt + 20) : wJ Ks G sz (k + 1) S' M' := by
  obtain ⟨⟨⟨v1, v2⟩, w0, ot⟩, ⟨t1, t2, t3⟩, t4, t5⟩ := id hT
  obtain ⟨hcs, hb⟩ := hF
  obtain ⟨lA, lN⟩ := jO_lt w0 hO
  have tl := w0.lt v2
  have m1 : ∀ i, ¬ (i = 0 ∨ i = 2 ∨ i = 3) → M'.1 i = M.1 i := fun i hi => fr.1 i (by simp; omega)
  have m2 : ∀ i, ¬ i = 1 → M'.2.1 i = M.2.1 i := fun i hi => fr.2.1 i (by simp [hi])
  have m3 : M'.2.2.2 = M.2.2.2 := fr.2.2.2 rfl
  have tt : t' = t ∨ t' = S.2.1 := hcs.imp (fun h => h.1) (fun h => h.1)
  have nt' : ∀ e, e < S.2.1 → e ≠ t → e ≠ t' := fun e e1 e2 => by
    rcases tt with z | z
    · rw [z]; exact e2
    · omega
  have fA : ta = .ref oA → hg_at S'.1 oA = hg_at S.1 oA ∧ ∀ i, i < 8 → hg_at S'.1 (bA i) = hg_at S.1 (bA i) := fun z => by
    rcases hO.1 with z' | ⟨-, ⟨XA, cA, a2⟩, -⟩
    · rw [z'] at z; cases z
    · have a3 : oA ≠ t := at_ne a2.1 v2 (fun z => by cases z)
      exact ⟨hb _ (at_ne a2.1 v1 (fun z => by cases z)) a3 (nt' _ (lA z).1 a3), fun i hi => hb _ (at_ne (a2.2 i hi) v1 (fun z => by cases z)) (fun e => hO.2.2.2.1 z i hi e.symm) (nt' _ ((lA z).2 i hi) (fun e => hO.2.2.2.1 z i hi e.symm))⟩
  have fN : tn = .ref oN → hg_at S'.1 oN = hg_at S.1 oN ∧ ∀ i, i < 9 → hg_at S'.1 (bN i) = hg_at S.1 (bN i) := fun z => by
    rcases hO.2.1 with z' | ⟨-, ⟨XN, cN, a2⟩, -⟩
    · rw [z'] at z; cases z
    · have a3 : oN ≠ t := at_ne a2.1 v2 (fun z => by cases z)
      exact ⟨hb _ (at_ne a2.1 v1 (fun z => by cases z)) a3 (nt' _ (lN z).1 a3), fun i hi => hb _ (at_ne (a2.2 i hi) v1 (fun z => by cases z)) (fun e => hO.2.2.2.2 z i hi e.symm) (nt' _ ((lN z).2 i hi) (fun e => hO.2.2.2.2 z i hi e.symm))⟩
  have jm : jM M M' := ⟨fun i hi => m1 i (by omega), fun i hi => m2 i (by omega), m3⟩
  have o0 := jO_f hO fA fN
  have sz' : sz < S'.2.1 := by
    rcases hcs with ⟨-, -, z⟩ | ⟨-, -, z⟩
    · rw [z]; exact hsz
    · rw [z]; exact Nat.lt_succ_of_lt hsz
  refine ⟨t', N', g', n', f', st, en, rn, ex, la, pg, rc, hd, sh, ta, tn, oA, oN, cap, bA, bN, hKf M M' hK fr, ⟨hT', sz'⟩, ⟨o0.1, o0.2.1, o0.2.2.1, fun z i hi => ?_, fun z i hi => ?_⟩, ?_, ?_⟩
  · rcases tt with e | e
    · rw [e]; exact hO.2.2.2.1 z i hi
    · have := (lA z).2 i hi; omega
  · rcases tt with e | e
    · rw [e]; exact hO.2.2.2.2 z i hi
    · have := (lN z).2 i hi; omega
  · obtain ⟨kA, kN, x, q1, q2, q3, q4⟩ := hR
    have e1 := hT'.2.1.1
    have nb : n'.toInt.toNat ≤ nn.toInt.toNat + 20 := by rw [e1, t1]; omega
    rcases hcs with ⟨-, zN, z⟩ | ⟨-, zN, z⟩
    · exact ⟨kA, kN, x, q1, q2, by rw [z]; omega, by rw [z, zN]; omega⟩
    · refine ⟨kA, kN, x, q1, q2, ?_, ?_⟩
      · rw [z]; show _ ≤ S.2.2.1 - 1 + _ + _ + _ + _; omega
      · rw [z, zN]; show _ ≤ S.2.2.2 - 2 * N + _ + _ + _ + _ + _; omega
  · rcases hP with ⟨p1, p2, p3, p4⟩ | ⟨u, t0, T, n, ps, sg, io, pa, R, c, X, cn, hf, sf, p1, ⟨p2, p3, p4⟩, p5, p6⟩
    · exact Or.inl ⟨zI_f p1 (fun i hi => m1 i (by omega)) (m2 74 (by decide)) (m2 84 (by decide)), p2, p3, by rw [m2 70 (by decide)]; exact p4⟩
    · have lu := LDp_lt w0 p2
      obtain ⟨⟨o1, o2⟩, tl2, eA, eN⟩ := id p5
      refine Or.inr ⟨u, t0, T, n, ps, sg, io, pa, R, c, X, cn, hf, sf, p1, ⟨LDp_f p2 (fun b b1 b2 => ?_) o2 ⟨fun i a b => m1 i (by omega), fun i hi => m2 i (by omega)⟩ (m2 70 (by decide)) (m2 74 (by decide)) (m2 84 (by decide)), LDe_f p3 (fun i hi => m1 i (by omega)) (m2 74 (by decide)), by rw [m1 41 (by decide)]; exact p4⟩, ⟨⟨o1, o2⟩, ?_, eA, eN⟩, jX_f p6 (by omega) fA fN jm⟩
      · have nb : b ≠ t := fun e => by
          rcases tl2 with z | z
          · exact Nat.lt_irrefl t (Nat.lt_of_lt_of_le z (by rw [← e]; exact b1))
          · exact Nat.lt_irrefl t (Nat.lt_of_lt_of_le (by rw [← e]; exact b2) z)
        exact hb b (by omega) nb (nt' b (by omega) nb)
      · rcases tt with e | e
        · rw [e]; exact tl2
        · rw [e]; exact Or.inr lu
theorem th_feed (hKf : ∀ M M', Ks M → md_fr [0, 2, 3] [1] false false M M' → Ks M') (h : wJ Ks G sz k S M) {L : Nat} {xs : Nat → Int32} {v : Int64} (hm : 6 * k + 6 ≤ L) (hL : L ≤ 3072) : dc_wp (lw_t0 G xs L sz S v M (Int32.ofNat (6 * k))) (fun z => wJ Ks G sz (k + 1) z.1 z.2.2) := by
  have rm := wJ_r h (by omega)
  obtain ⟨t, N, g, nn, f, st, en, rn, ex, la, pg, rc, hd, sh, ta, tn, oA, oN, cap, bA, bN, hK, ⟨hT, hsz⟩, hO, hR, hP⟩ := id h
  have b := hT.2.2.2
  have t1 := hT.2.1.1
  obtain ⟨z, hz, -, ⟨t', N', g', n', f', hT', hF⟩, fr⟩ := lw_t0_w (v := v) (xs := xs) hT hm hL (by omega) (by omega)
  refine ⟨z, hz, wJ_tp hKf hK hT hsz hO hR hP (by omega) (by omega) hT' hF fr ?_⟩
  have key : dc_pw (lw_t0 G xs L sz S v M (Int32.ofNat (6 * k))) (fun z => (z.2.2.1 2).toInt ≤ (M.1 2).toInt + 20) := by
    delta lw_t0
    refine pw_ix (fun _ _ => pw_ix (fun _ _ => pw_ix (fun _ _ => pw_ix (fun _ _ => pw_ix (fun _ _ => ?_)))))
    refine pw_bind (P := fun _ => True) (fun _ _ => trivial) (fun _ _ => ?_)
    refine pw_bind (P := fun _ => True) (fun _ _ => trivial) (fun _ _ => ?_)
    refine pw_ix (fun _ _ => pw_ix (fun _ _ => pw_ix (fun _ _ => pw_ix (fun _ _ => pw_ix (fun _ _ => ?_)))))
    exact pw_bind (feed_2 (by rw [← t1]; exact b.1) (by rw [← t1]; exact b.2.1)) (fun q hq => pw_ifc (fun _ => pw_some hq) (fun _ => pw_none))
  exact key z hz
theorem th_end (hKf : ∀ M M', Ks M → md_fr [0, 2, 3] [1] false false M M' → Ks M') (h : wJ Ks G sz k S M) {L : Nat} {xs : Nat → Int32} {v : Int64} (hm : 6 * k + 6 ≤ L) (hL : L ≤ 3072) : dc_wp (lw_t1 G xs L sz S v M (Int32.ofNat (6 * k))) (fun z => wJ Ks G sz (k + 1) z.1 z.2.2) := by
  have rm := wJ_r h (by omega)
  obtain ⟨t, N, g, nn, f, st, en, rn, ex, la, pg, rc, hd, sh, ta, tn, oA, oN, cap, bA, bN, hK, ⟨hT, hsz⟩, hO, hR, hP⟩ := id h
  have b := hT.2.2.2
  have t1 := hT.2.1.1
  obtain ⟨z, hz, -, ⟨g', n', f', hT', hF⟩, fr⟩ := lw_t1_w (v := v) (xs := xs) hT hm hL
  refine ⟨z, hz, wJ_tp hKf hK hT hsz hO hR hP (by omega) (by omega) hT' hF fr ?_⟩
  have key : dc_pw (lw_t1 G xs L sz S v M (Int32.ofNat (6 * k))) (fun z => (z.2.2.1 2).toInt ≤ (M.1 2).toInt + 20) := by
    delta lw_t1
    refine pw_ix (fun _ _ => ?_)
    refine pw_bind (P := fun _ => True) (fun _ _ => trivial) (fun _ _ => ?_)
    refine pw_bind (P := fun _ => True) (fun _ _ => trivial) (fun _ _ => ?_)
    refine pw_ix (fun _ _ => ?_)
    exact pw_bind (end_2 (by rw [← t1]; exact b.1) (by rw [← t1]; exact b.2.1)) (fun q hq => pw_ifc (fun _ => pw_some hq) (fun _ => pw_none))
  exact key z hz
end FDB
