/-! the tape: class and reference side by side; the law's cases of feed and end -/
theorem bt_key (X : BitVec 32) (k : Nat) (hk : k ≤ 24) : (X.sshiftRight k).signExtend 8 = (X >>> k).signExtend 8 := by
  apply BitVec.eq_of_getLsbD_eq
  intro i hi
  rw [BitVec.getLsbD_signExtend, BitVec.getLsbD_signExtend, BitVec.getLsbD_sshiftRight, BitVec.getLsbD_ushiftRight]
  have h1 : i < 32 := by omega
  have h2 : k + i < 32 := by omega
  simp [h1, h2, hi]
theorem bt_fin {A B : Int32} (h : A.toBitVec.signExtend 8 = B.toBitVec.signExtend 8) : A.toInt8 = B.toInt8 := Int8.toBitVec_inj.1 h
theorem bt_rt {x s : Int32} (hs : s = 24 ∨ s = 16 ∨ s = 8 ∨ s = 0) : bt x s = rt x s := by
  rcases hs with rfl | rfl | rfl | rfl
  · exact congrArg (fun z => vp_nar .byte (Int8.toInt32 z)) (bt_fin (bt_key x.toBitVec 24 (by omega)).symm)
  · exact congrArg (fun z => vp_nar .byte (Int8.toInt32 z)) (bt_fin (bt_key x.toBitVec 16 (by omega)).symm)
  · exact congrArg (fun z => vp_nar .byte (Int8.toInt32 z)) (bt_fin (bt_key x.toBitVec 8 (by omega)).symm)
  · exact congrArg (fun z => vp_nar .byte (Int8.toInt32 z)) (bt_fin (bt_key x.toBitVec 0 (by omega)).symm)
theorem bs_sh : ∀ k, k < 20 → ((24 - (8 * (Int32.ofNat k - Int32.ofNat k / 4 * 4))) &&& (31 : Int32)) = bs (k % 4) := by decide +kernel
theorem bs_in (k : Nat) : bs k = 24 ∨ bs k = 16 ∨ bs k = 8 ∨ bs k = 0 := by
  unfold bs
  by_cases h0 : k = 0
  · rw [if_pos h0]; exact Or.inl rfl
  · rw [if_neg h0]
    by_cases h1 : k = 1
    · rw [if_pos h1]; exact Or.inr (Or.inl rfl)
    · rw [if_neg h1]
      by_cases h2 : k = 2
      · rw [if_pos h2]; exact Or.inr (Or.inr (Or.inl rfl))
      · rw [if_neg h2]; exact Or.inr (Or.inr (Or.inr rfl))
theorem fd_rd {a b c d e : Int32} {k : Nat} (hk : k < 20) : fd a b c d e k = rd a b c d e k := by
  unfold fd rd
  rw [bs_sh k hk]
  exact bt_rt (bs_in _)
theorem se_end {G : hg_E} {S : hg_S} {o t N : Nat} {g : Nat → Int32} {n f p : Int32} {r : List Value} (h : tv G S o t N g n (.int f :: r)) (hne : o ≠ t) : dc_wp (hm_SE_end G S o p) (fun q => ((f = 0 ∨ p < 0 ∨ 20 < p) ∧ q = (S, -1)) ∨ (¬ f = 0 ∧ ¬ p < 0 ∧ ¬ 20 < p ∧ q.2 = n - (20 - p) ∧ tv G q.1 o t N g (n - (20 - p)) (.int 0 :: r) ∧ tf S q.1 o t)) := by
  delta hm_SE_end
  refine wq_gi (x := f) h.1 rfl ?_
  refine wq_if (fun c1 => ⟨_, rfl, Or.inl ⟨Or.inl c1, rfl⟩⟩) (fun c1 => ?_)
  refine wq_if (fun c2 => ⟨_, rfl, Or.inl ⟨Or.inr (Or.inl c2), rfl⟩⟩) (fun c2 => ?_)
  refine wq_if (fun c3 => ⟨_, rfl, Or.inl ⟨Or.inr (Or.inr c3), rfl⟩⟩) (fun c3 => ?_)
  refine wq_pf h.1 (by simp) ?_
  have w1 : hg_at (hu S o (.inr (0, .ref t :: .int n :: .int 0 :: r))).1 o = some (.inr (0, .ref t :: .int n :: .int 0 :: r)) := hu_self h.1
  refine wq_gi (x := n) w1 rfl ?_
  refine wq_pf w1 (by simp) ?_
  have w2 : hg_at (hu (hu S o (.inr (0, .ref t :: .int n :: .int 0 :: r))) o (.inr (0, .ref t :: .int (n - (20 - p)) :: .int 0 :: r))).1 o = some (.inr (0, .ref t :: .int (n - (20 - p)) :: .int 0 :: r)) := hu_self w1
  refine wq_gi (x := n - (20 - p)) w2 rfl ?_
  refine ⟨_, rfl, Or.inr ⟨c1, c2, c3, rfl, ⟨w2, ?_⟩, rfl, fun b hb1 hb2 => ?_⟩⟩
  · show hg_at (hu (hu S o _) o _).1 t = _
    rw [hu_ne (fun z => hne z.symm), hu_ne (fun z => hne z.symm)]; exact h.2
  · show hg_at (hu (hu S o _) o _).1 b = _
    rw [hu_ne hb1, hu_ne hb1]
theorem md_end {M : md_S} {p : Int32} : dc_wp (mm_end M p) (fun q => ((M.1 3 = 0 ∨ p < 0 ∨ 20 < p) ∧ q = (md_i M 0 0, -1)) ∨ (¬ M.1 3 = 0 ∧ ¬ p < 0 ∧ ¬ 20 < p ∧ q = (md_i (md_i (md_i M 0 0) 3 0) 2 (M.1 2 + (p - 20)), M.1 2 + (p - 20)))) := by
  delta mm_end
  refine wq_let (fun M1 hM1 => ?_)
  subst hM1
  have e3 : (md_i M 0 0).1 3 = M.1 3 := rfl
  rw [e3]
  refine wq_if (fun c1 => ⟨_, rfl, Or.inl ⟨Or.inl c1, rfl⟩⟩) (fun c1 => ?_)
  refine wq_if (fun c2 => ⟨_, rfl, Or.inl ⟨Or.inr (Or.inl c2), rfl⟩⟩) (fun c2 => ?_)
  refine wq_if (fun c3 => ⟨_, rfl, Or.inl ⟨Or.inr (Or.inr c3), rfl⟩⟩) (fun c3 => ?_)
  refine wq_let (fun M2 hM2 => ?_)
  subst hM2
  refine wq_let (fun M3 hM3 => ?_)
  subst hM3
  exact ⟨_, rfl, Or.inr ⟨c1, c2, c3, rfl⟩⟩
/-- the class's tape is the reference's -/
def tpR (G : hg_E) (S : hg_S) (M : md_S) (o t N : Nat) (g : Nat → Int32) (n f : Int32) (r : List Value) : Prop :=
  (tv G S o t N g n (.int f :: r) ∧ hw S ∧ o ≠ t) ∧ (n = M.1 2 ∧ f = M.1 3 ∧ ∀ i, i < n.toInt.toNat → g i = M.2.1 1 i) ∧ (∀ i, fits .byte (.int (g i)) = true) ∧ (0 ≤ n.toInt ∧ n.toInt ≤ 32768 ∧ n.toInt ≤ (N : Int) ∧ 20 ≤ N ∧ N ≤ 65536 ∧ (¬ f = 0 → 20 ≤ n.toInt))
/-- what is as it was: all but the engine, its tape, and what lies free -/
def tpF (S S' : hg_S) (o t t' N N' : Nat) : Prop := ((t' = t ∧ N' = N ∧ S'.2 = S.2) ∨ (t' = S.2.1 ∧ N' = 2 * N ∧ S'.2 = (S.2.1 + 1, S.2.2.1 - 1, S.2.2.2 - 2 * N))) ∧ ∀ b, b ≠ o → b ≠ t → b ≠ t' → hg_at S'.1 b = hg_at S.1 b
theorem lw_ix {m L : Nat} (hm : 6 * m + 6 ≤ L) (hL : L ≤ 3072) {c : Int32} {cn : Nat} (hc : c.toInt = (cn : Int)) (h5 : cn ≤ 5) : dc_ix (Int32.ofNat (6 * m) + c) L = some (6 * m + cn) := by
  have e1 : (Int32.ofNat (6 * m)).toInt = ((6 * m : Nat) : Int) := Int32.toInt_ofNat_of_lt (by omega)
  have e2 : (Int32.ofNat (6 * m) + c).toInt = ((6 * m + cn : Nat) : Int) := by rw [i_addS (by rw [e1, hc]; omega), e1, hc]; omega
  rw [vq_ix (by omega) (by omega), e2]
  rfl
theorem wq_jx {m L : Nat} (hm : 6 * m + 6 ≤ L) (hL : L ≤ 3072) {c : Int32} (cn : Nat) (hc : c.toInt = (cn : Int)) (h5 : cn ≤ 5) {τ : Type} {E : Nat → Option τ} {F : τ → Prop} (kk : dc_wp (E (6 * m + cn)) F) : dc_wp ((dc_ix (Int32.ofNat (6 * m) + c) L).bind E) F := by
  rw [lw_ix hm hL hc h5]
  exact kk
theorem lw_t0_w {G : hg_E} {S : hg_S} {M : md_S} {o t N : Nat} {g : Nat → Int32} {n f : Int32} {r : List Value} {xs : Nat → Int32} {m L : Nat} {v : Int64} (h : tpR G S M o t N g n f r) (hm : 6 * m + 6 ≤ L) (hL : L ≤ 3072) (hc : 1 ≤ S.2.2.1) (hs : 2 * N ≤ S.2.2.2) : dc_wp (lw_t0 G xs L o S v M (Int32.ofNat (6 * m))) (fun z => z.2.1 = v ∧ (∃ t' N' g' n' f', tpR G z.1 z.2.2 o t' N' g' n' f' r ∧ tpF S z.1 o t t' N N') ∧ md_fr [0, 2, 3] [1] false false M z.2.2) := by
  obtain ⟨⟨h1, h2, h3⟩, ⟨h4, h5, h6⟩, h7, h8, h9, h10, h11, h12, h13⟩ := h
  delta lw_t0
  refine wq_jx hm hL 1 il_1 (by omega) ?_
  refine wq_jx hm hL 2 il_2 (by omega) ?_
  refine wq_jx hm hL 3 il_3 (by omega) ?_
  refine wq_jx hm hL 4 il_4 (by omega) ?_
  refine wq_jx hm hL 5 il_5 (by omega) ?_
  refine wq_chk h1.1 ?_
  refine wq_call (se_feed h1 h2 h3 h8 h10 h11 h12 h9 h7 hc hs) ?_
  rintro q hq
  refine wq_jx hm hL 1 il_1 (by omega) ?_
  refine wq_jx hm hL 2 il_2 (by omega) ?_
  refine wq_jx hm hL 3 il_3 (by omega) ?_
  refine wq_jx hm hL 4 il_4 (by omega) ?_
  refine wq_jx hm hL 5 il_5 (by omega) ?_
  refine wq_call (md_feed (M := M) (by rw [← h4]; exact h8) (by rw [← h4]; exact h9)) ?_
  rintro p hp
  rw [← h4] at hp
  rcases hq with ⟨q1, q2⟩ | ⟨q1, q2, t', N', g', q3, q4, q5, q6, q7, q8, q9, q10⟩
  · rcases hp with ⟨p1, p2⟩ | ⟨p1, -⟩
    · rw [q2, p2]
      refine wq_if (fun _ => ?_) (fun c => absurd rfl c)
      refine ⟨_, rfl, rfl, ⟨t, N, g, n, f, ⟨⟨h1, h2, h3⟩, ⟨h4, h5, h6⟩, h7, h8, h9, h10, h11, h12, h13⟩, Or.inl ⟨rfl, rfl, rfl⟩, fun _ _ _ _ => rfl⟩, fun k hk => ?_, fun _ _ => rfl, fun _ => rfl, fun _ => rfl⟩
      show upd M.1 0 0 k = M.1 k
      unfold upd
      rw [if_neg (fun z => hk (by rw [z]; simp))]
    · omega
  · rcases hp with ⟨p1, -⟩ | ⟨p1, p2, p3, p4, p5, p6⟩
    · omega
    · refine wq_if (fun _ => ?_) (fun c => absurd (by rw [q2, p2]) c)
      have an : (n + 20).toInt = n.toInt + 20 := by rw [i_addS (by rw [il_20]; omega), il_20]
      refine ⟨_, rfl, rfl, ⟨t', N', g', n + 20, 1, ⟨⟨q3, q4, q5⟩, ⟨?_, ?_, fun i hi => ?_⟩, q8, by omega, by omega, by omega, ?_, ?_, fun _ => by omega⟩, ?_, q10⟩, fun k hk => ?_, fun k hk => ?_, fun _ => ?_, fun _ => ?_⟩
      · show n + 20 = p.1.1 2
        rw [p3]
        rfl
      · show 1 = p.1.1 3
        rw [p3]
        rfl
      · show g' i = p.1.2.1 1 i
        rw [an] at hi
        have hi : i < n.toInt.toNat + 20 := by omega
        rw [q9 i hi, p6 i]
        by_cases c : n.toInt.toNat ≤ i
        · rw [if_pos c, if_pos ⟨c, hi⟩, fd_rd (by omega)]
        · rw [if_neg c, if_neg (fun z => c z.1)]
          exact h6 i (by omega)
      · rcases q7 with ⟨-, e2, -⟩ | ⟨-, e2, -, -⟩ <;> omega
      · rcases q7 with ⟨-, e2, -⟩ | ⟨-, e2, e3, -⟩ <;> omega
      · rcases q7 with e | ⟨e1, e2, -, e4⟩
        · exact Or.inl e
        · exact Or.inr ⟨e1, e2, e4⟩
      · show p.1.1 k = M.1 k
        rw [p3]
        unfold upd
        rw [if_neg (fun z => hk (by rw [z]; simp)), if_neg (fun z => hk (by rw [z]; simp)), if_neg (fun z => hk (by rw [z]; simp))]
      · show p.1.2.1 k = M.2.1 k
        exact p4 k (fun z => hk (by rw [z]; simp))
      · show p.1.2.2.1 = M.2.2.1
        rw [p5]
      · show p.1.2.2.2 = M.2.2.2
        rw [p5]
theorem lw_t1_w {G : hg_E} {S : hg_S} {M : md_S} {o t N : Nat} {g : Nat → Int32} {n f : Int32} {r : List Value} {xs : Nat → Int32} {m L : Nat} {v : Int64} (h : tpR G S M o t N g n f r) (hm : 6 * m + 6 ≤ L) (hL : L ≤ 3072) : dc_wp (lw_t1 G xs L o S v M (Int32.ofNat (6 * m))) (fun z => z.2.1 = v ∧ (∃ g' n' f', tpR G z.1 z.2.2 o t N g' n' f' r ∧ tpF S z.1 o t t N N) ∧ md_fr [0, 2, 3] [1] false false M z.2.2) := by
  have h' := h
  obtain ⟨⟨h1, h2, h3⟩, ⟨h4, h5, h6⟩, h7, h8, h9, h10, h11, h12, h13⟩ := h
  delta lw_t1
  refine wq_jx hm hL 1 il_1 (by omega) ?_
  refine wq_chk h1.1 ?_
  refine wq_call (se_end h1 h3) ?_
  rintro q hq
  refine wq_jx hm hL 1 il_1 (by omega) ?_
  refine wq_call (md_end (M := M)) ?_
  rintro p hp
  rw [← h5, ← h4] at hp
  rcases hq with ⟨q1, q2⟩ | ⟨q1, q2, q3, q4, q5, q6⟩
  · rcases hp with ⟨p1, p2⟩ | ⟨p1, p2, p3, -⟩
    · rw [q2, p2]
      refine wq_if (fun _ => ?_) (fun c => absurd rfl c)
      refine ⟨_, rfl, rfl, ⟨g, n, f, ⟨⟨h1, h2, h3⟩, ⟨h4, h5, h6⟩, h7, h8, h9, h10, h11, h12, h13⟩, Or.inl ⟨rfl, rfl, rfl⟩, fun _ _ _ _ => rfl⟩, fun k hk => ?_, fun _ _ => rfl, fun _ => rfl, fun _ => rfl⟩
      show upd M.1 0 0 k = M.1 k
      unfold upd
      rw [if_neg (fun z => hk (by rw [z]; simp))]
    · rcases q1 with c | c | c
      · exact absurd c p1
      · exact absurd c p2
      · exact absurd c p3
  · rcases hp with ⟨p1, -⟩ | ⟨-, -, -, p4⟩
    · rcases p1 with c | c | c
      · exact absurd c q1
      · exact absurd c q2
      · exact absurd c q3
    · have b1 : 0 ≤ (xs (6 * m + 1)).toInt := by have := mt i_lt.mpr q2; rw [il_0] at this; omega
      have b2 : (xs (6 * m + 1)).toInt ≤ 20 := by have := mt i_lt.mpr q3; rw [il_20] at this; omega
      have b3 := h13 q1
      have a1 : (20 - xs (6 * m + 1)).toInt = 20 - (xs (6 * m + 1)).toInt := by rw [i_subS (by rw [il_20]; omega), il_20]
      have a2 : (xs (6 * m + 1) - 20).toInt = (xs (6 * m + 1)).toInt - 20 := by rw [i_subS (by rw [il_20]; omega), il_20]
      have a3 : (n - (20 - xs (6 * m + 1))).toInt = n.toInt - (20 - (xs (6 * m + 1)).toInt) := by rw [i_subS (by rw [a1]; omega), a1]
      have a4 : n - (20 - xs (6 * m + 1)) = n + (xs (6 * m + 1) - 20) := by
        rw [i_eq, a3, i_addS (by rw [a2]; omega), a2]; omega
      rw [p4]
      refine wq_if (fun _ => ?_) (fun c => absurd (q4.trans a4) c)
      refine ⟨_, rfl, rfl, ⟨g, n - (20 - xs (6 * m + 1)), 0, ⟨⟨q5, q6.w h1 h2, h3⟩, ⟨?_, rfl, fun i hi => ?_⟩, h7, by omega, by omega, by omega, h11, h12, fun c => absurd rfl c⟩, Or.inl ⟨rfl, rfl, q6.1⟩, fun b hb1 hb2 _ => q6.2 b hb1 hb2⟩, fun k hk => ?_, fun _ _ => rfl, fun _ => rfl, fun _ => rfl⟩
      · rw [a4]; rfl
      · show g i = M.2.1 1 i
        exact h6 i (by omega)
      · show upd (upd (upd M.1 0 0) 3 0) 2 _ k = M.1 k
        unfold upd
        rw [if_neg (fun z => hk (by rw [z]; simp)), if_neg (fun z => hk (by rw [z]; simp)), if_neg (fun z => hk (by rw [z]; simp))]
