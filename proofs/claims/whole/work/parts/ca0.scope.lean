/-! a number that the lexer doesn't look at may be set earlier; scopes set back; one trap more -/
theorem rtok_uni {f : Nat → Int32} {n p q q' : Nat} {s s' : Int32} {w w' : Int64} (h : rtok f n p q s w) (g : rtok f n p q' s' w') : q = q' ∧ s = s' ∧ w = w' := by
  rcases h with ⟨h1, h2, h3, h4⟩ | ⟨h1, h2, h3, h4, h5⟩ | ⟨h1, h2, h3, h4⟩ <;> rcases g with ⟨g1, g2, g3, g4⟩ | ⟨g1, g2, g3, g4, g5⟩ | ⟨g1, g2, g3, g4⟩
  · exact ⟨h2.trans g2.symm, h3.trans g3.symm, h4.trans g4.symm⟩
  · omega
  · omega
  · omega
  · have e : q = q' := h3.symm.trans g3
    subst e
    refine ⟨rfl, ?_, h5.trans g5.symm⟩
    rcases h4 with ⟨y1, y2⟩ | ⟨y1, y2⟩ <;> rcases g4 with ⟨z1, z2⟩ | ⟨z1, z2⟩
    · exact y2.trans z2.symm
    · omega
    · omega
    · exact y2.trans z2.symm
  · exact absurd h2 g2
  · omega
  · exact absurd g2 h2
  · rcases h4 with ⟨y1, y2, y3⟩ | ⟨y1, y2, y3⟩ <;> rcases g4 with ⟨z1, z2, z3⟩ | ⟨z1, z2, z3⟩
    · exact ⟨y2.trans z2.symm, h3.trans g3.symm, y3.trans z3.symm⟩
    · exact absurd y1 z1
    · exact absurd z1 y1
    · exact ⟨y2.trans z2.symm, h3.trans g3.symm, y3.trans z3.symm⟩
theorem md_ext {X Y : md_S} (h1 : ∀ k, X.1 k = Y.1 k) (h2 : X.2.1 = Y.2.1) (h3 : X.2.2.1 = Y.2.2.1) (h4 : X.2.2.2 = Y.2.2.2) : X = Y := Prod.ext (funext h1) (Prod.ext h2 (Prod.ext h3 h4))
theorem adv_comm {M N : md_S} {k : Nat} {v : Int32} (hk : ¬ k = 2 ∧ ¬ (4 ≤ k ∧ k ≤ 8)) (h0 : 0 ≤ (M.1 4).toInt) (h1 : (M.1 4).toInt ≤ (M.1 2).toInt) (h2 : (M.1 2).toInt ≤ 32768) (h : mm_advance M = some N) : mm_advance (md_i M k v) = some (md_i N k v) := by
  have m : ∀ i, ¬ i = k → (md_i M k v).1 i = M.1 i := fun i d => md_ij d
  obtain ⟨X, ex, ⟨a1, a2, a3, a4, ⟨a5, a6, a7⟩, a8, a9⟩⟩ := radv_w (M := md_i M k v) (by rw [m 4 (by omega)]; exact h0) (by rw [m 4 (by omega), m 2 (by omega)]; exact h1) (by rw [m 2 (by omega)]; exact h2)
  obtain ⟨Y, ey, ⟨b1, b2, b3, b4, ⟨b5, b6, b7⟩, b8, b9⟩⟩ := radv_w (M := M) h0 h1 h2
  have eY : Y = N := Option.some.inj (ey.symm.trans h)
  subst eY
  rw [ex]
  rw [m 2 (by omega), m 4 (by omega), m 5 (by omega)] at a8
  rw [m 2 (by omega)] at a9
  rw [m 4 (by omega)] at a5
  rw [m 2 (by omega)] at a7
  have a8 : gp (M.2.1 1) (M.1 2).toInt.toNat ((M.1 2).toInt.toNat - (M.1 4).toInt.toNat) (M.1 4).toInt.toNat (M.1 5) false = ((X.1 7).toInt.toNat, X.1 8) := a8
  have a9 : rtok (M.2.1 1) (M.1 2).toInt.toNat (X.1 7).toInt.toNat (X.1 4).toInt.toNat (X.1 6) X.2.2.1 := a9
  have e78 := a8.symm.trans b8
  have e7 : X.1 7 = Y.1 7 := i_nn (by omega) (by omega) (congrArg Prod.fst e78)
  have e8 : X.1 8 = Y.1 8 := congrArg Prod.snd e78
  rw [e7] at a9
  obtain ⟨u1, u2, u3⟩ := rtok_uni a9 b9
  have e4 : X.1 4 = Y.1 4 := i_nn (by omega) (by omega) u1
  refine congrArg some (md_ext (fun i => ?_) (a2.trans b2.symm) u3 (a3.trans b3.symm))
  by_cases i4 : i = 4
  · subst i4; rw [md_ij (by omega)]; exact e4
  by_cases i5 : i = 5
  · subst i5; rw [md_ij (by omega), ← a4, ← b4]; exact e8
  by_cases i6 : i = 6
  · subst i6; rw [md_ij (by omega)]; exact u2
  by_cases i7 : i = 7
  · subst i7; rw [md_ij (by omega)]; exact e7
  by_cases i8 : i = 8
  · subst i8; rw [md_ij (by omega)]; exact e8
  rw [a1 i i4 i5 i6 i7 i8]
  by_cases ik : i = k
  · subst ik; rw [md_ii, md_ii]
  · rw [md_ij ik, md_ij ik, b1 i i4 i5 i6 i7 i8]
theorem must_comm {M N : md_S} {w : Int64} {k : Nat} {v : Int32} (hk : ¬ k = 2 ∧ ¬ (4 ≤ k ∧ k ≤ 8) ∧ ¬ k = 10) (h0 : 0 ≤ (M.1 4).toInt) (h1 : (M.1 4).toInt ≤ (M.1 2).toInt) (h2 : (M.1 2).toInt ≤ 32768) (hf : M.1 10 = 0) (h : mm_mustWord M w = some N) : mm_mustWord (md_i M k v) w = some (md_i N k v) := by
  have m : ∀ i, ¬ i = k → (md_i M k v).1 i = M.1 i := fun i d => md_ij d
  have hf' : (md_i M k v).1 10 = 0 := (m 10 (by omega)).trans hf
  delta mm_mustWord mm_meetsWord at h ⊢
  rw [hf, if_neg lt00, isWord_e, kstep] at h
  rw [hf', if_neg lt00, isWord_e, kstep, m 6 (by omega)]
  by_cases c : M.1 6 = 1 ∧ M.2.2.1 = w
  · rw [if_pos c] at h
    rw [if_pos (show M.1 6 = 1 ∧ (md_i M k v).2.2.1 = w from c)]
    obtain ⟨q, eq, h⟩ := iv_bind h
    obtain ⟨X, eX, eq⟩ := iv_bind eq
    have eq := (Option.some.inj eq).symm
    subst eq
    rw [if_neg (show ¬ (1 : Int32) = 0 by decide)] at h
    have h : X = N := Option.some.inj h
    subst h
    rw [adv_comm ⟨hk.1, hk.2.1⟩ h0 h1 h2 eX]
    rfl
  · rw [if_neg c] at h
    rw [if_neg (show ¬ (M.1 6 = 1 ∧ (md_i M k v).2.2.1 = w) from c)]
    have h : (mm_fail M 1 (M.1 8)).bind (fun q2 => some q2) = some N := h
    show (mm_fail (md_i M k v) 1 ((md_i M k v).1 8)).bind (fun q2 => some q2) = some (md_i N k v)
    delta mm_fail at h ⊢
    rw [if_pos hf] at h
    rw [if_pos hf', m 8 (by omega)]
    have h : md_i M 10 (1 + 8 * M.1 8) = N := Option.some.inj h
    subst h
    refine congrArg some (md_ext (fun i => ?_) rfl rfl rfl)
    by_cases i10 : i = 10
    · subst i10
      rw [md_ii, md_ij (show ¬ 10 = k by omega), md_ii]
    · by_cases ik : i = k
      · subst ik; rw [md_ij i10, md_ii, md_ii]
      · rw [md_ij i10, md_ij ik, md_ij ik, md_ij i10]
section SCP
variable {G : hg_E} {sz t0' : Nat} {H0 : Nat → Option va_E} {K1 K2 n : Nat} {f : Nat → Int32} {S : hg_S} {A C : Nat → Nat} {B : Nat → Nat → Int32} {Q : Nat → Int32} {j : Nat} {el : Nat → Option Nat} {P : Nat → Nat} {ND : Nat → ndT} {M : md_S} {b u w : Int}
theorem PV_ss (h : PV G t0' H0 K1 K2 n f S A C B Q j el P ND) {v : Int32} : PV G t0' H0 K1 K2 n f (hu S (A 3) (.inr (3, [.ref (A 2), .ref (A 8), .ref (A 9), .ref (A 10), .int (Q 7), .int v]))) A C B (q1 Q 8 v) j el P ND := by
  have ne : ∀ k, k < 19 → ¬ k = 3 → ∀ e, hg_at (hu S (A 3) e).1 (A k) = hg_at S.1 (A k) := fun k hk d e => hu_ne (h.st.2.1.ne hk (by omega) d)
  refine ⟨⟨h.st.1.hu, h.st.2.1, h.st.2.2.1, ?_, h.st.2.2.2.2.1, h.st.2.2.2.2.2⟩, (ne 0 (by omega) (by omega) _).trans h.pa, h.lx.fr (ne 1 (by omega) (by omega) _) (ne 2 (by omega) (by omega) _), ⟨hu_self h.sn.1, (ne 8 (by omega) (by omega) _).trans h.sn.2.1, (ne 9 (by omega) (by omega) _).trans h.sn.2.2.1, (ne 10 (by omega) (by omega) _).trans h.sn.2.2.2⟩, h.tn.fr (ne 4 (by omega) (by omega) _) (ne 11 (by omega) (by omega) _) (ne 12 (by omega) (by omega) _) (ne 13 (by omega) (by omega) _), (ne 5 (by omega) (by omega) _).trans h.dr, h.pi.fr (ne 6 (by omega) (by omega) _) (ne 14 (by omega) (by omega) _) (ne 15 (by omega) (by omega) _) (ne 16 (by omega) (by omega) _) (ne 17 (by omega) (by omega) _) (ne 18 (by omega) (by omega) _), ⟨h.al.fr (ne 7 (by omega) (by omega) _) (fun z => hu_ne (h.el_ne z h.sn.1 (fun _ _ _ z => by cases z))), h.a19⟩, h.nd.fr (fun i hi => hu_ne (h.nd_ne hi h.sn.1 (fun _ z => by cases z))), h.rm⟩
  intro b hb
  have := h.st.2.2.1 3 (by omega)
  rw [hu_ne (by omega)]
  exact h.st.2.2.2.1 b hb
theorem PV_ts (h : PV G t0' H0 K1 K2 n f S A C B Q j el P ND) {v : Int32} : PV G t0' H0 K1 K2 n f (hu S (A 4) (.inr (3, [.ref (A 2), .ref (A 11), .ref (A 12), .ref (A 13), .int (Q 9), .int v]))) A C B (q1 Q 10 v) j el P ND := by
  have ne : ∀ k, k < 19 → ¬ k = 4 → ∀ e, hg_at (hu S (A 4) e).1 (A k) = hg_at S.1 (A k) := fun k hk d e => hu_ne (h.st.2.1.ne hk (by omega) d)
  refine ⟨⟨h.st.1.hu, h.st.2.1, h.st.2.2.1, ?_, h.st.2.2.2.2.1, h.st.2.2.2.2.2⟩, (ne 0 (by omega) (by omega) _).trans h.pa, h.lx.fr (ne 1 (by omega) (by omega) _) (ne 2 (by omega) (by omega) _), h.sn.fr (ne 3 (by omega) (by omega) _) (ne 8 (by omega) (by omega) _) (ne 9 (by omega) (by omega) _) (ne 10 (by omega) (by omega) _), ⟨hu_self h.tn.1, (ne 11 (by omega) (by omega) _).trans h.tn.2.1, (ne 12 (by omega) (by omega) _).trans h.tn.2.2.1, (ne 13 (by omega) (by omega) _).trans h.tn.2.2.2⟩, (ne 5 (by omega) (by omega) _).trans h.dr, h.pi.fr (ne 6 (by omega) (by omega) _) (ne 14 (by omega) (by omega) _) (ne 15 (by omega) (by omega) _) (ne 16 (by omega) (by omega) _) (ne 17 (by omega) (by omega) _) (ne 18 (by omega) (by omega) _), ⟨h.al.fr (ne 7 (by omega) (by omega) _) (fun z => hu_ne (h.el_ne z h.tn.1 (fun _ _ _ z => by cases z))), h.a19⟩, h.nd.fr (fun i hi => hu_ne (h.nd_ne hi h.tn.1 (fun _ z => by cases z))), h.rm⟩
  intro b hb
  have := h.st.2.2.1 4 (by omega)
  rw [hu_ne (by omega)]
  exact h.st.2.2.2.1 b hb
theorem RM_ts (r : RM M C B n f Q j b u w) {v : Int32} (v0 : 0 ≤ v.toInt) (v1 : v.toInt ≤ (M.1 19).toInt) : RM (md_i M 19 v) C B n f (q1 Q 10 v) j b u w := by
  obtain ⟨r1, r2, r3, r4, r5, nm, ⟨tr0, ⟨tr1, tr2, tr3, tr4⟩, tr5, tr6⟩, op, pi, bb⟩ := r
  exact ⟨r1, r2, r3, r4, r5, nm, ⟨rfl, ⟨v0, by show v.toInt ≤ (M.1 11).toInt; omega, by show v.toInt ≤ (Q 9).toInt; omega, tr4⟩, tr5, fun k (hk : k < v.toInt.toNat) => tr6 k (by omega)⟩, op, pi, bb⟩
theorem RM_ss (r : RM M C B n f Q j b u w) {v : Int32} (v0 : 0 ≤ v.toInt) (v1 : v.toInt ≤ (M.1 18).toInt) : RM (md_i M 18 v) C B n f (q1 Q 8 v) j b u w := by
  obtain ⟨r1, r2, r3, r4, r5, ⟨⟨q7, q8⟩, ⟨n1, n2, n3⟩, n4, n5⟩, tr, op, pi, bb⟩ := r
  exact ⟨r1, r2, r3, r4, r5, ⟨⟨q7, rfl⟩, ⟨v0, by show v.toInt ≤ (M.1 15).toInt; omega, n3⟩, n4, fun k (hk : k < v.toInt.toNat) => n5 k (by omega)⟩, tr, op, pi, bb⟩
/-- one trap more in the reference -/
noncomputable def mBt (M : md_S) : md_S := md_i (md_a (md_a (md_a (md_i M 20 (M.1 20 + 1)) 24 (M.1 19).toInt.toNat (M.1 7)) 25 (M.1 19).toInt.toNat (M.1 4 - M.1 7)) 26 (M.1 19).toInt.toNat (M.1 20 + 1)) 19 (M.1 19 + 1)
theorem RM_bt (r : RM M C B n f Q j b u w) (hb : b ≤ (M.1 7).toInt) (hj : j = 31) (ho : (M.1 19).toInt < (M.1 11).toInt) {c : Nat} {xf xe xs : Nat → Int32} (g5 : (Q 9).toInt < (c : Int)) (g6 : c = C 1 ∨ (c = 2 * C 1 ∧ (Q 9).toInt = (C 1 : Int))) (g7 : ∀ i, i < (Q 9).toInt.toNat → xf i = B 3 i ∧ xe i = B 4 i) (g8 : xf (Q 9).toInt.toNat = Q 3) (g9 : xe (Q 9).toInt.toNat = Q 4 - Q 3) (g10 : ∀ i, i < (Q 10).toInt.toNat → xs i = B 5 i) (g11 : xs (Q 10).toInt.toNat = Q 9) : RM (mBt M) (c1 C 1 c) (b3 B 3 xf xe xs) n f (q1 (q1 Q 9 (Q 9 + 1)) 10 (Q 10 + 1)) j (M.1 4).toInt u w := by
  obtain ⟨r1, ⟨r2, r3, r4⟩, ⟨q3, q4', q5, q6⟩, r5, ⟨⟨p1, p2, p3⟩, p4⟩, nm, ⟨q10, ⟨t1, t2, t3, t4⟩, t5, t6⟩, ⟨op0, op1, op2⟩, pi, ⟨⟨b1, b2, b3'⟩, bb⟩, c0, ⟨c1', c2'⟩, c3⟩ := r
  rw [q10] at g10 g11
  have tl : tln 31 = 1 := rfl
  rw [hj, tl] at r4
  have hn' : (n : Int) ≤ 32768 := by have := r1.1; omega
  have e9 : (Q 9 + 1).toInt = (Q 9).toInt + 1 := by rw [i_addS (by rw [il_1]; omega), il_1]
  have e19 : (M.1 19 + 1).toInt = (M.1 19).toInt + 1 := by rw [i_addS (by rw [il_1]; omega), il_1]
  have ed : (M.1 4 - M.1 7).toInt = (M.1 4).toInt - (M.1 7).toInt := i_subS (by omega)
  refine ⟨r1, ⟨r2, r3, by rw [hj, tl]; exact r4⟩, ⟨q3, q4', q5, q6⟩, r5, ⟨⟨p1, p2, p3⟩, p4⟩, nm, ⟨congrArg (· + 1) q10, ?_⟩, ⟨op0, op1, op2⟩, pi, ?_, c0, ?_, c3⟩
  · show trR (M.1 19 + 1) (M.1 11) (Q 9 + 1) (upd (M.2.1 24) (M.1 19).toInt.toNat (M.1 7)) (upd (M.2.1 25) (M.1 19).toInt.toNat (M.1 4 - M.1 7)) n c xf xe xs
    refine ⟨⟨by omega, by omega, by omega, by omega⟩, fun k hk => ?_, fun k hk => ?_⟩
    · by_cases e : k = (Q 9).toInt.toNat
      · rw [e, g8, g9, q3, q4']
        exact ⟨by omega, by omega, by omega⟩
      · rw [(g7 k (by omega)).1, (g7 k (by omega)).2]
        exact t5 k (by omega)
    · by_cases e : k = (M.1 19).toInt.toNat
      · rw [e, upd_s, upd_s, g11, g8, g9, q3, q4']
        exact ⟨⟨by omega, by omega⟩, rfl, rfl⟩
      · obtain ⟨⟨y1, y2⟩, y3, y4⟩ := t6 k (by omega)
        rw [upd_n e, upd_n e, g10 k (by omega), (g7 _ (by omega)).1, (g7 _ (by omega)).2]
        exact ⟨⟨y1, by omega⟩, y3, y4⟩
  · show ((M.1 4).toInt ≤ (M.1 4).toInt ∧ 2 * (M.1 15).toInt ≤ (M.1 4).toInt + 1 ∧ (Q 9 + 1).toInt ≤ (M.1 4).toInt) ∧ _
    exact ⟨⟨by omega, by omega, by omega⟩, bb⟩
  · show 4 ≤ c ∧ (c : Int) ≤ 2 * (Q 9 + 1).toInt + 4
    omega
theorem EOK_cons {E : List (Int32 × Int32)} {s tm : Int32} (h : EOK E s tm) (hl : E.length < 24) (hs : s.toInt ≤ 100000) (ht : tm.toInt ≤ 100000) : EOK ((tm, s + 1) :: E) (s + 1) (tm + 1) := by
  obtain ⟨⟨a1, a2⟩, a3, a4, a5, a6⟩ := h
  have es : (s + 1).toInt = s.toInt + 1 := by rw [i_addS (by rw [il_1]; omega), il_1]
  have et : (tm + 1).toInt = tm.toInt + 1 := by rw [i_addS (by rw [il_1]; omega), il_1]
  refine ⟨⟨by omega, by omega⟩, by show E.length + 1 ≤ 24; omega, fun p hp => ?_, ?_, ?_⟩
  · rcases List.mem_cons.mp hp with rfl | hp
    · exact ⟨⟨a2, by show tm.toInt < _; omega⟩, by show 0 < (s + 1).toInt; omega, Int.le_refl _⟩
    · have := a4 p hp
      omega
  · show (tm :: E.map Prod.fst).Nodup
    refine List.nodup_cons.mpr ⟨fun z => ?_, a5⟩
    obtain ⟨p, hp, e⟩ := List.mem_map.mp z
    have := (a4 p hp).1
    rw [e] at this
    omega
  · show ((s + 1) :: E.map Prod.snd).Nodup
    refine List.nodup_cons.mpr ⟨fun z => ?_, a6⟩
    obtain ⟨p, hp, e⟩ := List.mem_map.mp z
    have := (a4 p hp).2
    rw [e] at this
    omega
end SCP
