/-! judge beside the reference's verdict -/
abbrev lgT (M : md_S) (T : tT) (xx : Nat → Int32) : Prop := 31 < (M.1 16).toInt ∨ 31 < (M.1 17).toInt ∨ 400 < (M.1 15).toInt ∨ 200 < pas T ∨ 1000 < tsm xx T ∨ 8 < dmx T 0 ∨ 1200 < wsm T 1
def jV (M : md_S) (T : tT) (xx : Nat → Int32) : Int32 := if (M.1 13).toInt < 32768 then 4 + 8 * M.1 14 else if lgT M T xx then 6 else 0
section JD2
variable {G : hg_E} {sz t0' : Nat} {H0 : Nat → Option va_E} {K1 K2 n : Nat} {f : Nat → Int32} {S : hg_S} {A C : Nat → Nat} {B : Nat → Nat → Int32} {Q : Nat → Int32} {j : Nat} {el : Nat → Option Nat} {P : Nat → Nat} {ND : Nat → ndT} {M : md_S} {b u w p0 : Int} {T : tT} {i : Nat} {I : List Nat} {V : Int32 → Prop} {c l0 : Int32} {m0 m1 : Int}
theorem judge_l (v : PV G t0' H0 K1 K2 n f S A C B Q j el P ND) (r : RM M C B n f Q j b u w) (hK : 40 * n + 70 ≤ K1 ∧ 200 * n + 400 ≤ K2) (hi : i + 1 = (Q 12).toInt.toNat) (hT : repC ND T i I) (cv : cov I 0 (Q 12).toInt.toNat) (fg : FG (pOk (B 6) (B 7) (B 9) 0 (Q 11).toInt) (B 9) V T 80026 (Q 11).toInt m0 m1) (bu : BU [] 0 0 32768 l0 p0 T c (M.1 20) (Q 9) (M.1 13) (M.1 14) (M.1 7).toInt) (hln : (M.1 13).toInt < 32768 → 1 ≤ (M.1 14).toInt) (h0 : Q 0 = M.1 16) (h1 : Q 1 = M.1 17) : dc_wp (hm_PA_judge G S (A 0)) (fun z => z.2 = jV M T (B 9) ∧ ∃ F D, DV G z.1 (A 5) (A 6) (A 7) P (Q 12).toInt.toNat (fun i => (ND i).2.2.1) (fun i => (ND i).2.2.2.1) (A 17) (C 2) (B 9) F D ∧ frS P (Q 12).toInt.toNat (A 5) S z.1 (Q 9).toInt.toNat ∧ sTo ND (B 9) (Q 12).toInt.toNat T i I F D) := by
  have hn : (n : Int) ≤ 32768 := by have := r.1.1; omega
  have pp := r.2.2.2.2.1.1
  have q7 : Q 7 = M.1 15 := r.2.2.2.2.2.1.1.1
  delta hm_PA_judge
  refine wq_gr (x := some (A 5)) v.pa rfl ?_
  refine wq_gr (x := some (A 4)) v.pa rfl ?_
  refine wq_gi (x := Q 9) v.tn.1 rfl ?_
  refine wq_chk v.dr ?_
  refine wq_call (settle_t v r hK hi hT cv fg bu) ?_
  rintro S' ⟨F, D, w1, fr, st⟩
  have st0 := st
  obtain ⟨-, -, -, P1, P2, d2, d3, d4, d5⟩ := st
  have cI' : ∀ k, k < (Q 12).toInt.toNat → k ∈ I := fun k hk => (cv.1 k).mpr ⟨by omega, hk⟩
  have cI : ∀ k, k ∈ I → k < (Q 12).toInt.toNat := fun k hk => ((cv.1 k).mp hk).2
  have hpa : hg_at S'.1 (A 0) = some (.inr (4, [.ref (A 1), .ref (A 3), .ref (A 4), .ref (A 5), .int (Q 0), .int (Q 1), .int (Q 2)])) := (fr.2 (A 0) (fun k hk => (v.nd_ne hk v.pa (fun _ z => by cases z)).symm) (v.st.2.1.ne (by omega) (by omega) (by omega)) (by have := v.st.1.lt v.pa; omega)).trans v.pa
  have hsn : hg_at S'.1 (A 3) = hg_at S.1 (A 3) := fr.2 (A 3) (fun k hk => (v.nd_ne hk v.sn.1 (fun _ z => by cases z)).symm) (v.st.2.1.ne (by omega) (by omega) (by omega)) (by have := v.st.1.lt v.sn.1; omega)
  refine wq_gr (x := some (A 5)) hpa rfl ?_
  refine wq_chk w1.2.1 ?_
  refine wq_call (empty_w w1) ?_
  obtain ⟨-, -, ⟨-, b3⟩, -⟩ := bu
  have bb := b3 rfl
  have fin : ∀ y : Int32, y = jV M T (B 9) → dc_wp (some (S', y)) (fun z : hg_S × Int32 => z.2 = jV M T (B 9) ∧ ∃ F D, DV G z.1 (A 5) (A 6) (A 7) P (Q 12).toInt.toNat (fun i => (ND i).2.2.1) (fun i => (ND i).2.2.2.1) (A 17) (C 2) (B 9) F D ∧ frS P (Q 12).toInt.toNat (A 5) S z.1 (Q 9).toInt.toNat ∧ sTo ND (B 9) (Q 12).toInt.toNat T i I F D) := fun y hy => ⟨_, rfl, hy, F, D, w1, fr, st0⟩
  rintro z (⟨ez, no⟩ | ⟨jj, j1, j2, j3, j4⟩)
  · have fe : feP T [] none := by
      rcases P2.2 with ⟨y, -⟩ | ⟨y, y1, y2, -⟩
      · exact y
      · exact absurd y2 (no y (cI y y1))
    have e13 : M.1 13 = 32768 := by
      rcases bb with ⟨-, y⟩ | ⟨y, y1, -⟩
      · exact y
      · have := feP_uni T [] _ _ fe y1
        cases this
    have n13 : ¬ (M.1 13).toInt < 32768 := by
      rw [e13]
      decide
    have jn : jV M T (B 9) = if lgT M T (B 9) then 6 else 0 := if_neg n13
    rw [if_pos ez]
    have z31 : (31 : Int32).toInt = 31 := by decide
    have z400 : (400 : Int32).toInt = 400 := by decide
    have yes : lgT M T (B 9) → dc_wp (hm_PA_judge_L75 G S' (A 0)) (fun z : hg_S × Int32 => z.2 = jV M T (B 9) ∧ ∃ F D, DV G z.1 (A 5) (A 6) (A 7) P (Q 12).toInt.toNat (fun i => (ND i).2.2.1) (fun i => (ND i).2.2.2.1) (A 17) (C 2) (B 9) F D ∧ frS P (Q 12).toInt.toNat (A 5) S z.1 (Q 9).toInt.toNat ∧ sTo ND (B 9) (Q 12).toInt.toNat T i I F D) := fun lg => fin 6 (by rw [jn, if_pos lg])
    refine wq_gi (x := Q 0) hpa rfl ?_
    refine wq_if (fun y => ?_) (fun y0 => ?_)
    · have y := i_lt.mp y
      rw [h0, z31] at y
      exact yes (Or.inl y)
    have y0 : ¬ 31 < (M.1 16).toInt := fun t => y0 (i_lt.mpr (by rw [h0, z31]; exact t))
    refine wq_gi (x := Q 1) hpa rfl ?_
    refine wq_if (fun y => ?_) (fun y1 => ?_)
    · have y := i_lt.mp y
      rw [h1, z31] at y
      exact yes (Or.inr (Or.inl y))
    have y1 : ¬ 31 < (M.1 17).toInt := fun t => y1 (i_lt.mpr (by rw [h1, z31]; exact t))
    refine wq_gr (x := some (A 3)) hpa rfl ?_
    refine wq_gi (x := Q 7) (hsn.trans v.sn.1) rfl ?_
    refine wq_if (fun y => ?_) (fun y2 => ?_)
    · have y := i_lt.mp y
      rw [q7, z400] at y
      exact yes (Or.inr (Or.inr (Or.inl y)))
    have y2 : ¬ 400 < (M.1 15).toInt := fun t => y2 (i_lt.mpr (by rw [q7, z400]; exact t))
    refine wq_gr (x := some (A 5)) hpa rfl ?_
    refine wq_chk w1.2.1 ?_
    rw [large_w w1, Option.bind_some]
    have lge : (200 < D 3 ∨ 1000 < D 4 ∨ 8 < D 5 ∨ 1200 < D 2) ↔ (200 < pas T ∨ 1000 < tsm (B 9) T ∨ 8 < dmx T 0 ∨ 1200 < wsm T 1) := by
      rw [i_lt, i_lt, i_lt, i_lt, d2, d3, d4, d5, show (200 : Int32).toInt = 200 by decide, show (1000 : Int32).toInt = 1000 by decide, show (8 : Int32).toInt = 8 by decide, show (1200 : Int32).toInt = 1200 by decide]
    by_cases lg : (200 < D 3 ∨ 1000 < D 4 ∨ 8 < D 5 ∨ 1200 < D 2)
    · rw [if_pos lg, if_neg (show ¬ (1 : Int32) = 0 by decide)]
      exact yes (Or.inr (Or.inr (Or.inr (lge.mp lg))))
    · rw [if_neg lg, if_pos rfl]
      refine fin 0 ?_
      rw [jn, if_neg]
      rintro (t | t | t | t)
      · exact y0 t
      · exact y1 t
      · exact y2 t
      · exact lg (lge.mpr t)
  · have key : z = M.1 14 ∧ (M.1 13).toInt < 32768 := by
      rcases P2.2 with ⟨-, y⟩ | ⟨y, y1, y2, y3, y4⟩
      · exact absurd j2 (y jj (cI' jj j1))
      · have e1 := j4 y (cI y y1) y2
        have e2 := y4 jj (cI' jj j1) j2
        have ej : jj = y := P1.2.1 jj y (cI' jj j1) y1 (by omega)
        subst ej
        rcases bb with ⟨t, -⟩ | ⟨t, t1, t2, t3, t4⟩
        · have := feP_uni T [] _ _ t y3
          cases this
        · have e := Option.some.inj (feP_uni T [] _ _ t1 y3)
          exact ⟨by rw [j3, ← e, t2], by omega⟩
    obtain ⟨k1, k2⟩ := key
    have := hln k2
    rw [if_neg (fun t => by
      rw [k1] at t
      rw [t, show (-1 : Int32).toInt = -1 by decide] at this
      omega)]
    refine fin _ ?_
    rw [k1]
    exact (if_pos k2).symm
end JD2
