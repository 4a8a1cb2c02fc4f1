/-! the class's react beside the reference's -/
section REA
variable {G : hg_E} {E : rvP} {M : md_S} {names : Int32} {kk ff ss xx : Nat → Int32} {m n ps sg pa : Nat} {T : tT} {S : hg_S} {q : rsT} {ins io inst hA : Nat} {hf F3 : Nat → Int32} {x1 p : Int32} {r : md_S × Int32}
theorem wm_0 : ∀ (T : tT) (w : Int), 0 ≤ w → 0 ≤ wsm T w
  | .const _, w, h => h
  | .unary x A, w, h => by
    have h1 := wm_0 A (w + if (lT x).1 = 6 then 1 else 0) (by have := @b01 ((lT x).1 = 6) _; omega)
    show 0 ≤ w + wsm A (w + if (lT x).1 = 6 then 1 else 0)
    omega
  | .binary x A B, w, h => by
    have h1 := wm_0 A (w + if (lT x).1 = 6 then 1 else 0) (by have := @b01 ((lT x).1 = 6) _; omega)
    have h2 := wm_0 B (w + if (lT x).1 = 5 then 1 else 0) (by have := @b01 ((lT x).1 = 5) _; omega)
    show 0 ≤ w + (wsm A (w + if (lT x).1 = 6 then 1 else 0) + wsm B (w + if (lT x).1 = 5 then 1 else 0))
    omega
  | .nodeWithAntiquot .., w, h => h
  | .node .., w, h => h
  | .trailingNode .., w, h => h
  | .symbol .., w, h => h
  | .nonReservedSymbol .., w, h => h
  | .cat .., w, h => h
  | .parser .., w, h => h
  | .sepBy .., w, h => h
  | .sepBy1 .., w, h => h
  | .unicodeSymbol .., w, h => h
theorem inB_g {x : Int32} : ∀ j, j < 31 → gb ((Int32.toUInt32 x >>> (Int32.toUInt32 (Int32.ofNat j) &&& Int32.toUInt32 31)).toInt32) 0 = gb x j
  | 0, _ => by
    show (x.toBitVec.ushiftRight 0).getLsbD 0 = _
    exact BitVec.getLsbD_ushiftRight ..
  | 1, _ => by
    show (x.toBitVec.ushiftRight 1).getLsbD 0 = _
    exact BitVec.getLsbD_ushiftRight ..
  | 2, _ => by
    show (x.toBitVec.ushiftRight 2).getLsbD 0 = _
    exact BitVec.getLsbD_ushiftRight ..
  | 3, _ => by
    show (x.toBitVec.ushiftRight 3).getLsbD 0 = _
    exact BitVec.getLsbD_ushiftRight ..
  | 4, _ => by
    show (x.toBitVec.ushiftRight 4).getLsbD 0 = _
    exact BitVec.getLsbD_ushiftRight ..
  | 5, _ => by
    show (x.toBitVec.ushiftRight 5).getLsbD 0 = _
    exact BitVec.getLsbD_ushiftRight ..
  | 6, _ => by
    show (x.toBitVec.ushiftRight 6).getLsbD 0 = _
    exact BitVec.getLsbD_ushiftRight ..
  | 7, _ => by
    show (x.toBitVec.ushiftRight 7).getLsbD 0 = _
    exact BitVec.getLsbD_ushiftRight ..
  | 8, _ => by
    show (x.toBitVec.ushiftRight 8).getLsbD 0 = _
    exact BitVec.getLsbD_ushiftRight ..
  | 9, _ => by
    show (x.toBitVec.ushiftRight 9).getLsbD 0 = _
    exact BitVec.getLsbD_ushiftRight ..
  | 10, _ => by
    show (x.toBitVec.ushiftRight 10).getLsbD 0 = _
    exact BitVec.getLsbD_ushiftRight ..
  | 11, _ => by
    show (x.toBitVec.ushiftRight 11).getLsbD 0 = _
    exact BitVec.getLsbD_ushiftRight ..
  | 12, _ => by
    show (x.toBitVec.ushiftRight 12).getLsbD 0 = _
    exact BitVec.getLsbD_ushiftRight ..
  | 13, _ => by
    show (x.toBitVec.ushiftRight 13).getLsbD 0 = _
    exact BitVec.getLsbD_ushiftRight ..
  | 14, _ => by
    show (x.toBitVec.ushiftRight 14).getLsbD 0 = _
    exact BitVec.getLsbD_ushiftRight ..
  | 15, _ => by
    show (x.toBitVec.ushiftRight 15).getLsbD 0 = _
    exact BitVec.getLsbD_ushiftRight ..
  | 16, _ => by
    show (x.toBitVec.ushiftRight 16).getLsbD 0 = _
    exact BitVec.getLsbD_ushiftRight ..
  | 17, _ => by
    show (x.toBitVec.ushiftRight 17).getLsbD 0 = _
    exact BitVec.getLsbD_ushiftRight ..
  | 18, _ => by
    show (x.toBitVec.ushiftRight 18).getLsbD 0 = _
    exact BitVec.getLsbD_ushiftRight ..
  | 19, _ => by
    show (x.toBitVec.ushiftRight 19).getLsbD 0 = _
    exact BitVec.getLsbD_ushiftRight ..
  | 20, _ => by
    show (x.toBitVec.ushiftRight 20).getLsbD 0 = _
    exact BitVec.getLsbD_ushiftRight ..
  | 21, _ => by
    show (x.toBitVec.ushiftRight 21).getLsbD 0 = _
    exact BitVec.getLsbD_ushiftRight ..
  | 22, _ => by
    show (x.toBitVec.ushiftRight 22).getLsbD 0 = _
    exact BitVec.getLsbD_ushiftRight ..
  | 23, _ => by
    show (x.toBitVec.ushiftRight 23).getLsbD 0 = _
    exact BitVec.getLsbD_ushiftRight ..
  | 24, _ => by
    show (x.toBitVec.ushiftRight 24).getLsbD 0 = _
    exact BitVec.getLsbD_ushiftRight ..
  | 25, _ => by
    show (x.toBitVec.ushiftRight 25).getLsbD 0 = _
    exact BitVec.getLsbD_ushiftRight ..
  | 26, _ => by
    show (x.toBitVec.ushiftRight 26).getLsbD 0 = _
    exact BitVec.getLsbD_ushiftRight ..
  | 27, _ => by
    show (x.toBitVec.ushiftRight 27).getLsbD 0 = _
    exact BitVec.getLsbD_ushiftRight ..
  | 28, _ => by
    show (x.toBitVec.ushiftRight 28).getLsbD 0 = _
    exact BitVec.getLsbD_ushiftRight ..
  | 29, _ => by
    show (x.toBitVec.ushiftRight 29).getLsbD 0 = _
    exact BitVec.getLsbD_ushiftRight ..
  | 30, _ => by
    show (x.toBitVec.ushiftRight 30).getLsbD 0 = _
    exact BitVec.getLsbD_ushiftRight ..
  | n + 31, h => absurd h (by omega)
theorem inB_a {x : Int32} {j : Nat} (hj : j < 31) : gb (x >>> (Int32.ofNat j &&& (31 : Int32))) 0 = gb x j := by
  show (x.toBitVec.sshiftRight ((Int32.ofNat j &&& 31).toBitVec.smod 32).toNat).getLsbD 0 = _
  have e : ∀ j : Nat, j < 31 → ((Int32.ofNat j &&& 31).toBitVec.smod 32).toNat = j := by decide +kernel
  rw [e j hj, BitVec.getLsbD_sshiftRight, if_pos (show j + 0 < 32 by omega)]
  show (!decide (32 ≤ 0) && x.toBitVec.getLsbD (j + 0)) = x.toBitVec.getLsbD j
  rw [Nat.add_zero]
  rfl
/-- an input's bit, on both sides -/
theorem inB_s {x : Int32} {j : Nat} (hj : j < 31) : inB x j = (x >>> (Int32.ofNat j &&& (31 : Int32))) &&& 1 := by
  unfold inB
  refine gb_eq (fun k hk => ?_)
  rw [gb_and, gb_and, gb_1]
  by_cases e : k = 0
  · subst e
    rw [inB_g j hj, inB_a hj]
  · rw [decide_eq_false e, Bool.and_false, Bool.and_false]
end REA
