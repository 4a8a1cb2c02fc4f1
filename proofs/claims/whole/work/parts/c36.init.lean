/-! the reference's constructor, told -/
def hg_newl (G : hg_E) (S : hg_S) (n : Int32) : Option hg_S := if ¬ n < 0 ∧ 1 ≤ S.2.2.1 ∧ n.toNatClampNeg ≤ S.2.2.2 ∧ n.toNatClampNeg * 8 ≤ 536870912 then some (S.1 ++ [(S.2.1, .inl (G.1 4, n.toNatClampNeg, .inr (.inl (fun _ => 0))))], S.2.1 + 1, S.2.2.1 - 1, S.2.2.2 - n.toNatClampNeg) else none
section HGL
variable {X : dc_X} {l : Launch} {R : Room} {D : va_G} {G : hg_E} {cc : ByteArray} {nL pc : Nat} {own : String} {S : hg_S} {lv : List (Nat × Value)} {st : List Value}
theorem hg_rnewl (hC : hg_K X D G cc nL own) (harr : Cond.arrayClass .long ∈ tt) {n : Int32} {τ : Type} {E : hg_S → Option τ} {F : τ → Prop} (d : decode cc pc = .ok (.newarray .long, 2)) (h : dc_wp ((hg_newl G S n).bind E) F) (kk : ∀ S1, dc_wp (E S1) F → hg_G X l R D nL S1 (pc + 2) lv (va_rf (some S.2.1) :: st)) : hg_G X l R D nL S pc lv (.int n :: st) := by
  obtain ⟨S1, h1, h2⟩ := dc_bind h
  unfold hg_newl at h1
  by_cases hr : ¬ n < 0 ∧ 1 ≤ S.2.2.1 ∧ n.toNatClampNeg ≤ S.2.2.2 ∧ n.toNatClampNeg * 8 ≤ 536870912
  · rw [if_pos hr] at h1
    have e1 := Option.some.inj h1
    subst e1
    have kk2 := kk _ h2
    obtain ⟨p, e, s, m, args, below, meth, c, Q, A⟩ := X
    obtain ⟨hx, hb, hml, hown, hts, hK, hE, hA⟩ := hC
    intro H locs ls hh hl
    obtain ⟨hP, hD, hS, hz, hcz, hle1, hle2⟩ := hh
    have hmul : n.toNatClampNeg * componentBytes (newarray.typeOf .long) ≤ 536870912 := hr.2.2.2
    refine va_newaK (atype := .long) hx hb (hts _ harr) rfl d rfl hr.1 rfl hmul (by omega) (by omega) hz fun H1 cA e1 z1 o1 hAr hNm => ?_
    have hcA : cA = G.1 4 := Option.some.inj (hNm.symm.trans (hK.2 4 _ rfl).2)
    subst hcA
    have ho : ∀ q : Nat, q < H.size → H1[q]? = H[q]? := fun q hq => o1 q (by rw [← hz]; exact hq)
    have hk : ∀ (k : Nat) (x : Nat × va_E), S.1[k]? = some x → H1[x.1]? = H[x.1]? := fun k x hx => ho x.1 ((hP k x hx).lt)
    have e2 : R.cells - S.2.2.1 + 1 = R.cells - (S.2.2.1 - 1) := by omega
    have e3 : R.slots - S.2.2.2 + n.toNatClampNeg = R.slots - (S.2.2.2 - n.toNatClampNeg) := by omega
    rw [e2, e3]
    refine kk2 H1 locs ls ⟨(hP.kept hk).app (fun k x hx => ?_), hD.push hP hz.symm (hA _ (by rw [← hz]; exact hS.1)), ⟨Nat.le_trans hS.1 (by omega), fun x h1 h2 => (ho x (Nat.lt_of_lt_of_le h1 hS.1)).trans (hS.2.1 x h1 h2), hS.2.2⟩, z1, ?_, ?_, ?_⟩ hl
    · have hz2 : k < 1 := (List.getElem?_eq_some_iff.mp hx).1
      rw [show k = 0 by omega] at hx
      cases hx
      show H1[S.2.1]? = some (vp_cell _ _)
      rw [e1]
      rfl
    · show S.2.1 + 1 + (S.2.2.1 - 1) = _; omega
    · show S.2.2.1 - 1 ≤ _; omega
    · show S.2.2.2 - n.toNatClampNeg ≤ _; omega
  · rw [if_neg hr] at h1; cases h1
end HGL
/-! words that the walks use, each by its place; written by wip/gen -/
theorem fp_SignalEngineModel_10 : hg_FP "SignalEngineModel" 10 1 1 true (.array .byte) := ⟨R_MD, F_MD, 107, t_MD, rfl, by decide, i_MD, t_MD_ok, n_MD, rfl, (fun _ => rfl), by decide +kernel, Or.inl w_1563⟩
theorem fp_SignalEngineModel_14 : hg_FP "SignalEngineModel" 14 1 21 true (.array .int) := ⟨R_MD, F_MD, 107, t_MD, rfl, by decide, i_MD, t_MD_ok, n_MD, rfl, (fun _ => rfl), by decide +kernel, Or.inl w_1583⟩
theorem fp_SignalEngineModel_18 : hg_FP "SignalEngineModel" 18 1 22 true (.array .int) := ⟨R_MD, F_MD, 107, t_MD, rfl, by decide, i_MD, t_MD_ok, n_MD, rfl, (fun _ => rfl), by decide +kernel, Or.inl w_1584⟩
theorem fp_SignalEngineModel_21 : hg_FP "SignalEngineModel" 21 1 23 true (.array .int) := ⟨R_MD, F_MD, 107, t_MD, rfl, by decide, i_MD, t_MD_ok, n_MD, rfl, (fun _ => rfl), by decide +kernel, Or.inl w_1585⟩
theorem fp_SignalEngineModel_24 : hg_FP "SignalEngineModel" 24 1 24 true (.array .int) := ⟨R_MD, F_MD, 107, t_MD, rfl, by decide, i_MD, t_MD_ok, n_MD, rfl, (fun _ => rfl), by decide +kernel, Or.inl w_1586⟩
theorem fp_SignalEngineModel_27 : hg_FP "SignalEngineModel" 27 1 25 true (.array .int) := ⟨R_MD, F_MD, 107, t_MD, rfl, by decide, i_MD, t_MD_ok, n_MD, rfl, (fun _ => rfl), by decide +kernel, Or.inl w_1587⟩
theorem fp_SignalEngineModel_30 : hg_FP "SignalEngineModel" 30 1 26 true (.array .int) := ⟨R_MD, F_MD, 107, t_MD, rfl, by decide, i_MD, t_MD_ok, n_MD, rfl, (fun _ => rfl), by decide +kernel, Or.inl w_1588⟩
theorem fp_SignalEngineModel_33 : hg_FP "SignalEngineModel" 33 1 30 true (.array .int) := ⟨R_MD, F_MD, 107, t_MD, rfl, by decide, i_MD, t_MD_ok, n_MD, rfl, (fun _ => rfl), by decide +kernel, Or.inl w_1592⟩
theorem fp_SignalEngineModel_36 : hg_FP "SignalEngineModel" 36 1 31 true (.array .int) := ⟨R_MD, F_MD, 107, t_MD, rfl, by decide, i_MD, t_MD_ok, n_MD, rfl, (fun _ => rfl), by decide +kernel, Or.inl w_1593⟩
theorem fp_SignalEngineModel_39 : hg_FP "SignalEngineModel" 39 1 32 true (.array .int) := ⟨R_MD, F_MD, 107, t_MD, rfl, by decide, i_MD, t_MD_ok, n_MD, rfl, (fun _ => rfl), by decide +kernel, Or.inl w_1594⟩
theorem fp_SignalEngineModel_42 : hg_FP "SignalEngineModel" 42 1 33 true (.array .int) := ⟨R_MD, F_MD, 107, t_MD, rfl, by decide, i_MD, t_MD_ok, n_MD, rfl, (fun _ => rfl), by decide +kernel, Or.inl w_1595⟩
theorem fp_SignalEngineModel_45 : hg_FP "SignalEngineModel" 45 1 34 true (.array .int) := ⟨R_MD, F_MD, 107, t_MD, rfl, by decide, i_MD, t_MD_ok, n_MD, rfl, (fun _ => rfl), by decide +kernel, Or.inl w_1596⟩
theorem fp_SignalEngineModel_48 : hg_FP "SignalEngineModel" 48 1 35 true (.array .int) := ⟨R_MD, F_MD, 107, t_MD, rfl, by decide, i_MD, t_MD_ok, n_MD, rfl, (fun _ => rfl), by decide +kernel, Or.inl w_1597⟩
theorem fp_SignalEngineModel_51 : hg_FP "SignalEngineModel" 51 1 36 true (.array .int) := ⟨R_MD, F_MD, 107, t_MD, rfl, by decide, i_MD, t_MD_ok, n_MD, rfl, (fun _ => rfl), by decide +kernel, Or.inl w_1598⟩
theorem fp_SignalEngineModel_54 : hg_FP "SignalEngineModel" 54 1 37 true (.array .int) := ⟨R_MD, F_MD, 107, t_MD, rfl, by decide, i_MD, t_MD_ok, n_MD, rfl, (fun _ => rfl), by decide +kernel, Or.inl w_1599⟩
theorem fp_SignalEngineModel_57 : hg_FP "SignalEngineModel" 57 1 38 true (.array .int) := ⟨R_MD, F_MD, 107, t_MD, rfl, by decide, i_MD, t_MD_ok, n_MD, rfl, (fun _ => rfl), by decide +kernel, Or.inl w_1600⟩
theorem fp_SignalEngineModel_60 : hg_FP "SignalEngineModel" 60 1 39 true (.array .int) := ⟨R_MD, F_MD, 107, t_MD, rfl, by decide, i_MD, t_MD_ok, n_MD, rfl, (fun _ => rfl), by decide +kernel, Or.inl w_1601⟩
theorem fp_SignalEngineModel_63 : hg_FP "SignalEngineModel" 63 1 40 true (.array .int) := ⟨R_MD, F_MD, 107, t_MD, rfl, by decide, i_MD, t_MD_ok, n_MD, rfl, (fun _ => rfl), by decide +kernel, Or.inl w_1602⟩
theorem fp_SignalEngineModel_66 : hg_FP "SignalEngineModel" 66 1 51 true (.array .int) := ⟨R_MD, F_MD, 107, t_MD, rfl, by decide, i_MD, t_MD_ok, n_MD, rfl, (fun _ => rfl), by decide +kernel, Or.inl w_1613⟩
theorem fp_SignalEngineModel_69 : hg_FP "SignalEngineModel" 69 1 52 true (.array .int) := ⟨R_MD, F_MD, 107, t_MD, rfl, by decide, i_MD, t_MD_ok, n_MD, rfl, (fun _ => rfl), by decide +kernel, Or.inl w_1614⟩
theorem fp_SignalEngineModel_72 : hg_FP "SignalEngineModel" 72 1 53 true (.array .int) := ⟨R_MD, F_MD, 107, t_MD, rfl, by decide, i_MD, t_MD_ok, n_MD, rfl, (fun _ => rfl), by decide +kernel, Or.inl w_1615⟩
theorem fp_SignalEngineModel_75 : hg_FP "SignalEngineModel" 75 1 54 true (.array .int) := ⟨R_MD, F_MD, 107, t_MD, rfl, by decide, i_MD, t_MD_ok, n_MD, rfl, (fun _ => rfl), by decide +kernel, Or.inl w_1616⟩
theorem fp_SignalEngineModel_78 : hg_FP "SignalEngineModel" 78 1 55 true (.array .int) := ⟨R_MD, F_MD, 107, t_MD, rfl, by decide, i_MD, t_MD_ok, n_MD, rfl, (fun _ => rfl), by decide +kernel, Or.inl w_1617⟩
theorem fp_SignalEngineModel_81 : hg_FP "SignalEngineModel" 81 1 56 true (.array .int) := ⟨R_MD, F_MD, 107, t_MD, rfl, by decide, i_MD, t_MD_ok, n_MD, rfl, (fun _ => rfl), by decide +kernel, Or.inl w_1618⟩
theorem fp_SignalEngineModel_84 : hg_FP "SignalEngineModel" 84 1 57 true (.array .int) := ⟨R_MD, F_MD, 107, t_MD, rfl, by decide, i_MD, t_MD_ok, n_MD, rfl, (fun _ => rfl), by decide +kernel, Or.inl w_1619⟩
theorem fp_SignalEngineModel_87 : hg_FP "SignalEngineModel" 87 1 58 true (.array .int) := ⟨R_MD, F_MD, 107, t_MD, rfl, by decide, i_MD, t_MD_ok, n_MD, rfl, (fun _ => rfl), by decide +kernel, Or.inl w_1620⟩
theorem fp_SignalEngineModel_90 : hg_FP "SignalEngineModel" 90 1 59 true (.array .int) := ⟨R_MD, F_MD, 107, t_MD, rfl, by decide, i_MD, t_MD_ok, n_MD, rfl, (fun _ => rfl), by decide +kernel, Or.inl w_1621⟩
theorem fp_SignalEngineModel_93 : hg_FP "SignalEngineModel" 93 1 60 true (.array .int) := ⟨R_MD, F_MD, 107, t_MD, rfl, by decide, i_MD, t_MD_ok, n_MD, rfl, (fun _ => rfl), by decide +kernel, Or.inl w_1622⟩
theorem fp_SignalEngineModel_96 : hg_FP "SignalEngineModel" 96 1 61 true (.array .int) := ⟨R_MD, F_MD, 107, t_MD, rfl, by decide, i_MD, t_MD_ok, n_MD, rfl, (fun _ => rfl), by decide +kernel, Or.inl w_1623⟩
theorem fp_SignalEngineModel_99 : hg_FP "SignalEngineModel" 99 1 62 true (.array .int) := ⟨R_MD, F_MD, 107, t_MD, rfl, by decide, i_MD, t_MD_ok, n_MD, rfl, (fun _ => rfl), by decide +kernel, Or.inl w_1624⟩
theorem fp_SignalEngineModel_102 : hg_FP "SignalEngineModel" 102 1 63 true (.array .int) := ⟨R_MD, F_MD, 107, t_MD, rfl, by decide, i_MD, t_MD_ok, n_MD, rfl, (fun _ => rfl), by decide +kernel, Or.inl w_1625⟩
theorem fp_SignalEngineModel_105 : hg_FP "SignalEngineModel" 105 1 64 true (.array .int) := ⟨R_MD, F_MD, 107, t_MD, rfl, by decide, i_MD, t_MD_ok, n_MD, rfl, (fun _ => rfl), by decide +kernel, Or.inl w_1626⟩
theorem fp_SignalEngineModel_108 : hg_FP "SignalEngineModel" 108 1 65 true (.array .int) := ⟨R_MD, F_MD, 107, t_MD, rfl, by decide, i_MD, t_MD_ok, n_MD, rfl, (fun _ => rfl), by decide +kernel, Or.inl w_1627⟩
theorem fp_SignalEngineModel_111 : hg_FP "SignalEngineModel" 111 1 66 true (.array .int) := ⟨R_MD, F_MD, 107, t_MD, rfl, by decide, i_MD, t_MD_ok, n_MD, rfl, (fun _ => rfl), by decide +kernel, Or.inl w_1628⟩
theorem fp_SignalEngineModel_114 : hg_FP "SignalEngineModel" 114 1 67 true (.array .int) := ⟨R_MD, F_MD, 107, t_MD, rfl, by decide, i_MD, t_MD_ok, n_MD, rfl, (fun _ => rfl), by decide +kernel, Or.inl w_1629⟩
theorem fp_SignalEngineModel_117 : hg_FP "SignalEngineModel" 117 1 68 true (.array .byte) := ⟨R_MD, F_MD, 107, t_MD, rfl, by decide, i_MD, t_MD_ok, n_MD, rfl, (fun _ => rfl), by decide +kernel, Or.inl w_1630⟩
theorem fp_SignalEngineModel_120 : hg_FP "SignalEngineModel" 120 1 69 true (.array .int) := ⟨R_MD, F_MD, 107, t_MD, rfl, by decide, i_MD, t_MD_ok, n_MD, rfl, (fun _ => rfl), by decide +kernel, Or.inl w_1631⟩
theorem fp_SignalEngineModel_123 : hg_FP "SignalEngineModel" 123 1 70 true (.array .int) := ⟨R_MD, F_MD, 107, t_MD, rfl, by decide, i_MD, t_MD_ok, n_MD, rfl, (fun _ => rfl), by decide +kernel, Or.inl w_1632⟩
theorem fp_SignalEngineModel_126 : hg_FP "SignalEngineModel" 126 1 71 true (.array .boolean) := ⟨R_MD, F_MD, 107, t_MD, rfl, by decide, i_MD, t_MD_ok, n_MD, rfl, (fun _ => rfl), by decide +kernel, Or.inl w_1633⟩
theorem fp_SignalEngineModel_130 : hg_FP "SignalEngineModel" 130 1 72 true (.array .boolean) := ⟨R_MD, F_MD, 107, t_MD, rfl, by decide, i_MD, t_MD_ok, n_MD, rfl, (fun _ => rfl), by decide +kernel, Or.inl w_1634⟩
theorem fp_SignalEngineModel_133 : hg_FP "SignalEngineModel" 133 1 73 true (.array .int) := ⟨R_MD, F_MD, 107, t_MD, rfl, by decide, i_MD, t_MD_ok, n_MD, rfl, (fun _ => rfl), by decide +kernel, Or.inl w_1635⟩
theorem fp_SignalEngineModel_136 : hg_FP "SignalEngineModel" 136 1 74 true (.array .boolean) := ⟨R_MD, F_MD, 107, t_MD, rfl, by decide, i_MD, t_MD_ok, n_MD, rfl, (fun _ => rfl), by decide +kernel, Or.inl w_1636⟩
theorem fp_SignalEngineModel_139 : hg_FP "SignalEngineModel" 139 1 75 true (.array .boolean) := ⟨R_MD, F_MD, 107, t_MD, rfl, by decide, i_MD, t_MD_ok, n_MD, rfl, (fun _ => rfl), by decide +kernel, Or.inl w_1637⟩
theorem fp_SignalEngineModel_142 : hg_FP "SignalEngineModel" 142 1 76 true (.array .int) := ⟨R_MD, F_MD, 107, t_MD, rfl, by decide, i_MD, t_MD_ok, n_MD, rfl, (fun _ => rfl), by decide +kernel, Or.inl w_1638⟩
theorem fp_SignalEngineModel_145 : hg_FP "SignalEngineModel" 145 1 84 true (.array .int) := ⟨R_MD, F_MD, 107, t_MD, rfl, by decide, i_MD, t_MD_ok, n_MD, rfl, (fun _ => rfl), by decide +kernel, Or.inl w_1646⟩
theorem fp_SignalEngineModel_148 : hg_FP "SignalEngineModel" 148 1 88 true (.array .int) := ⟨R_MD, F_MD, 107, t_MD, rfl, by decide, i_MD, t_MD_ok, n_MD, rfl, (fun _ => rfl), by decide +kernel, Or.inl w_1650⟩
theorem fp_SignalEngineModel_151 : hg_FP "SignalEngineModel" 151 1 89 true (.array .int) := ⟨R_MD, F_MD, 107, t_MD, rfl, by decide, i_MD, t_MD_ok, n_MD, rfl, (fun _ => rfl), by decide +kernel, Or.inl w_1651⟩
theorem fp_SignalEngineModel_154 : hg_FP "SignalEngineModel" 154 1 90 true (.array .int) := ⟨R_MD, F_MD, 107, t_MD, rfl, by decide, i_MD, t_MD_ok, n_MD, rfl, (fun _ => rfl), by decide +kernel, Or.inl w_1652⟩
theorem fp_SignalEngineModel_157 : hg_FP "SignalEngineModel" 157 1 91 true (.array .int) := ⟨R_MD, F_MD, 107, t_MD, rfl, by decide, i_MD, t_MD_ok, n_MD, rfl, (fun _ => rfl), by decide +kernel, Or.inl w_1653⟩
theorem fp_SignalEngineModel_160 : hg_FP "SignalEngineModel" 160 1 92 true (.array .int) := ⟨R_MD, F_MD, 107, t_MD, rfl, by decide, i_MD, t_MD_ok, n_MD, rfl, (fun _ => rfl), by decide +kernel, Or.inl w_1654⟩
theorem fp_SignalEngineModel_163 : hg_FP "SignalEngineModel" 163 1 93 true (.array .int) := ⟨R_MD, F_MD, 107, t_MD, rfl, by decide, i_MD, t_MD_ok, n_MD, rfl, (fun _ => rfl), by decide +kernel, Or.inl w_1655⟩
theorem fp_SignalEngineModel_167 : hg_FP "SignalEngineModel" 167 1 94 true (.array .boolean) := ⟨R_MD, F_MD, 107, t_MD, rfl, by decide, i_MD, t_MD_ok, n_MD, rfl, (fun _ => rfl), by decide +kernel, Or.inl w_1656⟩
theorem fp_SignalEngineModel_171 : hg_FP "SignalEngineModel" 171 1 95 true (.array .int) := ⟨R_MD, F_MD, 107, t_MD, rfl, by decide, i_MD, t_MD_ok, n_MD, rfl, (fun _ => rfl), by decide +kernel, Or.inl w_1657⟩
theorem fp_SignalEngineModel_174 : hg_FP "SignalEngineModel" 174 1 96 true (.array .int) := ⟨R_MD, F_MD, 107, t_MD, rfl, by decide, i_MD, t_MD_ok, n_MD, rfl, (fun _ => rfl), by decide +kernel, Or.inl w_1658⟩
theorem fp_SignalEngineModel_177 : hg_FP "SignalEngineModel" 177 1 97 true (.array .int) := ⟨R_MD, F_MD, 107, t_MD, rfl, by decide, i_MD, t_MD_ok, n_MD, rfl, (fun _ => rfl), by decide +kernel, Or.inl w_1659⟩
theorem fp_SignalEngineModel_180 : hg_FP "SignalEngineModel" 180 1 98 true (.array .long) := ⟨R_MD, F_MD, 107, t_MD, rfl, by decide, i_MD, t_MD_ok, n_MD, rfl, (fun _ => rfl), by decide +kernel, Or.inl w_1660⟩
theorem fp_SignalEngineModel_184 : hg_FP "SignalEngineModel" 184 1 99 true (.array .int) := ⟨R_MD, F_MD, 107, t_MD, rfl, by decide, i_MD, t_MD_ok, n_MD, rfl, (fun _ => rfl), by decide +kernel, Or.inl w_1661⟩
theorem fp_SignalEngineModel_187 : hg_FP "SignalEngineModel" 187 1 100 true (.array .int) := ⟨R_MD, F_MD, 107, t_MD, rfl, by decide, i_MD, t_MD_ok, n_MD, rfl, (fun _ => rfl), by decide +kernel, Or.inl w_1662⟩
theorem fp_SignalEngineModel_190 : hg_FP "SignalEngineModel" 190 1 101 true (.array .int) := ⟨R_MD, F_MD, 107, t_MD, rfl, by decide, i_MD, t_MD_ok, n_MD, rfl, (fun _ => rfl), by decide +kernel, Or.inl w_1663⟩
theorem fp_SignalEngineModel_193 : hg_FP "SignalEngineModel" 193 1 102 true (.array .int) := ⟨R_MD, F_MD, 107, t_MD, rfl, by decide, i_MD, t_MD_ok, n_MD, rfl, (fun _ => rfl), by decide +kernel, Or.inl w_1664⟩
theorem fp_SignalEngineModel_196 : hg_FP "SignalEngineModel" 196 1 103 true (.array .int) := ⟨R_MD, F_MD, 107, t_MD, rfl, by decide, i_MD, t_MD_ok, n_MD, rfl, (fun _ => rfl), by decide +kernel, Or.inl w_1665⟩
theorem fp_SignalEngineModel_200 : hg_FP "SignalEngineModel" 200 1 104 true (.array .int) := ⟨R_MD, F_MD, 107, t_MD, rfl, by decide, i_MD, t_MD_ok, n_MD, rfl, (fun _ => rfl), by decide +kernel, Or.inl w_1666⟩
theorem fp_SignalEngineModel_203 : hg_FP "SignalEngineModel" 203 1 105 true (.array .boolean) := ⟨R_MD, F_MD, 107, t_MD, rfl, by decide, i_MD, t_MD_ok, n_MD, rfl, (fun _ => rfl), by decide +kernel, Or.inl w_1667⟩
noncomputable def hm_MD_init (G : hg_E) (S : hg_S) (o : Nat) : Option (hg_S) :=
  (hg_newa G S 1 32768).bind fun S1 => (hg_pf S1 (some o) 1 1 (va_rf (some S.2.1))).bind fun S2 => (hg_newa G S2 0 16400).bind fun S3 => (hg_pf S3 (some o) 1 21 (va_rf (some S2.2.1))).bind fun S4 => (hg_newa G S4 0 16400).bind fun S5 => (hg_pf S5 (some o) 1 22 (va_rf (some S4.2.1))).bind fun S6 => (hg_newa G S6 0 16400).bind fun S7 => (hg_pf S7 (some o) 1 23 (va_rf (some S6.2.1))).bind fun S8 => (hg_newa G S8 0 32).bind fun S9 => (hg_pf S9 (some o) 1 24 (va_rf (some S8.2.1))).bind fun S10 => (hg_newa G S10 0 32).bind fun S11 => (hg_pf S11 (some o) 1 25 (va_rf (some S10.2.1))).bind fun S12 => (hg_newa G S12 0 32).bind fun S13 => (hg_pf S13 (some o) 1 26 (va_rf (some S12.2.1))).bind fun S14 => (hg_newa G S14 0 1200).bind fun S15 => (hg_pf S15 (some o) 1 30 (va_rf (some S14.2.1))).bind fun S16 => (hg_newa G S16 0 1200).bind fun S17 => (hg_pf S17 (some o) 1 31 (va_rf (some S16.2.1))).bind fun S18 => (hg_newa G S18 0 1200).bind fun S19 => (hg_pf S19 (some o) 1 32 (va_rf (some S18.2.1))).bind fun S20 => (hg_newa G S20 0 1200).bind fun S21 => (hg_pf S21 (some o) 1 33 (va_rf (some S20.2.1))).bind fun S22 => (hg_newa G S22 0 1200).bind fun S23 => (hg_pf S23 (some o) 1 34 (va_rf (some S22.2.1))).bind fun S24 => (hg_newa G S24 0 1200).bind fun S25 => (hg_pf S25 (some o) 1 35 (va_rf (some S24.2.1))).bind fun S26 => (hg_newa G S26 0 1000).bind fun S27 => (hg_pf S27 (some o) 1 36 (va_rf (some S26.2.1))).bind fun S28 => (hg_newa G S28 0 1000).bind fun S29 => (hg_pf S29 (some o) 1 37 (va_rf (some S28.2.1))).bind fun S30 => (hg_newa G S30 0 1000).bind fun S31 => (hg_pf S31 (some o) 1 38 (va_rf (some S30.2.1))).bind fun S32 => (hg_newa G S32 0 1208).bind fun S33 => (hg_pf S33 (some o) 1 39 (va_rf (some S32.2.1))).bind fun S34 => (hg_newa G S34 0 1208).bind fun S35 => (hg_pf S35 (some o) 1 40 (va_rf (some S34.2.1))).bind fun S36 => (hg_newa G S36 0 1200).bind fun S37 => (hg_pf S37 (some o) 1 51 (va_rf (some S36.2.1))).bind fun S38 => (hg_newa G S38 0 1200).bind fun S39 => (hg_pf S39 (some o) 1 52 (va_rf (some S38.2.1))).bind fun S40 => (hg_newa G S40 0 1200).bind fun S41 => (hg_pf S41 (some o) 1 53 (va_rf (some S40.2.1))).bind fun S42 => (hg_newa G S42 0 1200).bind fun S43 => (hg_pf S43 (some o) 1 54 (va_rf (some S42.2.1))).bind fun S44 => (hg_newa G S44 0 1200).bind fun S45 => (hg_pf S45 (some o) 1 55 (va_rf (some S44.2.1))).bind fun S46 => (hg_newa G S46 0 1200).bind fun S47 => (hg_pf S47 (some o) 1 56 (va_rf (some S46.2.1))).bind fun S48 => (hg_newa G S48 0 1200).bind fun S49 => (hg_pf S49 (some o) 1 57 (va_rf (some S48.2.1))).bind fun S50 => (hg_newa G S50 0 1200).bind fun S51 => (hg_pf S51 (some o) 1 58 (va_rf (some S50.2.1))).bind fun S52 => (hg_newa G S52 0 1200).bind fun S53 => (hg_pf S53 (some o) 1 59 (va_rf (some S52.2.1))).bind fun S54 => (hg_newa G S54 0 1200).bind fun S55 => (hg_pf S55 (some o) 1 60 (va_rf (some S54.2.1))).bind fun S56 => (hg_newa G S56 0 1200).bind fun S57 => (hg_pf S57 (some o) 1 61 (va_rf (some S56.2.1))).bind fun S58 => (hg_newa G S58 0 1201).bind fun S59 => (hg_pf S59 (some o) 1 62 (va_rf (some S58.2.1))).bind fun S60 => (hg_newa G S60 0 1000).bind fun S61 => (hg_pf S61 (some o) 1 63 (va_rf (some S60.2.1))).bind fun S62 => (hg_newa G S62 0 1000).bind fun S63 => (hg_pf S63 (some o) 1 64 (va_rf (some S62.2.1))).bind fun S64 => (hg_newa G S64 0 1000).bind fun S65 => (hg_pf S65 (some o) 1 65 (va_rf (some S64.2.1))).bind fun S66 => (hg_newa G S66 0 1000).bind fun S67 => (hg_pf S67 (some o) 1 66 (va_rf (some S66.2.1))).bind fun S68 => (hg_newa G S68 0 1000).bind fun S69 => (hg_pf S69 (some o) 1 67 (va_rf (some S68.2.1))).bind fun S70 => (hg_newa G S70 1 12400).bind fun S71 => (hg_pf S71 (some o) 1 68 (va_rf (some S70.2.1))).bind fun S72 => (hg_newa G S72 0 400).bind fun S73 => (hg_pf S73 (some o) 1 69 (va_rf (some S72.2.1))).bind fun S74 => (hg_newa G S74 0 1662).bind fun S75 => (hg_pf S75 (some o) 1 70 (va_rf (some S74.2.1))).bind fun S76 => (hg_newa G S76 2 1662).bind fun S77 => (hg_pf S77 (some o) 1 71 (va_rf (some S76.2.1))).bind fun S78 => (hg_newa G S78 2 1662).bind fun S79 => (hg_pf S79 (some o) 1 72 (va_rf (some S78.2.1))).bind fun S80 => (hg_newa G S80 0 400).bind fun S81 => (hg_pf S81 (some o) 1 73 (va_rf (some S80.2.1))).bind fun S82 => (hg_newa G S82 2 200).bind fun S83 => (hg_pf S83 (some o) 1 74 (va_rf (some S82.2.1))).bind fun S84 => (hg_newa G S84 2 200).bind fun S85 => (hg_pf S85 (some o) 1 75 (va_rf (some S84.2.1))).bind fun S86 => (hg_newa G S86 0 201).bind fun S87 => (hg_pf S87 (some o) 1 76 (va_rf (some S86.2.1))).bind fun S88 => (hg_newa G S88 0 62).bind fun S89 => (hg_pf S89 (some o) 1 84 (va_rf (some S88.2.1))).bind fun S90 => (hg_newa G S90 0 257).bind fun S91 => (hg_pf S91 (some o) 1 88 (va_rf (some S90.2.1))).bind fun S92 => (hg_newa G S92 0 257).bind fun S93 => (hg_pf S93 (some o) 1 89 (va_rf (some S92.2.1))).bind fun S94 => (hg_newa G S94 0 257).bind fun S95 => (hg_pf S95 (some o) 1 90 (va_rf (some S94.2.1))).bind fun S96 => (hg_newa G S96 0 257).bind fun S97 => (hg_pf S97 (some o) 1 91 (va_rf (some S96.2.1))).bind fun S98 => (hg_newa G S98 0 4112).bind fun S99 => (hg_pf S99 (some o) 1 92 (va_rf (some S98.2.1))).bind fun S100 => (hg_newa G S100 0 4112).bind fun S101 => (hg_pf S101 (some o) 1 93 (va_rf (some S100.2.1))).bind fun S102 => (hg_newa G S102 2 66049).bind fun S103 => (hg_pf S103 (some o) 1 94 (va_rf (some S102.2.1))).bind fun S104 => (hg_newa G S104 0 33000).bind fun S105 => (hg_pf S105 (some o) 1 95 (va_rf (some S104.2.1))).bind fun S106 => (hg_newa G S106 0 4112).bind fun S107 => (hg_pf S107 (some o) 1 96 (va_rf (some S106.2.1))).bind fun S108 => (hg_newa G S108 0 4112).bind fun S109 => (hg_pf S109 (some o) 1 97 (va_rf (some S108.2.1))).bind fun S110 => (hg_newl G S110 8192).bind fun S111 => (hg_pf S111 (some o) 1 98 (va_rf (some S110.2.1))).bind fun S112 => (hg_newa G S112 0 8192).bind fun S113 => (hg_pf S113 (some o) 1 99 (va_rf (some S112.2.1))).bind fun S114 => (hg_newa G S114 0 40).bind fun S115 => (hg_pf S115 (some o) 1 100 (va_rf (some S114.2.1))).bind fun S116 => (hg_newa G S116 0 24000).bind fun S117 => (hg_pf S117 (some o) 1 101 (va_rf (some S116.2.1))).bind fun S118 => (hg_newa G S118 0 24000).bind fun S119 => (hg_pf S119 (some o) 1 102 (va_rf (some S118.2.1))).bind fun S120 => (hg_newa G S120 0 24000).bind fun S121 => (hg_pf S121 (some o) 1 103 (va_rf (some S120.2.1))).bind fun S122 => (hg_newa G S122 0 65536).bind fun S123 => (hg_pf S123 (some o) 1 104 (va_rf (some S122.2.1))).bind fun S124 => (hg_newa G S124 2 24000).bind fun S125 => (hg_pf S125 (some o) 1 105 (va_rf (some S124.2.1))).bind fun S126 => some S126
set_option maxHeartbeats 4000000 in
set_option maxRecDepth 100000 in
/-- SignalEngineModel.<init>()V -/
theorem hm_MD_init_ok (l : Launch) (D : va_G) (G : hg_E) (Z : hg_S) (o : Nat) (q : hg_S) (hq : hm_MD_init G Z o = some q) : hg_C l ⟨"SignalEngineModel", "<init>", "()V"⟩ prog_15_method_1_code 1 none 1 20 D G [.ref o] Z (.inl (none, q) : hg_O) := by
  refine hg_start (cv := fun q => (.inl (none, q) : hg_O)) hq ?_
  intro F hF h
  refine hg_enter (lv := [(0, va_rf (some o))]) (by decide +kernel) (by simp [lg_sl, va_rf_cat, hg_cti, hg_ctr]) (by simp [lv_args, va_rf_cat, va_rf_some, hg_cti, hg_ctr]) ?_
  intro X hC hR
  show hg_G X l (hg_rm 1 20 Z) D 1 Z 0 [(0, va_rf (some o))] []
  have h : dc_wp (hm_MD_init G Z o) F := h
  delta hm_MD_init at h
  refine hg_aloadn (pc := 0) (j := 0) (i := 0) (r := (some o)) hC 0 rfl rfl (show decode prog_15_method_1_code 0 = .ok (.aload_n 0, 1) by decide +kernel) ?_
  refine hg_oi (pc := 1) (a := o) hC w_1557 w_40 w_41 (show decode prog_15_method_1_code 1 = .ok (.invokespecial 1, 3) by decide +kernel) (Nat.le_of_ble_eq_true rfl) (Nat.le_of_ble_eq_true rfl) ?_
  refine hg_aloadn (pc := 4) (j := 0) (i := 0) (r := (some o)) hC 0 rfl rfl (show decode prog_15_method_1_code 4 = .ok (.aload_n 0, 1) by decide +kernel) ?_
  refine hg_ldc (pc := 5) (v := 32768) hC w_1558 (show decode prog_15_method_1_code 5 = .ok (.ldc 9, 2) by decide +kernel) ?_
  refine hg_rnewa (pc := 7) (t := 1) (atype := .byte) hC rfl rfl (fun _ h9 => h9) rfl (by decide) w_85 (show decode prog_15_method_1_code 7 = .ok (.newarray .byte, 2) by decide +kernel) h ?_
  intro S1 h
  refine hg_rputF (pc := 9) (r := (some o)) (v := va_rf (some Z.2.1)) hC hR fp_SignalEngineModel_10 (hg_na _).1 (hg_na _).2 (show decode prog_15_method_1_code 9 = .ok (.putfield 10, 3) by decide +kernel) h ?_
  intro S2 h
  refine hg_aloadn (pc := 12) (j := 0) (i := 0) (r := (some o)) hC 0 rfl rfl (show decode prog_15_method_1_code 12 = .ok (.aload_n 0, 1) by decide +kernel) ?_
  refine hg_sipush (pc := 13) (v := 16400) hC (show decode prog_15_method_1_code 13 = .ok (.sipush 16400, 3) by decide +kernel) (by decide +kernel) ?_
  refine hg_rnewa (pc := 16) (t := 0) (atype := .int) hC rfl rfl (fun _ h9 => h9) rfl (by decide) w_197 (show decode prog_15_method_1_code 16 = .ok (.newarray .int, 2) by decide +kernel) h ?_
  intro S3 h
  refine hg_rputF (pc := 18) (r := (some o)) (v := va_rf (some S2.2.1)) hC hR fp_SignalEngineModel_14 (hg_na _).1 (hg_na _).2 (show decode prog_15_method_1_code 18 = .ok (.putfield 14, 3) by decide +kernel) h ?_
  intro S4 h
  refine hg_aloadn (pc := 21) (j := 0) (i := 0) (r := (some o)) hC 0 rfl rfl (show decode prog_15_method_1_code 21 = .ok (.aload_n 0, 1) by decide +kernel) ?_
  refine hg_sipush (pc := 22) (v := 16400) hC (show decode prog_15_method_1_code 22 = .ok (.sipush 16400, 3) by decide +kernel) (by decide +kernel) ?_
  refine hg_rnewa (pc := 25) (t := 0) (atype := .int) hC rfl rfl (fun _ h9 => h9) rfl (by decide) w_197 (show decode prog_15_method_1_code 25 = .ok (.newarray .int, 2) by decide +kernel) h ?_
  intro S5 h
  refine hg_rputF (pc := 27) (r := (some o)) (v := va_rf (some S4.2.1)) hC hR fp_SignalEngineModel_18 (hg_na _).1 (hg_na _).2 (show decode prog_15_method_1_code 27 = .ok (.putfield 18, 3) by decide +kernel) h ?_
  intro S6 h
  refine hg_aloadn (pc := 30) (j := 0) (i := 0) (r := (some o)) hC 0 rfl rfl (show decode prog_15_method_1_code 30 = .ok (.aload_n 0, 1) by decide +kernel) ?_
  refine hg_sipush (pc := 31) (v := 16400) hC (show decode prog_15_method_1_code 31 = .ok (.sipush 16400, 3) by decide +kernel) (by decide +kernel) ?_
  refine hg_rnewa (pc := 34) (t := 0) (atype := .int) hC rfl rfl (fun _ h9 => h9) rfl (by decide) w_197 (show decode prog_15_method_1_code 34 = .ok (.newarray .int, 2) by decide +kernel) h ?_
  intro S7 h
  refine hg_rputF (pc := 36) (r := (some o)) (v := va_rf (some S6.2.1)) hC hR fp_SignalEngineModel_21 (hg_na _).1 (hg_na _).2 (show decode prog_15_method_1_code 36 = .ok (.putfield 21, 3) by decide +kernel) h ?_
  intro S8 h
  refine hg_aloadn (pc := 39) (j := 0) (i := 0) (r := (some o)) hC 0 rfl rfl (show decode prog_15_method_1_code 39 = .ok (.aload_n 0, 1) by decide +kernel) ?_
  refine hg_bipush (pc := 40) (v := 32) hC (show decode prog_15_method_1_code 40 = .ok (.bipush 32, 2) by decide +kernel) (by decide +kernel) ?_
  refine hg_rnewa (pc := 42) (t := 0) (atype := .int) hC rfl rfl (fun _ h9 => h9) rfl (by decide) w_197 (show decode prog_15_method_1_code 42 = .ok (.newarray .int, 2) by decide +kernel) h ?_
  intro S9 h
  refine hg_rputF (pc := 44) (r := (some o)) (v := va_rf (some S8.2.1)) hC hR fp_SignalEngineModel_24 (hg_na _).1 (hg_na _).2 (show decode prog_15_method_1_code 44 = .ok (.putfield 24, 3) by decide +kernel) h ?_
  intro S10 h
  refine hg_aloadn (pc := 47) (j := 0) (i := 0) (r := (some o)) hC 0 rfl rfl (show decode prog_15_method_1_code 47 = .ok (.aload_n 0, 1) by decide +kernel) ?_
  refine hg_bipush (pc := 48) (v := 32) hC (show decode prog_15_method_1_code 48 = .ok (.bipush 32, 2) by decide +kernel) (by decide +kernel) ?_
  refine hg_rnewa (pc := 50) (t := 0) (atype := .int) hC rfl rfl (fun _ h9 => h9) rfl (by decide) w_197 (show decode prog_15_method_1_code 50 = .ok (.newarray .int, 2) by decide +kernel) h ?_
  intro S11 h
  refine hg_rputF (pc := 52) (r := (some o)) (v := va_rf (some S10.2.1)) hC hR fp_SignalEngineModel_27 (hg_na _).1 (hg_na _).2 (show decode prog_15_method_1_code 52 = .ok (.putfield 27, 3) by decide +kernel) h ?_
  intro S12 h
  refine hg_aloadn (pc := 55) (j := 0) (i := 0) (r := (some o)) hC 0 rfl rfl (show decode prog_15_method_1_code 55 = .ok (.aload_n 0, 1) by decide +kernel) ?_
  refine hg_bipush (pc := 56) (v := 32) hC (show decode prog_15_method_1_code 56 = .ok (.bipush 32, 2) by decide +kernel) (by decide +kernel) ?_
  refine hg_rnewa (pc := 58) (t := 0) (atype := .int) hC rfl rfl (fun _ h9 => h9) rfl (by decide) w_197 (show decode prog_15_method_1_code 58 = .ok (.newarray .int, 2) by decide +kernel) h ?_
  intro S13 h
  refine hg_rputF (pc := 60) (r := (some o)) (v := va_rf (some S12.2.1)) hC hR fp_SignalEngineModel_30 (hg_na _).1 (hg_na _).2 (show decode prog_15_method_1_code 60 = .ok (.putfield 30, 3) by decide +kernel) h ?_
  intro S14 h
  refine hg_aloadn (pc := 63) (j := 0) (i := 0) (r := (some o)) hC 0 rfl rfl (show decode prog_15_method_1_code 63 = .ok (.aload_n 0, 1) by decide +kernel) ?_
  refine hg_sipush (pc := 64) (v := 1200) hC (show decode prog_15_method_1_code 64 = .ok (.sipush 1200, 3) by decide +kernel) (by decide +kernel) ?_
  refine hg_rnewa (pc := 67) (t := 0) (atype := .int) hC rfl rfl (fun _ h9 => h9) rfl (by decide) w_197 (show decode prog_15_method_1_code 67 = .ok (.newarray .int, 2) by decide +kernel) h ?_
  intro S15 h
  refine hg_rputF (pc := 69) (r := (some o)) (v := va_rf (some S14.2.1)) hC hR fp_SignalEngineModel_33 (hg_na _).1 (hg_na _).2 (show decode prog_15_method_1_code 69 = .ok (.putfield 33, 3) by decide +kernel) h ?_
  intro S16 h
  refine hg_aloadn (pc := 72) (j := 0) (i := 0) (r := (some o)) hC 0 rfl rfl (show decode prog_15_method_1_code 72 = .ok (.aload_n 0, 1) by decide +kernel) ?_
  refine hg_sipush (pc := 73) (v := 1200) hC (show decode prog_15_method_1_code 73 = .ok (.sipush 1200, 3) by decide +kernel) (by decide +kernel) ?_
  refine hg_rnewa (pc := 76) (t := 0) (atype := .int) hC rfl rfl (fun _ h9 => h9) rfl (by decide) w_197 (show decode prog_15_method_1_code 76 = .ok (.newarray .int, 2) by decide +kernel) h ?_
  intro S17 h
  refine hg_rputF (pc := 78) (r := (some o)) (v := va_rf (some S16.2.1)) hC hR fp_SignalEngineModel_36 (hg_na _).1 (hg_na _).2 (show decode prog_15_method_1_code 78 = .ok (.putfield 36, 3) by decide +kernel) h ?_
  intro S18 h
  refine hg_aloadn (pc := 81) (j := 0) (i := 0) (r := (some o)) hC 0 rfl rfl (show decode prog_15_method_1_code 81 = .ok (.aload_n 0, 1) by decide +kernel) ?_
  refine hg_sipush (pc := 82) (v := 1200) hC (show decode prog_15_method_1_code 82 = .ok (.sipush 1200, 3) by decide +kernel) (by decide +kernel) ?_
  refine hg_rnewa (pc := 85) (t := 0) (atype := .int) hC rfl rfl (fun _ h9 => h9) rfl (by decide) w_197 (show decode prog_15_method_1_code 85 = .ok (.newarray .int, 2) by decide +kernel) h ?_
  intro S19 h
  refine hg_rputF (pc := 87) (r := (some o)) (v := va_rf (some S18.2.1)) hC hR fp_SignalEngineModel_39 (hg_na _).1 (hg_na _).2 (show decode prog_15_method_1_code 87 = .ok (.putfield 39, 3) by decide +kernel) h ?_
  intro S20 h
  refine hg_aloadn (pc := 90) (j := 0) (i := 0) (r := (some o)) hC 0 rfl rfl (show decode prog_15_method_1_code 90 = .ok (.aload_n 0, 1) by decide +kernel) ?_
  refine hg_sipush (pc := 91) (v := 1200) hC (show decode prog_15_method_1_code 91 = .ok (.sipush 1200, 3) by decide +kernel) (by decide +kernel) ?_
  refine hg_rnewa (pc := 94) (t := 0) (atype := .int) hC rfl rfl (fun _ h9 => h9) rfl (by decide) w_197 (show decode prog_15_method_1_code 94 = .ok (.newarray .int, 2) by decide +kernel) h ?_
  intro S21 h
  refine hg_rputF (pc := 96) (r := (some o)) (v := va_rf (some S20.2.1)) hC hR fp_SignalEngineModel_42 (hg_na _).1 (hg_na _).2 (show decode prog_15_method_1_code 96 = .ok (.putfield 42, 3) by decide +kernel) h ?_
  intro S22 h
  refine hg_aloadn (pc := 99) (j := 0) (i := 0) (r := (some o)) hC 0 rfl rfl (show decode prog_15_method_1_code 99 = .ok (.aload_n 0, 1) by decide +kernel) ?_
  refine hg_sipush (pc := 100) (v := 1200) hC (show decode prog_15_method_1_code 100 = .ok (.sipush 1200, 3) by decide +kernel) (by decide +kernel) ?_
  refine hg_rnewa (pc := 103) (t := 0) (atype := .int) hC rfl rfl (fun _ h9 => h9) rfl (by decide) w_197 (show decode prog_15_method_1_code 103 = .ok (.newarray .int, 2) by decide +kernel) h ?_
  intro S23 h
  refine hg_rputF (pc := 105) (r := (some o)) (v := va_rf (some S22.2.1)) hC hR fp_SignalEngineModel_45 (hg_na _).1 (hg_na _).2 (show decode prog_15_method_1_code 105 = .ok (.putfield 45, 3) by decide +kernel) h ?_
  intro S24 h
  refine hg_aloadn (pc := 108) (j := 0) (i := 0) (r := (some o)) hC 0 rfl rfl (show decode prog_15_method_1_code 108 = .ok (.aload_n 0, 1) by decide +kernel) ?_
  refine hg_sipush (pc := 109) (v := 1200) hC (show decode prog_15_method_1_code 109 = .ok (.sipush 1200, 3) by decide +kernel) (by decide +kernel) ?_
  refine hg_rnewa (pc := 112) (t := 0) (atype := .int) hC rfl rfl (fun _ h9 => h9) rfl (by decide) w_197 (show decode prog_15_method_1_code 112 = .ok (.newarray .int, 2) by decide +kernel) h ?_
  intro S25 h
  refine hg_rputF (pc := 114) (r := (some o)) (v := va_rf (some S24.2.1)) hC hR fp_SignalEngineModel_48 (hg_na _).1 (hg_na _).2 (show decode prog_15_method_1_code 114 = .ok (.putfield 48, 3) by decide +kernel) h ?_
  intro S26 h
  refine hg_aloadn (pc := 117) (j := 0) (i := 0) (r := (some o)) hC 0 rfl rfl (show decode prog_15_method_1_code 117 = .ok (.aload_n 0, 1) by decide +kernel) ?_
  refine hg_sipush (pc := 118) (v := 1000) hC (show decode prog_15_method_1_code 118 = .ok (.sipush 1000, 3) by decide +kernel) (by decide +kernel) ?_
  refine hg_rnewa (pc := 121) (t := 0) (atype := .int) hC rfl rfl (fun _ h9 => h9) rfl (by decide) w_197 (show decode prog_15_method_1_code 121 = .ok (.newarray .int, 2) by decide +kernel) h ?_
  intro S27 h
  refine hg_rputF (pc := 123) (r := (some o)) (v := va_rf (some S26.2.1)) hC hR fp_SignalEngineModel_51 (hg_na _).1 (hg_na _).2 (show decode prog_15_method_1_code 123 = .ok (.putfield 51, 3) by decide +kernel) h ?_
  intro S28 h
  refine hg_aloadn (pc := 126) (j := 0) (i := 0) (r := (some o)) hC 0 rfl rfl (show decode prog_15_method_1_code 126 = .ok (.aload_n 0, 1) by decide +kernel) ?_
  refine hg_sipush (pc := 127) (v := 1000) hC (show decode prog_15_method_1_code 127 = .ok (.sipush 1000, 3) by decide +kernel) (by decide +kernel) ?_
  refine hg_rnewa (pc := 130) (t := 0) (atype := .int) hC rfl rfl (fun _ h9 => h9) rfl (by decide) w_197 (show decode prog_15_method_1_code 130 = .ok (.newarray .int, 2) by decide +kernel) h ?_
  intro S29 h
  refine hg_rputF (pc := 132) (r := (some o)) (v := va_rf (some S28.2.1)) hC hR fp_SignalEngineModel_54 (hg_na _).1 (hg_na _).2 (show decode prog_15_method_1_code 132 = .ok (.putfield 54, 3) by decide +kernel) h ?_
  intro S30 h
  refine hg_aloadn (pc := 135) (j := 0) (i := 0) (r := (some o)) hC 0 rfl rfl (show decode prog_15_method_1_code 135 = .ok (.aload_n 0, 1) by decide +kernel) ?_
  refine hg_sipush (pc := 136) (v := 1000) hC (show decode prog_15_method_1_code 136 = .ok (.sipush 1000, 3) by decide +kernel) (by decide +kernel) ?_
  refine hg_rnewa (pc := 139) (t := 0) (atype := .int) hC rfl rfl (fun _ h9 => h9) rfl (by decide) w_197 (show decode prog_15_method_1_code 139 = .ok (.newarray .int, 2) by decide +kernel) h ?_
  intro S31 h
  refine hg_rputF (pc := 141) (r := (some o)) (v := va_rf (some S30.2.1)) hC hR fp_SignalEngineModel_57 (hg_na _).1 (hg_na _).2 (show decode prog_15_method_1_code 141 = .ok (.putfield 57, 3) by decide +kernel) h ?_
  intro S32 h
  refine hg_aloadn (pc := 144) (j := 0) (i := 0) (r := (some o)) hC 0 rfl rfl (show decode prog_15_method_1_code 144 = .ok (.aload_n 0, 1) by decide +kernel) ?_
  refine hg_sipush (pc := 145) (v := 1208) hC (show decode prog_15_method_1_code 145 = .ok (.sipush 1208, 3) by decide +kernel) (by decide +kernel) ?_
  refine hg_rnewa (pc := 148) (t := 0) (atype := .int) hC rfl rfl (fun _ h9 => h9) rfl (by decide) w_197 (show decode prog_15_method_1_code 148 = .ok (.newarray .int, 2) by decide +kernel) h ?_
  intro S33 h
  refine hg_rputF (pc := 150) (r := (some o)) (v := va_rf (some S32.2.1)) hC hR fp_SignalEngineModel_60 (hg_na _).1 (hg_na _).2 (show decode prog_15_method_1_code 150 = .ok (.putfield 60, 3) by decide +kernel) h ?_
  intro S34 h
  refine hg_aloadn (pc := 153) (j := 0) (i := 0) (r := (some o)) hC 0 rfl rfl (show decode prog_15_method_1_code 153 = .ok (.aload_n 0, 1) by decide +kernel) ?_
  refine hg_sipush (pc := 154) (v := 1208) hC (show decode prog_15_method_1_code 154 = .ok (.sipush 1208, 3) by decide +kernel) (by decide +kernel) ?_
  refine hg_rnewa (pc := 157) (t := 0) (atype := .int) hC rfl rfl (fun _ h9 => h9) rfl (by decide) w_197 (show decode prog_15_method_1_code 157 = .ok (.newarray .int, 2) by decide +kernel) h ?_
  intro S35 h
  refine hg_rputF (pc := 159) (r := (some o)) (v := va_rf (some S34.2.1)) hC hR fp_SignalEngineModel_63 (hg_na _).1 (hg_na _).2 (show decode prog_15_method_1_code 159 = .ok (.putfield 63, 3) by decide +kernel) h ?_
  intro S36 h
  refine hg_aloadn (pc := 162) (j := 0) (i := 0) (r := (some o)) hC 0 rfl rfl (show decode prog_15_method_1_code 162 = .ok (.aload_n 0, 1) by decide +kernel) ?_
  refine hg_sipush (pc := 163) (v := 1200) hC (show decode prog_15_method_1_code 163 = .ok (.sipush 1200, 3) by decide +kernel) (by decide +kernel) ?_
  refine hg_rnewa (pc := 166) (t := 0) (atype := .int) hC rfl rfl (fun _ h9 => h9) rfl (by decide) w_197 (show decode prog_15_method_1_code 166 = .ok (.newarray .int, 2) by decide +kernel) h ?_
  intro S37 h
  refine hg_rputF (pc := 168) (r := (some o)) (v := va_rf (some S36.2.1)) hC hR fp_SignalEngineModel_66 (hg_na _).1 (hg_na _).2 (show decode prog_15_method_1_code 168 = .ok (.putfield 66, 3) by decide +kernel) h ?_
  intro S38 h
  refine hg_aloadn (pc := 171) (j := 0) (i := 0) (r := (some o)) hC 0 rfl rfl (show decode prog_15_method_1_code 171 = .ok (.aload_n 0, 1) by decide +kernel) ?_
  refine hg_sipush (pc := 172) (v := 1200) hC (show decode prog_15_method_1_code 172 = .ok (.sipush 1200, 3) by decide +kernel) (by decide +kernel) ?_
  refine hg_rnewa (pc := 175) (t := 0) (atype := .int) hC rfl rfl (fun _ h9 => h9) rfl (by decide) w_197 (show decode prog_15_method_1_code 175 = .ok (.newarray .int, 2) by decide +kernel) h ?_
  intro S39 h
  refine hg_rputF (pc := 177) (r := (some o)) (v := va_rf (some S38.2.1)) hC hR fp_SignalEngineModel_69 (hg_na _).1 (hg_na _).2 (show decode prog_15_method_1_code 177 = .ok (.putfield 69, 3) by decide +kernel) h ?_
  intro S40 h
  refine hg_aloadn (pc := 180) (j := 0) (i := 0) (r := (some o)) hC 0 rfl rfl (show decode prog_15_method_1_code 180 = .ok (.aload_n 0, 1) by decide +kernel) ?_
  refine hg_sipush (pc := 181) (v := 1200) hC (show decode prog_15_method_1_code 181 = .ok (.sipush 1200, 3) by decide +kernel) (by decide +kernel) ?_
  refine hg_rnewa (pc := 184) (t := 0) (atype := .int) hC rfl rfl (fun _ h9 => h9) rfl (by decide) w_197 (show decode prog_15_method_1_code 184 = .ok (.newarray .int, 2) by decide +kernel) h ?_
  intro S41 h
  refine hg_rputF (pc := 186) (r := (some o)) (v := va_rf (some S40.2.1)) hC hR fp_SignalEngineModel_72 (hg_na _).1 (hg_na _).2 (show decode prog_15_method_1_code 186 = .ok (.putfield 72, 3) by decide +kernel) h ?_
  intro S42 h
  refine hg_aloadn (pc := 189) (j := 0) (i := 0) (r := (some o)) hC 0 rfl rfl (show decode prog_15_method_1_code 189 = .ok (.aload_n 0, 1) by decide +kernel) ?_
  refine hg_sipush (pc := 190) (v := 1200) hC (show decode prog_15_method_1_code 190 = .ok (.sipush 1200, 3) by decide +kernel) (by decide +kernel) ?_
  refine hg_rnewa (pc := 193) (t := 0) (atype := .int) hC rfl rfl (fun _ h9 => h9) rfl (by decide) w_197 (show decode prog_15_method_1_code 193 = .ok (.newarray .int, 2) by decide +kernel) h ?_
  intro S43 h
  refine hg_rputF (pc := 195) (r := (some o)) (v := va_rf (some S42.2.1)) hC hR fp_SignalEngineModel_75 (hg_na _).1 (hg_na _).2 (show decode prog_15_method_1_code 195 = .ok (.putfield 75, 3) by decide +kernel) h ?_
  intro S44 h
  refine hg_aloadn (pc := 198) (j := 0) (i := 0) (r := (some o)) hC 0 rfl rfl (show decode prog_15_method_1_code 198 = .ok (.aload_n 0, 1) by decide +kernel) ?_
  refine hg_sipush (pc := 199) (v := 1200) hC (show decode prog_15_method_1_code 199 = .ok (.sipush 1200, 3) by decide +kernel) (by decide +kernel) ?_
  refine hg_rnewa (pc := 202) (t := 0) (atype := .int) hC rfl rfl (fun _ h9 => h9) rfl (by decide) w_197 (show decode prog_15_method_1_code 202 = .ok (.newarray .int, 2) by decide +kernel) h ?_
  intro S45 h
  refine hg_rputF (pc := 204) (r := (some o)) (v := va_rf (some S44.2.1)) hC hR fp_SignalEngineModel_78 (hg_na _).1 (hg_na _).2 (show decode prog_15_method_1_code 204 = .ok (.putfield 78, 3) by decide +kernel) h ?_
  intro S46 h
  refine hg_aloadn (pc := 207) (j := 0) (i := 0) (r := (some o)) hC 0 rfl rfl (show decode prog_15_method_1_code 207 = .ok (.aload_n 0, 1) by decide +kernel) ?_
  refine hg_sipush (pc := 208) (v := 1200) hC (show decode prog_15_method_1_code 208 = .ok (.sipush 1200, 3) by decide +kernel) (by decide +kernel) ?_
  refine hg_rnewa (pc := 211) (t := 0) (atype := .int) hC rfl rfl (fun _ h9 => h9) rfl (by decide) w_197 (show decode prog_15_method_1_code 211 = .ok (.newarray .int, 2) by decide +kernel) h ?_
  intro S47 h
  refine hg_rputF (pc := 213) (r := (some o)) (v := va_rf (some S46.2.1)) hC hR fp_SignalEngineModel_81 (hg_na _).1 (hg_na _).2 (show decode prog_15_method_1_code 213 = .ok (.putfield 81, 3) by decide +kernel) h ?_
  intro S48 h
  refine hg_aloadn (pc := 216) (j := 0) (i := 0) (r := (some o)) hC 0 rfl rfl (show decode prog_15_method_1_code 216 = .ok (.aload_n 0, 1) by decide +kernel) ?_
  refine hg_sipush (pc := 217) (v := 1200) hC (show decode prog_15_method_1_code 217 = .ok (.sipush 1200, 3) by decide +kernel) (by decide +kernel) ?_
  refine hg_rnewa (pc := 220) (t := 0) (atype := .int) hC rfl rfl (fun _ h9 => h9) rfl (by decide) w_197 (show decode prog_15_method_1_code 220 = .ok (.newarray .int, 2) by decide +kernel) h ?_
  intro S49 h
  refine hg_rputF (pc := 222) (r := (some o)) (v := va_rf (some S48.2.1)) hC hR fp_SignalEngineModel_84 (hg_na _).1 (hg_na _).2 (show decode prog_15_method_1_code 222 = .ok (.putfield 84, 3) by decide +kernel) h ?_
  intro S50 h
  refine hg_aloadn (pc := 225) (j := 0) (i := 0) (r := (some o)) hC 0 rfl rfl (show decode prog_15_method_1_code 225 = .ok (.aload_n 0, 1) by decide +kernel) ?_
  refine hg_sipush (pc := 226) (v := 1200) hC (show decode prog_15_method_1_code 226 = .ok (.sipush 1200, 3) by decide +kernel) (by decide +kernel) ?_
  refine hg_rnewa (pc := 229) (t := 0) (atype := .int) hC rfl rfl (fun _ h9 => h9) rfl (by decide) w_197 (show decode prog_15_method_1_code 229 = .ok (.newarray .int, 2) by decide +kernel) h ?_
  intro S51 h
  refine hg_rputF (pc := 231) (r := (some o)) (v := va_rf (some S50.2.1)) hC hR fp_SignalEngineModel_87 (hg_na _).1 (hg_na _).2 (show decode prog_15_method_1_code 231 = .ok (.putfield 87, 3) by decide +kernel) h ?_
  intro S52 h
  refine hg_aloadn (pc := 234) (j := 0) (i := 0) (r := (some o)) hC 0 rfl rfl (show decode prog_15_method_1_code 234 = .ok (.aload_n 0, 1) by decide +kernel) ?_
  refine hg_sipush (pc := 235) (v := 1200) hC (show decode prog_15_method_1_code 235 = .ok (.sipush 1200, 3) by decide +kernel) (by decide +kernel) ?_
  refine hg_rnewa (pc := 238) (t := 0) (atype := .int) hC rfl rfl (fun _ h9 => h9) rfl (by decide) w_197 (show decode prog_15_method_1_code 238 = .ok (.newarray .int, 2) by decide +kernel) h ?_
  intro S53 h
  refine hg_rputF (pc := 240) (r := (some o)) (v := va_rf (some S52.2.1)) hC hR fp_SignalEngineModel_90 (hg_na _).1 (hg_na _).2 (show decode prog_15_method_1_code 240 = .ok (.putfield 90, 3) by decide +kernel) h ?_
  intro S54 h
  refine hg_aloadn (pc := 243) (j := 0) (i := 0) (r := (some o)) hC 0 rfl rfl (show decode prog_15_method_1_code 243 = .ok (.aload_n 0, 1) by decide +kernel) ?_
  refine hg_sipush (pc := 244) (v := 1200) hC (show decode prog_15_method_1_code 244 = .ok (.sipush 1200, 3) by decide +kernel) (by decide +kernel) ?_
  refine hg_rnewa (pc := 247) (t := 0) (atype := .int) hC rfl rfl (fun _ h9 => h9) rfl (by decide) w_197 (show decode prog_15_method_1_code 247 = .ok (.newarray .int, 2) by decide +kernel) h ?_
  intro S55 h
  refine hg_rputF (pc := 249) (r := (some o)) (v := va_rf (some S54.2.1)) hC hR fp_SignalEngineModel_93 (hg_na _).1 (hg_na _).2 (show decode prog_15_method_1_code 249 = .ok (.putfield 93, 3) by decide +kernel) h ?_
  intro S56 h
  refine hg_aloadn (pc := 252) (j := 0) (i := 0) (r := (some o)) hC 0 rfl rfl (show decode prog_15_method_1_code 252 = .ok (.aload_n 0, 1) by decide +kernel) ?_
  refine hg_sipush (pc := 253) (v := 1200) hC (show decode prog_15_method_1_code 253 = .ok (.sipush 1200, 3) by decide +kernel) (by decide +kernel) ?_
  refine hg_rnewa (pc := 256) (t := 0) (atype := .int) hC rfl rfl (fun _ h9 => h9) rfl (by decide) w_197 (show decode prog_15_method_1_code 256 = .ok (.newarray .int, 2) by decide +kernel) h ?_
  intro S57 h
  refine hg_rputF (pc := 258) (r := (some o)) (v := va_rf (some S56.2.1)) hC hR fp_SignalEngineModel_96 (hg_na _).1 (hg_na _).2 (show decode prog_15_method_1_code 258 = .ok (.putfield 96, 3) by decide +kernel) h ?_
  intro S58 h
  refine hg_aloadn (pc := 261) (j := 0) (i := 0) (r := (some o)) hC 0 rfl rfl (show decode prog_15_method_1_code 261 = .ok (.aload_n 0, 1) by decide +kernel) ?_
  refine hg_sipush (pc := 262) (v := 1201) hC (show decode prog_15_method_1_code 262 = .ok (.sipush 1201, 3) by decide +kernel) (by decide +kernel) ?_
  refine hg_rnewa (pc := 265) (t := 0) (atype := .int) hC rfl rfl (fun _ h9 => h9) rfl (by decide) w_197 (show decode prog_15_method_1_code 265 = .ok (.newarray .int, 2) by decide +kernel) h ?_
  intro S59 h
  refine hg_rputF (pc := 267) (r := (some o)) (v := va_rf (some S58.2.1)) hC hR fp_SignalEngineModel_99 (hg_na _).1 (hg_na _).2 (show decode prog_15_method_1_code 267 = .ok (.putfield 99, 3) by decide +kernel) h ?_
  intro S60 h
  refine hg_aloadn (pc := 270) (j := 0) (i := 0) (r := (some o)) hC 0 rfl rfl (show decode prog_15_method_1_code 270 = .ok (.aload_n 0, 1) by decide +kernel) ?_
  refine hg_sipush (pc := 271) (v := 1000) hC (show decode prog_15_method_1_code 271 = .ok (.sipush 1000, 3) by decide +kernel) (by decide +kernel) ?_
  refine hg_rnewa (pc := 274) (t := 0) (atype := .int) hC rfl rfl (fun _ h9 => h9) rfl (by decide) w_197 (show decode prog_15_method_1_code 274 = .ok (.newarray .int, 2) by decide +kernel) h ?_
  intro S61 h
  refine hg_rputF (pc := 276) (r := (some o)) (v := va_rf (some S60.2.1)) hC hR fp_SignalEngineModel_102 (hg_na _).1 (hg_na _).2 (show decode prog_15_method_1_code 276 = .ok (.putfield 102, 3) by decide +kernel) h ?_
  intro S62 h
  refine hg_aloadn (pc := 279) (j := 0) (i := 0) (r := (some o)) hC 0 rfl rfl (show decode prog_15_method_1_code 279 = .ok (.aload_n 0, 1) by decide +kernel) ?_
  refine hg_sipush (pc := 280) (v := 1000) hC (show decode prog_15_method_1_code 280 = .ok (.sipush 1000, 3) by decide +kernel) (by decide +kernel) ?_
  refine hg_rnewa (pc := 283) (t := 0) (atype := .int) hC rfl rfl (fun _ h9 => h9) rfl (by decide) w_197 (show decode prog_15_method_1_code 283 = .ok (.newarray .int, 2) by decide +kernel) h ?_
  intro S63 h
  refine hg_rputF (pc := 285) (r := (some o)) (v := va_rf (some S62.2.1)) hC hR fp_SignalEngineModel_105 (hg_na _).1 (hg_na _).2 (show decode prog_15_method_1_code 285 = .ok (.putfield 105, 3) by decide +kernel) h ?_
  intro S64 h
  refine hg_aloadn (pc := 288) (j := 0) (i := 0) (r := (some o)) hC 0 rfl rfl (show decode prog_15_method_1_code 288 = .ok (.aload_n 0, 1) by decide +kernel) ?_
  refine hg_sipush (pc := 289) (v := 1000) hC (show decode prog_15_method_1_code 289 = .ok (.sipush 1000, 3) by decide +kernel) (by decide +kernel) ?_
  refine hg_rnewa (pc := 292) (t := 0) (atype := .int) hC rfl rfl (fun _ h9 => h9) rfl (by decide) w_197 (show decode prog_15_method_1_code 292 = .ok (.newarray .int, 2) by decide +kernel) h ?_
  intro S65 h
  refine hg_rputF (pc := 294) (r := (some o)) (v := va_rf (some S64.2.1)) hC hR fp_SignalEngineModel_108 (hg_na _).1 (hg_na _).2 (show decode prog_15_method_1_code 294 = .ok (.putfield 108, 3) by decide +kernel) h ?_
  intro S66 h
  refine hg_aloadn (pc := 297) (j := 0) (i := 0) (r := (some o)) hC 0 rfl rfl (show decode prog_15_method_1_code 297 = .ok (.aload_n 0, 1) by decide +kernel) ?_
  refine hg_sipush (pc := 298) (v := 1000) hC (show decode prog_15_method_1_code 298 = .ok (.sipush 1000, 3) by decide +kernel) (by decide +kernel) ?_
  refine hg_rnewa (pc := 301) (t := 0) (atype := .int) hC rfl rfl (fun _ h9 => h9) rfl (by decide) w_197 (show decode prog_15_method_1_code 301 = .ok (.newarray .int, 2) by decide +kernel) h ?_
  intro S67 h
  refine hg_rputF (pc := 303) (r := (some o)) (v := va_rf (some S66.2.1)) hC hR fp_SignalEngineModel_111 (hg_na _).1 (hg_na _).2 (show decode prog_15_method_1_code 303 = .ok (.putfield 111, 3) by decide +kernel) h ?_
  intro S68 h
  refine hg_aloadn (pc := 306) (j := 0) (i := 0) (r := (some o)) hC 0 rfl rfl (show decode prog_15_method_1_code 306 = .ok (.aload_n 0, 1) by decide +kernel) ?_
  refine hg_sipush (pc := 307) (v := 1000) hC (show decode prog_15_method_1_code 307 = .ok (.sipush 1000, 3) by decide +kernel) (by decide +kernel) ?_
  refine hg_rnewa (pc := 310) (t := 0) (atype := .int) hC rfl rfl (fun _ h9 => h9) rfl (by decide) w_197 (show decode prog_15_method_1_code 310 = .ok (.newarray .int, 2) by decide +kernel) h ?_
  intro S69 h
  refine hg_rputF (pc := 312) (r := (some o)) (v := va_rf (some S68.2.1)) hC hR fp_SignalEngineModel_114 (hg_na _).1 (hg_na _).2 (show decode prog_15_method_1_code 312 = .ok (.putfield 114, 3) by decide +kernel) h ?_
  intro S70 h
  refine hg_aloadn (pc := 315) (j := 0) (i := 0) (r := (some o)) hC 0 rfl rfl (show decode prog_15_method_1_code 315 = .ok (.aload_n 0, 1) by decide +kernel) ?_
  refine hg_sipush (pc := 316) (v := 12400) hC (show decode prog_15_method_1_code 316 = .ok (.sipush 12400, 3) by decide +kernel) (by decide +kernel) ?_
  refine hg_rnewa (pc := 319) (t := 1) (atype := .byte) hC rfl rfl (fun _ h9 => h9) rfl (by decide) w_85 (show decode prog_15_method_1_code 319 = .ok (.newarray .byte, 2) by decide +kernel) h ?_
  intro S71 h
  refine hg_rputF (pc := 321) (r := (some o)) (v := va_rf (some S70.2.1)) hC hR fp_SignalEngineModel_117 (hg_na _).1 (hg_na _).2 (show decode prog_15_method_1_code 321 = .ok (.putfield 117, 3) by decide +kernel) h ?_
  intro S72 h
  refine hg_aloadn (pc := 324) (j := 0) (i := 0) (r := (some o)) hC 0 rfl rfl (show decode prog_15_method_1_code 324 = .ok (.aload_n 0, 1) by decide +kernel) ?_
  refine hg_sipush (pc := 325) (v := 400) hC (show decode prog_15_method_1_code 325 = .ok (.sipush 400, 3) by decide +kernel) (by decide +kernel) ?_
  refine hg_rnewa (pc := 328) (t := 0) (atype := .int) hC rfl rfl (fun _ h9 => h9) rfl (by decide) w_197 (show decode prog_15_method_1_code 328 = .ok (.newarray .int, 2) by decide +kernel) h ?_
  intro S73 h
  refine hg_rputF (pc := 330) (r := (some o)) (v := va_rf (some S72.2.1)) hC hR fp_SignalEngineModel_120 (hg_na _).1 (hg_na _).2 (show decode prog_15_method_1_code 330 = .ok (.putfield 120, 3) by decide +kernel) h ?_
  intro S74 h
  refine hg_aloadn (pc := 333) (j := 0) (i := 0) (r := (some o)) hC 0 rfl rfl (show decode prog_15_method_1_code 333 = .ok (.aload_n 0, 1) by decide +kernel) ?_
  refine hg_sipush (pc := 334) (v := 1662) hC (show decode prog_15_method_1_code 334 = .ok (.sipush 1662, 3) by decide +kernel) (by decide +kernel) ?_
  refine hg_rnewa (pc := 337) (t := 0) (atype := .int) hC rfl rfl (fun _ h9 => h9) rfl (by decide) w_197 (show decode prog_15_method_1_code 337 = .ok (.newarray .int, 2) by decide +kernel) h ?_
  intro S75 h
  refine hg_rputF (pc := 339) (r := (some o)) (v := va_rf (some S74.2.1)) hC hR fp_SignalEngineModel_123 (hg_na _).1 (hg_na _).2 (show decode prog_15_method_1_code 339 = .ok (.putfield 123, 3) by decide +kernel) h ?_
  intro S76 h
  refine hg_aloadn (pc := 342) (j := 0) (i := 0) (r := (some o)) hC 0 rfl rfl (show decode prog_15_method_1_code 342 = .ok (.aload_n 0, 1) by decide +kernel) ?_
  refine hg_sipush (pc := 343) (v := 1662) hC (show decode prog_15_method_1_code 343 = .ok (.sipush 1662, 3) by decide +kernel) (by decide +kernel) ?_
  refine hg_rnewa (pc := 346) (t := 2) (atype := .boolean) hC rfl rfl (fun _ h9 => h9) rfl (by decide) w_1043 (show decode prog_15_method_1_code 346 = .ok (.newarray .boolean, 2) by decide +kernel) h ?_
  intro S77 h
  refine hg_rputF (pc := 348) (r := (some o)) (v := va_rf (some S76.2.1)) hC hR fp_SignalEngineModel_126 (hg_na _).1 (hg_na _).2 (show decode prog_15_method_1_code 348 = .ok (.putfield 126, 3) by decide +kernel) h ?_
  intro S78 h
  refine hg_aloadn (pc := 351) (j := 0) (i := 0) (r := (some o)) hC 0 rfl rfl (show decode prog_15_method_1_code 351 = .ok (.aload_n 0, 1) by decide +kernel) ?_
  refine hg_sipush (pc := 352) (v := 1662) hC (show decode prog_15_method_1_code 352 = .ok (.sipush 1662, 3) by decide +kernel) (by decide +kernel) ?_
  refine hg_rnewa (pc := 355) (t := 2) (atype := .boolean) hC rfl rfl (fun _ h9 => h9) rfl (by decide) w_1043 (show decode prog_15_method_1_code 355 = .ok (.newarray .boolean, 2) by decide +kernel) h ?_
  intro S79 h
  refine hg_rputF (pc := 357) (r := (some o)) (v := va_rf (some S78.2.1)) hC hR fp_SignalEngineModel_130 (hg_na _).1 (hg_na _).2 (show decode prog_15_method_1_code 357 = .ok (.putfield 130, 3) by decide +kernel) h ?_
  intro S80 h
  refine hg_aloadn (pc := 360) (j := 0) (i := 0) (r := (some o)) hC 0 rfl rfl (show decode prog_15_method_1_code 360 = .ok (.aload_n 0, 1) by decide +kernel) ?_
  refine hg_sipush (pc := 361) (v := 400) hC (show decode prog_15_method_1_code 361 = .ok (.sipush 400, 3) by decide +kernel) (by decide +kernel) ?_
  refine hg_rnewa (pc := 364) (t := 0) (atype := .int) hC rfl rfl (fun _ h9 => h9) rfl (by decide) w_197 (show decode prog_15_method_1_code 364 = .ok (.newarray .int, 2) by decide +kernel) h ?_
  intro S81 h
  refine hg_rputF (pc := 366) (r := (some o)) (v := va_rf (some S80.2.1)) hC hR fp_SignalEngineModel_133 (hg_na _).1 (hg_na _).2 (show decode prog_15_method_1_code 366 = .ok (.putfield 133, 3) by decide +kernel) h ?_
  intro S82 h
  refine hg_aloadn (pc := 369) (j := 0) (i := 0) (r := (some o)) hC 0 rfl rfl (show decode prog_15_method_1_code 369 = .ok (.aload_n 0, 1) by decide +kernel) ?_
  refine hg_sipush (pc := 370) (v := 200) hC (show decode prog_15_method_1_code 370 = .ok (.sipush 200, 3) by decide +kernel) (by decide +kernel) ?_
  refine hg_rnewa (pc := 373) (t := 2) (atype := .boolean) hC rfl rfl (fun _ h9 => h9) rfl (by decide) w_1043 (show decode prog_15_method_1_code 373 = .ok (.newarray .boolean, 2) by decide +kernel) h ?_
  intro S83 h
  refine hg_rputF (pc := 375) (r := (some o)) (v := va_rf (some S82.2.1)) hC hR fp_SignalEngineModel_136 (hg_na _).1 (hg_na _).2 (show decode prog_15_method_1_code 375 = .ok (.putfield 136, 3) by decide +kernel) h ?_
  intro S84 h
  refine hg_aloadn (pc := 378) (j := 0) (i := 0) (r := (some o)) hC 0 rfl rfl (show decode prog_15_method_1_code 378 = .ok (.aload_n 0, 1) by decide +kernel) ?_
  refine hg_sipush (pc := 379) (v := 200) hC (show decode prog_15_method_1_code 379 = .ok (.sipush 200, 3) by decide +kernel) (by decide +kernel) ?_
  refine hg_rnewa (pc := 382) (t := 2) (atype := .boolean) hC rfl rfl (fun _ h9 => h9) rfl (by decide) w_1043 (show decode prog_15_method_1_code 382 = .ok (.newarray .boolean, 2) by decide +kernel) h ?_
  intro S85 h
  refine hg_rputF (pc := 384) (r := (some o)) (v := va_rf (some S84.2.1)) hC hR fp_SignalEngineModel_139 (hg_na _).1 (hg_na _).2 (show decode prog_15_method_1_code 384 = .ok (.putfield 139, 3) by decide +kernel) h ?_
  intro S86 h
  refine hg_aloadn (pc := 387) (j := 0) (i := 0) (r := (some o)) hC 0 rfl rfl (show decode prog_15_method_1_code 387 = .ok (.aload_n 0, 1) by decide +kernel) ?_
  refine hg_sipush (pc := 388) (v := 201) hC (show decode prog_15_method_1_code 388 = .ok (.sipush 201, 3) by decide +kernel) (by decide +kernel) ?_
  refine hg_rnewa (pc := 391) (t := 0) (atype := .int) hC rfl rfl (fun _ h9 => h9) rfl (by decide) w_197 (show decode prog_15_method_1_code 391 = .ok (.newarray .int, 2) by decide +kernel) h ?_
  intro S87 h
  refine hg_rputF (pc := 393) (r := (some o)) (v := va_rf (some S86.2.1)) hC hR fp_SignalEngineModel_142 (hg_na _).1 (hg_na _).2 (show decode prog_15_method_1_code 393 = .ok (.putfield 142, 3) by decide +kernel) h ?_
  intro S88 h
  refine hg_aloadn (pc := 396) (j := 0) (i := 0) (r := (some o)) hC 0 rfl rfl (show decode prog_15_method_1_code 396 = .ok (.aload_n 0, 1) by decide +kernel) ?_
  refine hg_bipush (pc := 397) (v := 62) hC (show decode prog_15_method_1_code 397 = .ok (.bipush 62, 2) by decide +kernel) (by decide +kernel) ?_
  refine hg_rnewa (pc := 399) (t := 0) (atype := .int) hC rfl rfl (fun _ h9 => h9) rfl (by decide) w_197 (show decode prog_15_method_1_code 399 = .ok (.newarray .int, 2) by decide +kernel) h ?_
  intro S89 h
  refine hg_rputF (pc := 401) (r := (some o)) (v := va_rf (some S88.2.1)) hC hR fp_SignalEngineModel_145 (hg_na _).1 (hg_na _).2 (show decode prog_15_method_1_code 401 = .ok (.putfield 145, 3) by decide +kernel) h ?_
  intro S90 h
  refine hg_aloadn (pc := 404) (j := 0) (i := 0) (r := (some o)) hC 0 rfl rfl (show decode prog_15_method_1_code 404 = .ok (.aload_n 0, 1) by decide +kernel) ?_
  refine hg_sipush (pc := 405) (v := 257) hC (show decode prog_15_method_1_code 405 = .ok (.sipush 257, 3) by decide +kernel) (by decide +kernel) ?_
  refine hg_rnewa (pc := 408) (t := 0) (atype := .int) hC rfl rfl (fun _ h9 => h9) rfl (by decide) w_197 (show decode prog_15_method_1_code 408 = .ok (.newarray .int, 2) by decide +kernel) h ?_
  intro S91 h
  refine hg_rputF (pc := 410) (r := (some o)) (v := va_rf (some S90.2.1)) hC hR fp_SignalEngineModel_148 (hg_na _).1 (hg_na _).2 (show decode prog_15_method_1_code 410 = .ok (.putfield 148, 3) by decide +kernel) h ?_
  intro S92 h
  refine hg_aloadn (pc := 413) (j := 0) (i := 0) (r := (some o)) hC 0 rfl rfl (show decode prog_15_method_1_code 413 = .ok (.aload_n 0, 1) by decide +kernel) ?_
  refine hg_sipush (pc := 414) (v := 257) hC (show decode prog_15_method_1_code 414 = .ok (.sipush 257, 3) by decide +kernel) (by decide +kernel) ?_
  refine hg_rnewa (pc := 417) (t := 0) (atype := .int) hC rfl rfl (fun _ h9 => h9) rfl (by decide) w_197 (show decode prog_15_method_1_code 417 = .ok (.newarray .int, 2) by decide +kernel) h ?_
  intro S93 h
  refine hg_rputF (pc := 419) (r := (some o)) (v := va_rf (some S92.2.1)) hC hR fp_SignalEngineModel_151 (hg_na _).1 (hg_na _).2 (show decode prog_15_method_1_code 419 = .ok (.putfield 151, 3) by decide +kernel) h ?_
  intro S94 h
  refine hg_aloadn (pc := 422) (j := 0) (i := 0) (r := (some o)) hC 0 rfl rfl (show decode prog_15_method_1_code 422 = .ok (.aload_n 0, 1) by decide +kernel) ?_
  refine hg_sipush (pc := 423) (v := 257) hC (show decode prog_15_method_1_code 423 = .ok (.sipush 257, 3) by decide +kernel) (by decide +kernel) ?_
  refine hg_rnewa (pc := 426) (t := 0) (atype := .int) hC rfl rfl (fun _ h9 => h9) rfl (by decide) w_197 (show decode prog_15_method_1_code 426 = .ok (.newarray .int, 2) by decide +kernel) h ?_
  intro S95 h
  refine hg_rputF (pc := 428) (r := (some o)) (v := va_rf (some S94.2.1)) hC hR fp_SignalEngineModel_154 (hg_na _).1 (hg_na _).2 (show decode prog_15_method_1_code 428 = .ok (.putfield 154, 3) by decide +kernel) h ?_
  intro S96 h
  refine hg_aloadn (pc := 431) (j := 0) (i := 0) (r := (some o)) hC 0 rfl rfl (show decode prog_15_method_1_code 431 = .ok (.aload_n 0, 1) by decide +kernel) ?_
  refine hg_sipush (pc := 432) (v := 257) hC (show decode prog_15_method_1_code 432 = .ok (.sipush 257, 3) by decide +kernel) (by decide +kernel) ?_
  refine hg_rnewa (pc := 435) (t := 0) (atype := .int) hC rfl rfl (fun _ h9 => h9) rfl (by decide) w_197 (show decode prog_15_method_1_code 435 = .ok (.newarray .int, 2) by decide +kernel) h ?_
  intro S97 h
  refine hg_rputF (pc := 437) (r := (some o)) (v := va_rf (some S96.2.1)) hC hR fp_SignalEngineModel_157 (hg_na _).1 (hg_na _).2 (show decode prog_15_method_1_code 437 = .ok (.putfield 157, 3) by decide +kernel) h ?_
  intro S98 h
  refine hg_aloadn (pc := 440) (j := 0) (i := 0) (r := (some o)) hC 0 rfl rfl (show decode prog_15_method_1_code 440 = .ok (.aload_n 0, 1) by decide +kernel) ?_
  refine hg_sipush (pc := 441) (v := 4112) hC (show decode prog_15_method_1_code 441 = .ok (.sipush 4112, 3) by decide +kernel) (by decide +kernel) ?_
  refine hg_rnewa (pc := 444) (t := 0) (atype := .int) hC rfl rfl (fun _ h9 => h9) rfl (by decide) w_197 (show decode prog_15_method_1_code 444 = .ok (.newarray .int, 2) by decide +kernel) h ?_
  intro S99 h
  refine hg_rputF (pc := 446) (r := (some o)) (v := va_rf (some S98.2.1)) hC hR fp_SignalEngineModel_160 (hg_na _).1 (hg_na _).2 (show decode prog_15_method_1_code 446 = .ok (.putfield 160, 3) by decide +kernel) h ?_
  intro S100 h
  refine hg_aloadn (pc := 449) (j := 0) (i := 0) (r := (some o)) hC 0 rfl rfl (show decode prog_15_method_1_code 449 = .ok (.aload_n 0, 1) by decide +kernel) ?_
  refine hg_sipush (pc := 450) (v := 4112) hC (show decode prog_15_method_1_code 450 = .ok (.sipush 4112, 3) by decide +kernel) (by decide +kernel) ?_
  refine hg_rnewa (pc := 453) (t := 0) (atype := .int) hC rfl rfl (fun _ h9 => h9) rfl (by decide) w_197 (show decode prog_15_method_1_code 453 = .ok (.newarray .int, 2) by decide +kernel) h ?_
  intro S101 h
  refine hg_rputF (pc := 455) (r := (some o)) (v := va_rf (some S100.2.1)) hC hR fp_SignalEngineModel_163 (hg_na _).1 (hg_na _).2 (show decode prog_15_method_1_code 455 = .ok (.putfield 163, 3) by decide +kernel) h ?_
  intro S102 h
  refine hg_aloadn (pc := 458) (j := 0) (i := 0) (r := (some o)) hC 0 rfl rfl (show decode prog_15_method_1_code 458 = .ok (.aload_n 0, 1) by decide +kernel) ?_
  refine hg_ldc (pc := 459) (v := 66049) hC w_1559 (show decode prog_15_method_1_code 459 = .ok (.ldc 166, 2) by decide +kernel) ?_
  refine hg_rnewa (pc := 461) (t := 2) (atype := .boolean) hC rfl rfl (fun _ h9 => h9) rfl (by decide) w_1043 (show decode prog_15_method_1_code 461 = .ok (.newarray .boolean, 2) by decide +kernel) h ?_
  intro S103 h
  refine hg_rputF (pc := 463) (r := (some o)) (v := va_rf (some S102.2.1)) hC hR fp_SignalEngineModel_167 (hg_na _).1 (hg_na _).2 (show decode prog_15_method_1_code 463 = .ok (.putfield 167, 3) by decide +kernel) h ?_
  intro S104 h
  refine hg_aloadn (pc := 466) (j := 0) (i := 0) (r := (some o)) hC 0 rfl rfl (show decode prog_15_method_1_code 466 = .ok (.aload_n 0, 1) by decide +kernel) ?_
  refine hg_ldc (pc := 467) (v := 33000) hC w_1560 (show decode prog_15_method_1_code 467 = .ok (.ldc 170, 2) by decide +kernel) ?_
  refine hg_rnewa (pc := 469) (t := 0) (atype := .int) hC rfl rfl (fun _ h9 => h9) rfl (by decide) w_197 (show decode prog_15_method_1_code 469 = .ok (.newarray .int, 2) by decide +kernel) h ?_
  intro S105 h
  refine hg_rputF (pc := 471) (r := (some o)) (v := va_rf (some S104.2.1)) hC hR fp_SignalEngineModel_171 (hg_na _).1 (hg_na _).2 (show decode prog_15_method_1_code 471 = .ok (.putfield 171, 3) by decide +kernel) h ?_
  intro S106 h
  refine hg_aloadn (pc := 474) (j := 0) (i := 0) (r := (some o)) hC 0 rfl rfl (show decode prog_15_method_1_code 474 = .ok (.aload_n 0, 1) by decide +kernel) ?_
  refine hg_sipush (pc := 475) (v := 4112) hC (show decode prog_15_method_1_code 475 = .ok (.sipush 4112, 3) by decide +kernel) (by decide +kernel) ?_
  refine hg_rnewa (pc := 478) (t := 0) (atype := .int) hC rfl rfl (fun _ h9 => h9) rfl (by decide) w_197 (show decode prog_15_method_1_code 478 = .ok (.newarray .int, 2) by decide +kernel) h ?_
  intro S107 h
  refine hg_rputF (pc := 480) (r := (some o)) (v := va_rf (some S106.2.1)) hC hR fp_SignalEngineModel_174 (hg_na _).1 (hg_na _).2 (show decode prog_15_method_1_code 480 = .ok (.putfield 174, 3) by decide +kernel) h ?_
  intro S108 h
  refine hg_aloadn (pc := 483) (j := 0) (i := 0) (r := (some o)) hC 0 rfl rfl (show decode prog_15_method_1_code 483 = .ok (.aload_n 0, 1) by decide +kernel) ?_
  refine hg_sipush (pc := 484) (v := 4112) hC (show decode prog_15_method_1_code 484 = .ok (.sipush 4112, 3) by decide +kernel) (by decide +kernel) ?_
  refine hg_rnewa (pc := 487) (t := 0) (atype := .int) hC rfl rfl (fun _ h9 => h9) rfl (by decide) w_197 (show decode prog_15_method_1_code 487 = .ok (.newarray .int, 2) by decide +kernel) h ?_
  intro S109 h
  refine hg_rputF (pc := 489) (r := (some o)) (v := va_rf (some S108.2.1)) hC hR fp_SignalEngineModel_177 (hg_na _).1 (hg_na _).2 (show decode prog_15_method_1_code 489 = .ok (.putfield 177, 3) by decide +kernel) h ?_
  intro S110 h
  refine hg_aloadn (pc := 492) (j := 0) (i := 0) (r := (some o)) hC 0 rfl rfl (show decode prog_15_method_1_code 492 = .ok (.aload_n 0, 1) by decide +kernel) ?_
  refine hg_sipush (pc := 493) (v := 8192) hC (show decode prog_15_method_1_code 493 = .ok (.sipush 8192, 3) by decide +kernel) (by decide +kernel) ?_
  refine hg_rnewl (pc := 496) hC w_1884 (show decode prog_15_method_1_code 496 = .ok (.newarray .long, 2) by decide +kernel) h ?_
  intro S111 h
  refine hg_rputF (pc := 498) (r := (some o)) (v := va_rf (some S110.2.1)) hC hR fp_SignalEngineModel_180 (hg_na _).1 (hg_na _).2 (show decode prog_15_method_1_code 498 = .ok (.putfield 180, 3) by decide +kernel) h ?_
  intro S112 h
  refine hg_aloadn (pc := 501) (j := 0) (i := 0) (r := (some o)) hC 0 rfl rfl (show decode prog_15_method_1_code 501 = .ok (.aload_n 0, 1) by decide +kernel) ?_
  refine hg_sipush (pc := 502) (v := 8192) hC (show decode prog_15_method_1_code 502 = .ok (.sipush 8192, 3) by decide +kernel) (by decide +kernel) ?_
  refine hg_rnewa (pc := 505) (t := 0) (atype := .int) hC rfl rfl (fun _ h9 => h9) rfl (by decide) w_197 (show decode prog_15_method_1_code 505 = .ok (.newarray .int, 2) by decide +kernel) h ?_
  intro S113 h
  refine hg_rputF (pc := 507) (r := (some o)) (v := va_rf (some S112.2.1)) hC hR fp_SignalEngineModel_184 (hg_na _).1 (hg_na _).2 (show decode prog_15_method_1_code 507 = .ok (.putfield 184, 3) by decide +kernel) h ?_
  intro S114 h
  refine hg_aloadn (pc := 510) (j := 0) (i := 0) (r := (some o)) hC 0 rfl rfl (show decode prog_15_method_1_code 510 = .ok (.aload_n 0, 1) by decide +kernel) ?_
  refine hg_bipush (pc := 511) (v := 40) hC (show decode prog_15_method_1_code 511 = .ok (.bipush 40, 2) by decide +kernel) (by decide +kernel) ?_
  refine hg_rnewa (pc := 513) (t := 0) (atype := .int) hC rfl rfl (fun _ h9 => h9) rfl (by decide) w_197 (show decode prog_15_method_1_code 513 = .ok (.newarray .int, 2) by decide +kernel) h ?_
  intro S115 h
  refine hg_rputF (pc := 515) (r := (some o)) (v := va_rf (some S114.2.1)) hC hR fp_SignalEngineModel_187 (hg_na _).1 (hg_na _).2 (show decode prog_15_method_1_code 515 = .ok (.putfield 187, 3) by decide +kernel) h ?_
  intro S116 h
  refine hg_aloadn (pc := 518) (j := 0) (i := 0) (r := (some o)) hC 0 rfl rfl (show decode prog_15_method_1_code 518 = .ok (.aload_n 0, 1) by decide +kernel) ?_
  refine hg_sipush (pc := 519) (v := 24000) hC (show decode prog_15_method_1_code 519 = .ok (.sipush 24000, 3) by decide +kernel) (by decide +kernel) ?_
  refine hg_rnewa (pc := 522) (t := 0) (atype := .int) hC rfl rfl (fun _ h9 => h9) rfl (by decide) w_197 (show decode prog_15_method_1_code 522 = .ok (.newarray .int, 2) by decide +kernel) h ?_
  intro S117 h
  refine hg_rputF (pc := 524) (r := (some o)) (v := va_rf (some S116.2.1)) hC hR fp_SignalEngineModel_190 (hg_na _).1 (hg_na _).2 (show decode prog_15_method_1_code 524 = .ok (.putfield 190, 3) by decide +kernel) h ?_
  intro S118 h
  refine hg_aloadn (pc := 527) (j := 0) (i := 0) (r := (some o)) hC 0 rfl rfl (show decode prog_15_method_1_code 527 = .ok (.aload_n 0, 1) by decide +kernel) ?_
  refine hg_sipush (pc := 528) (v := 24000) hC (show decode prog_15_method_1_code 528 = .ok (.sipush 24000, 3) by decide +kernel) (by decide +kernel) ?_
  refine hg_rnewa (pc := 531) (t := 0) (atype := .int) hC rfl rfl (fun _ h9 => h9) rfl (by decide) w_197 (show decode prog_15_method_1_code 531 = .ok (.newarray .int, 2) by decide +kernel) h ?_
  intro S119 h
  refine hg_rputF (pc := 533) (r := (some o)) (v := va_rf (some S118.2.1)) hC hR fp_SignalEngineModel_193 (hg_na _).1 (hg_na _).2 (show decode prog_15_method_1_code 533 = .ok (.putfield 193, 3) by decide +kernel) h ?_
  intro S120 h
  refine hg_aloadn (pc := 536) (j := 0) (i := 0) (r := (some o)) hC 0 rfl rfl (show decode prog_15_method_1_code 536 = .ok (.aload_n 0, 1) by decide +kernel) ?_
  refine hg_sipush (pc := 537) (v := 24000) hC (show decode prog_15_method_1_code 537 = .ok (.sipush 24000, 3) by decide +kernel) (by decide +kernel) ?_
  refine hg_rnewa (pc := 540) (t := 0) (atype := .int) hC rfl rfl (fun _ h9 => h9) rfl (by decide) w_197 (show decode prog_15_method_1_code 540 = .ok (.newarray .int, 2) by decide +kernel) h ?_
  intro S121 h
  refine hg_rputF (pc := 542) (r := (some o)) (v := va_rf (some S120.2.1)) hC hR fp_SignalEngineModel_196 (hg_na _).1 (hg_na _).2 (show decode prog_15_method_1_code 542 = .ok (.putfield 196, 3) by decide +kernel) h ?_
  intro S122 h
  refine hg_aloadn (pc := 545) (j := 0) (i := 0) (r := (some o)) hC 0 rfl rfl (show decode prog_15_method_1_code 545 = .ok (.aload_n 0, 1) by decide +kernel) ?_
  refine hg_ldc (pc := 546) (v := 65536) hC w_1561 (show decode prog_15_method_1_code 546 = .ok (.ldc 199, 2) by decide +kernel) ?_
  refine hg_rnewa (pc := 548) (t := 0) (atype := .int) hC rfl rfl (fun _ h9 => h9) rfl (by decide) w_197 (show decode prog_15_method_1_code 548 = .ok (.newarray .int, 2) by decide +kernel) h ?_
  intro S123 h
  refine hg_rputF (pc := 550) (r := (some o)) (v := va_rf (some S122.2.1)) hC hR fp_SignalEngineModel_200 (hg_na _).1 (hg_na _).2 (show decode prog_15_method_1_code 550 = .ok (.putfield 200, 3) by decide +kernel) h ?_
  intro S124 h
  refine hg_aloadn (pc := 553) (j := 0) (i := 0) (r := (some o)) hC 0 rfl rfl (show decode prog_15_method_1_code 553 = .ok (.aload_n 0, 1) by decide +kernel) ?_
  refine hg_sipush (pc := 554) (v := 24000) hC (show decode prog_15_method_1_code 554 = .ok (.sipush 24000, 3) by decide +kernel) (by decide +kernel) ?_
  refine hg_rnewa (pc := 557) (t := 2) (atype := .boolean) hC rfl rfl (fun _ h9 => h9) rfl (by decide) w_1043 (show decode prog_15_method_1_code 557 = .ok (.newarray .boolean, 2) by decide +kernel) h ?_
  intro S125 h
  refine hg_rputF (pc := 559) (r := (some o)) (v := va_rf (some S124.2.1)) hC hR fp_SignalEngineModel_203 (hg_na _).1 (hg_na _).2 (show decode prog_15_method_1_code 559 = .ok (.putfield 203, 3) by decide +kernel) h ?_
  intro S126 h
  exact hg_vret (pc := 562) hC hR (hF _ (dc_some h)) (show decode prog_15_method_1_code 562 = .ok (.return_, 1) by decide +kernel)
