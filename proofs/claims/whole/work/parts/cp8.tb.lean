/-! the class's atlas: all that is noted behind react -/
section ATU
variable {G : hg_E} {E : awP} {S : hg_S} {q : rsT} {x1 x6 x5 a : Int32} {x4 : Option Nat} {cl : Nat} {pg rc kA cA L ins out pa : Nat} {f9 f10 : List Value} {kf cf : Nat → Int32}
/-- the part of tryAll's step that stands behind react -/
noncomputable def t69B (G : hg_E) (S : hg_S) (o : Nat) (x1 : Int32) (x2 x3 x4 : Option Nat) (x5 x6 a : Int32) : Option ((hg_S × Int32) ⊕ (hg_S)) :=
  (hm_AT_cell G S x1 x6).bind fun q20 => (hg_chk S (some o) 11).bind fun b21 => (hm_AT_note G S b21 q20 a x2 x3).bind fun q24 => if a = 2 then ((hg_chk q24 (some o) 11).bind fun b25 => (hm_AT_noteDoubt G q24 b25 x1 x6).bind fun q28 => hm_AT_tryAll_L116 G q28 o x1 x2 x3 x4 x5 x6 a) else ((hg_gi q24 (some o) 11 10).bind fun e29 => (hg_pf q24 (some o) 11 10 (.int (e29 + 1))).bind fun S30 => hm_AT_tryAll_L116 G S30 o x1 x2 x3 x4 x5 x6 a)
theorem t69_e {x2 x3 : Option Nat} {y0 y1 : Int32} {y2 : Option Nat} {o : Nat} : hm_AT_tryAll_L69 G S o x1 x2 x3 x4 x5 x6 y0 y1 y2 = (hg_chk S y2 10).bind fun b16 => (hm_RE_react G S b16 y1 y0 x4).bind fun q19 => t69B G q19.1 o x1 x2 x3 x4 x5 x6 q19.2 := rfl
theorem t69_w (h : AW G E S q) (hcl : x1 * 16 + x6 = Int32.ofNat cl) (hc2 : cl < 4112) (hx : 0 ≤ x1.toInt ∧ x1.toInt < 257) (hd : q.2 13 = -1 ∨ (0 ≤ (q.2 13).toInt ∧ (q.2 13).toInt < 257)) (hp : hg_at S.1 pg = some (.inr (9, f9))) (p1 : f9[1]? = some (.int (Int32.ofNat ins))) (p2 : f9[2]? = some (.int (Int32.ofNat out))) (p3 : f9[3]? = some (.int (Int32.ofNat pa))) (hr : hg_at S.1 rc = some (.inr (10, f10))) (r1 : f10[1]? = some (va_rf (some kA))) (r11 : f10[11]? = some (va_rf (some cA))) (hk : hg_at S.1 kA = some (.inl (G.1 0, L, .inl kf))) (hc : hg_at S.1 cA = some (.inl (G.1 2, pa, .inl cf))) (hb : ins + out ≤ L ∧ ins + out ≤ 62 ∧ pa ≤ 8) (hth : a = 0 → 0 ≤ (oB (thB cf) pa).toInt ∧ (oB (thB cf) pa).toInt < 257) (h9 : a = 0 → ¬ awR q (oB (thB cf) pa) → 0 ≤ (q.2 9).toInt ∧ (q.2 9).toInt < 257) : dc_wp (t69B G S (wO E) x1 (some pg) (some rc) x4 x5 x6 a) (fun z => ∃ S' q', z = .inl (S', x6 + 1) ∧ AW G E S' q' ∧ awT q q' cl x1 x6 a (oB (thB cf) pa) (oB (shB kf ins) out)) := by
  have t0 : (Int32.ofNat cl).toInt = (cl : Int) := Int32.toInt_ofNat_of_lt (by omega)
  have tcl : (Int32.ofNat cl).toInt.toNat = cl := by omega
  have rr : ∀ w x, awR (uC (awN q cl a (oB (thB cf) pa) (oB (shB kf ins) out)) 10 w) x = awR q x := fun w x => by
    show (0 ≤ x.toInt ∧ x.toInt < 257 ∧ ¬ (awN q cl a (oB (thB cf) pa) (oB (shB kf ins) out)).1 2 x.toInt.toNat = -1) = _
    rw [awN_2 ⟨by omega, by omega⟩]
    rfl
  delta t69B hm_AT_cell
  rw [hcl]
  refine (show dc_wp ((hg_chk S (some (wO E)) 11).bind _) _ from ?_)
  refine aw_c h ?_
  refine wq_call (not_w (a := a) h ⟨by omega, by omega⟩ hp p1 p2 p3 hr r1 r11 hk hc hb) (fun S1 g1 => ?_)
  rw [tcl] at g1
  refine wq_if (fun c => ?_) (fun c => ?_)
  · have n0 : ¬ a = 0 := by rw [c]; decide
    refine aw_c g1 ?_
    refine wq_call (ndb_w (y := x6) g1 hx (by rw [awN_c]; exact hd)) (fun S2 g2 => ?_)
    rcases g2 with ⟨k2, g2⟩ | ⟨k2, g2⟩
    · obtain ⟨z, e, S', q', e1, g3, g4⟩ := t116_w (x2 := some pg) (x3 := some rc) (x4 := x4) (x5 := x5) (a := a) g2 hcl hc2 hx (fun z => absurd z n0) (fun z => absurd z n0)
      refine ⟨z, e, S', q', e1, g3, Or.inl ⟨c, k2, ?_⟩⟩
      rcases g4 with ⟨-, g4⟩ | ⟨g5, -⟩
      · exact g4
      · exact absurd g5.1 n0
    · obtain ⟨z, e, S', q', e1, g3, g4⟩ := t116_w (x2 := some pg) (x3 := some rc) (x4 := x4) (x5 := x5) (a := a) g2 hcl hc2 hx (fun z => absurd z n0) (fun z => absurd z n0)
      refine ⟨z, e, S', q', e1, g3, Or.inr (Or.inl ⟨c, k2, ?_⟩)⟩
      rcases g4 with ⟨-, g4⟩ | ⟨g5, -⟩
      · exact g4
      · exact absurd g5.1 n0
  · refine aw_i g1 (i := 10) (by decide) (by decide) ?_
    refine aw_f g1 (j := 10) (by decide) (by decide) (fun S2 g2 => ?_)
    have ez : a = 0 → (uC (awN q cl a (oB (thB cf) pa) (oB (shB kf ins) out)) 10 ((awN q cl a (oB (thB cf) pa) (oB (shB kf ins) out)).2 10 + 1)).1 0 cl = oB (thB cf) pa := fun z => by
      show (awN q cl a (oB (thB cf) pa) (oB (shB kf ins) out)).1 0 cl = _
      rw [z, awN_0]
    have e9 : (uC (awN q cl a (oB (thB cf) pa) (oB (shB kf ins) out)) 10 ((awN q cl a (oB (thB cf) pa) (oB (shB kf ins) out)).2 10 + 1)).2 9 = q.2 9 := by
      rw [uC_n (by omega), awN_c]
    obtain ⟨z, e, S', q', e1, g3, g4⟩ := t116_w (x2 := some pg) (x3 := some rc) (x4 := x4) (x5 := x5) (a := a) g2 hcl hc2 hx (fun z => by rw [ez z]; exact hth z) (fun z y => by rw [ez z, rr] at y; rw [e9]; exact h9 z y)
    refine ⟨z, e, S', q', e1, g3, ?_⟩
    rcases g4 with ⟨g5, g4⟩ | ⟨g5, g4⟩
    · by_cases d : a = 0
      · refine Or.inr (Or.inr (Or.inr (Or.inl ⟨d, ?_, g4⟩)))
        have g6 := Classical.not_not.mp (fun z => g5 ⟨d, z⟩)
        rw [ez d, rr] at g6
        exact g6
      · exact Or.inr (Or.inr (Or.inl ⟨c, d, g4⟩))
    · obtain ⟨d, g6⟩ := g5
      rw [ez d, rr] at g6
      rw [ez d] at g4
      exact Or.inr (Or.inr (Or.inr (Or.inr ⟨d, g6, g4⟩)))
end ATU
