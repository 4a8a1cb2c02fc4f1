/-! the class's atlas: what is noted of one state on one choice of inputs -/
/-- noted, counted, nearest doubt, state met -/
def awT (q q' : rsT) (cl : Nat) (x1 x6 a th sh : Int32) : Prop :=
  (a = 2 ∧ awQ (awN q cl a th sh) x1 ∧ q' = uC (uC (awN q cl a th sh) 13 x1) 14 x6) ∨ (a = 2 ∧ ¬ awQ (awN q cl a th sh) x1 ∧ q' = awN q cl a th sh) ∨ (¬ a = 2 ∧ ¬ a = 0 ∧ q' = uC (awN q cl a th sh) 10 ((awN q cl a th sh).2 10 + 1)) ∨ (a = 0 ∧ awR q th ∧ q' = uC (awN q cl a th sh) 10 ((awN q cl a th sh).2 10 + 1)) ∨ (a = 0 ∧ ¬ awR q th ∧ q' = awM (uC (awN q cl a th sh) 10 ((awN q cl a th sh).2 10 + 1)) th x1 x6)
theorem awN_2 {q : rsT} {cl : Nat} {a th sh : Int32} {j : Nat} (hj : ¬ j = 0 ∧ ¬ j = 1) : (awN q cl a th sh).1 j = q.1 j := by
  unfold awN
  by_cases c : a = 2
  · rw [if_pos c, uX_n hj.2, uX_n hj.1]
  · rw [if_neg c, uX_n hj.2, uX_n hj.1]
theorem awN_c {q : rsT} {cl : Nat} {a th sh : Int32} : (awN q cl a th sh).2 = q.2 := by
  unfold awN
  by_cases c : a = 2
  · rw [if_pos c]; rfl
  · rw [if_neg c]; rfl
theorem awN_0 {q : rsT} {cl : Nat} {th sh : Int32} : (awN q cl 0 th sh).1 0 cl = th := by
  unfold awN
  rw [if_neg (by decide), if_neg (by decide), uX_n (by omega), uX_s]
  exact upd_s
section ATT
variable {G : hg_E} {E : awP} {S : hg_S} {q : rsT} {x1 x6 x5 a th sh : Int32} {x2 x3 x4 : Option Nat} {cl : Nat}
theorem t116_w (h : AW G E S q) (hcl : x1 * 16 + x6 = Int32.ofNat cl) (hc2 : cl < 4112) (hx : 0 ≤ x1.toInt ∧ x1.toInt < 257) (hth : a = 0 → 0 ≤ (q.1 0 cl).toInt ∧ (q.1 0 cl).toInt < 257) (h9 : a = 0 → ¬ awR q (q.1 0 cl) → 0 ≤ (q.2 9).toInt ∧ (q.2 9).toInt < 257) : dc_wp (hm_AT_tryAll_L116 G S (wO E) x1 x2 x3 x4 x5 x6 a) (fun z => ∃ S' q', z = .inl (S', x6 + 1) ∧ AW G E S' q' ∧ ((¬ (a = 0 ∧ ¬ awR q (q.1 0 cl)) ∧ q' = q) ∨ ((a = 0 ∧ ¬ awR q (q.1 0 cl)) ∧ q' = awM q (q.1 0 cl) x1 x6))) := by
  have t0 : (Int32.ofNat cl).toInt = (cl : Int) := Int32.toInt_ofNat_of_lt (by omega)
  have tcl : (Int32.ofNat cl).toInt.toNat = cl := by omega
  have w0 : (wN 0 : Int) = 4112 := rfl
  delta hm_AT_tryAll_L116
  refine aw_g h (i := 0) (by decide) ?_
  delta hm_AT_cell
  rw [hcl]
  refine (show dc_wp ((hg_ld S (some (wB E 0)) (G.1 0) (Int32.ofNat cl)).bind _) _ from ?_)
  refine aw_l h (i := 0) (by decide) (by omega) (by omega) ?_
  rw [tcl]
  refine wq_if (fun c => ?_) (fun c => ⟨_, rfl, _, _, rfl, h, Or.inl ⟨fun z => c z.1, rfl⟩⟩)
  refine aw_c h ?_
  refine wq_call (rch_w h) (fun v hv => ?_)
  rcases hv with ⟨v1, v2⟩ | ⟨v1, v2⟩
  · rw [if_neg (by rw [v1]; decide)]
    exact ⟨_, rfl, _, _, rfl, h, Or.inl ⟨fun z => z.2 v2, rfl⟩⟩
  · rw [if_pos v1]
    refine aw_c h ?_
    refine wq_call (mt_w (z := x6) h (hth c) (Or.inr hx) (h9 c v2)) (fun S' g => ?_)
    exact ⟨_, rfl, _, _, rfl, g, Or.inr ⟨⟨c, v2⟩, rfl⟩⟩
end ATT
