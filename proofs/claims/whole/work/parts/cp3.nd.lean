/-! the class's atlas: the nearest doubt; has -/
section AWD
variable {G : hg_E} {E : awP} {S : hg_S} {q : rsT} {x y : Int32}
/-- state x is nearer than the doubt known -/
def awQ (q : rsT) (x : Int32) : Prop := q.2 13 = -1 ∨ q.1 2 x.toInt.toNat < q.1 2 (q.2 13).toInt.toNat ∨ (q.1 2 x.toInt.toNat = q.1 2 (q.2 13).toInt.toNat ∧ x < q.2 13)
theorem ndb_w (h : AW G E S q) (hx : 0 ≤ x.toInt ∧ x.toInt < 257) (hd : q.2 13 = -1 ∨ (0 ≤ (q.2 13).toInt ∧ (q.2 13).toInt < 257)) : dc_wp (hm_AT_noteDoubt G S (wO E) x y) (fun S' => (awQ q x ∧ AW G E S' (uC (uC q 13 x) 14 y)) ∨ (¬ awQ q x ∧ AW G E S' q)) := by
  have w2 : (wN 2 : Int) = 257 := rfl
  have yes : awQ q x → dc_wp (hm_AT_noteDoubt_L52 G S (wO E) x y) (fun S' => (awQ q x ∧ AW G E S' (uC (uC q 13 x) 14 y)) ∨ (¬ awQ q x ∧ AW G E S' q)) := by
    intro z
    delta hm_AT_noteDoubt_L52 hm_AT_noteDoubt_L57
    rw [if_neg (by decide)]
    refine aw_f h (j := 13) (by decide) (by decide) (fun S1 g1 => ?_)
    refine aw_f g1 (j := 14) (by decide) (by decide) (fun S2 g2 => ?_)
    delta hm_AT_noteDoubt_L72
    exact ⟨_, rfl, Or.inl ⟨z, g2⟩⟩
  have no : ¬ awQ q x → dc_wp (hm_AT_noteDoubt_L56 G S (wO E) x y) (fun S' => (awQ q x ∧ AW G E S' (uC (uC q 13 x) 14 y)) ∨ (¬ awQ q x ∧ AW G E S' q)) := by
    intro z
    delta hm_AT_noteDoubt_L56 hm_AT_noteDoubt_L57 hm_AT_noteDoubt_L72
    rw [if_pos rfl]
    exact ⟨_, rfl, Or.inr ⟨z, h⟩⟩
  delta hm_AT_noteDoubt
  refine aw_i h (i := 13) (by decide) (by decide) ?_
  refine wq_if (fun a => yes (Or.inl a)) (fun a => ?_)
  have hd' := hd.elim (fun z => absurd z a) id
  refine aw_g h (i := 2) (by decide) ?_
  refine aw_l h (i := 2) (by decide) hx.1 (by rw [w2]; exact hx.2) ?_
  refine aw_g h (i := 2) (by decide) ?_
  refine aw_i h (i := 13) (by decide) (by decide) ?_
  refine aw_l h (i := 2) (by decide) hd'.1 (by rw [w2]; exact hd'.2) ?_
  refine wq_if (fun b => yes (Or.inr (Or.inl b))) (fun b => ?_)
  refine aw_g h (i := 2) (by decide) ?_
  refine aw_l h (i := 2) (by decide) hx.1 (by rw [w2]; exact hx.2) ?_
  refine aw_g h (i := 2) (by decide) ?_
  refine aw_i h (i := 13) (by decide) (by decide) ?_
  refine aw_l h (i := 2) (by decide) hd'.1 (by rw [w2]; exact hd'.2) ?_
  refine wq_if (fun c => ?_) (fun c => no (fun z => z.elim a (fun z => z.elim b (fun z => c z.1))))
  refine aw_i h (i := 13) (by decide) (by decide) ?_
  exact wq_if (fun d => yes (Or.inr (Or.inr ⟨c, d⟩))) (fun d => no (fun z => z.elim a (fun z => z.elim b (fun z => d z.2))))
theorem has_w (h : AW G E S q) : dc_wp (hm_AT_has G S (wO E) x y) (fun v => (v = 1 ∧ awR q x ∧ ¬ y < 0 ∧ y < q.2 8) ∨ (v = 0 ∧ ¬ (awR q x ∧ ¬ y < 0 ∧ y < q.2 8))) := by
  have no : ¬ (awR q x ∧ ¬ y < 0 ∧ y < q.2 8) → dc_wp (hm_AT_has_L24 G S (wO E)) (fun v => (v = 1 ∧ awR q x ∧ ¬ y < 0 ∧ y < q.2 8) ∨ (v = 0 ∧ ¬ (awR q x ∧ ¬ y < 0 ∧ y < q.2 8))) := by
    intro z
    delta hm_AT_has_L24 hm_AT_has_L25
    exact zb_s (Or.inl rfl) ⟨_, rfl, Or.inr ⟨rfl, z⟩⟩
  delta hm_AT_has
  refine aw_c h ?_
  refine wq_call (rch_w h) (fun v hv => ?_)
  rcases hv with ⟨e, hv⟩ | ⟨e, hv⟩
  · rw [if_neg (by rw [e]; decide)]
    refine wq_if (fun a => no (fun z => z.2.1 a)) (fun a => ?_)
    refine aw_i h (i := 8) (by decide) (by decide) ?_
    refine wq_if (fun b => ?_) (fun b => no (fun z => b z.2.2))
    delta hm_AT_has_L25
    exact zb_s (Or.inr rfl) ⟨_, rfl, Or.inl ⟨rfl, hv, a, b⟩⟩
  · rw [if_pos e]
    exact no (fun z => hv z.1)
/-- the heap of now is the heap before -/
theorem AW_b (h : AW G E S q) : AW G (S, wO E, wB E) S q := ⟨⟨h.1.1, rfl, h.1.2.2⟩, h.2.1, fun _ _ _ => rfl⟩
theorem AW_o {S' : hg_S} (h : AW G E S q) (h0 : hw S') (hs : hg_at S'.1 (wO E) = hg_at S.1 (wO E)) (hb : ∀ i, i < 8 → hg_at S'.1 (wB E i) = hg_at S.1 (wB E i)) : AW G (S', wO E, wB E) S' q := ⟨⟨h0, rfl, h.1.2.2⟩, ⟨hs.trans h.2.1.1, fun i hi => (hb i hi).trans (h.2.1.2 i hi)⟩, fun _ _ _ => rfl⟩
end AWD
