/-! loop each -/
section ALG8
variable {E : List (Int32 × Int32)} {s tm a l c s1 tm1 a1 l1 c1 c2 y : Int32} {p p1 : Int} {T : tT} {k : Nat} {ln e : Int32} {X : Nat → Prop}
theorem abo_0 (g1 : cB c1 X) (hX : ∀ k, X k → k < 27) (h0 : ¬ X 0) (hx : mm_pairs (cAb2 (cAb c1)) 2 = some c2) (hc : mm_caught c2 = some c) : gb c 0 = false := by
  have b1 := caught_b (pairs_b (cAb2_b (cAb_b g1 hX)) cB_2 hx) hc
  have n0 : ¬ xIn X 0 := fun y => y.elim (fun y => h0 y.2) (fun y => absurd y.1 (by omega))
  have n2 : ¬ xIn X 2 := fun y => y.elim (fun y => absurd y.1 (by omega)) (fun y => absurd y.1 (by omega))
  cases e : gb c 0
  · rfl
  · exfalso
    rcases (b1.1 0).mp e with ⟨-, z | z⟩ | ⟨z, -⟩ | ⟨z, -⟩
    · rcases z with ⟨⟨-, z⟩ | ⟨z, -⟩, -⟩ | ⟨z, -⟩
      · exact n0 z
      · exact n0 z
      · have z : (0 : Nat) = 1 := z
        omega
    · rcases z with ⟨⟨-, z⟩ | ⟨z, -⟩, -⟩ | ⟨z, -⟩
      · exact n2 z
      · exact n0 z
      · have z : (2 : Nat) = 1 := z
        omega
    · omega
    · omega
theorem BU_lt (hl : E.length ≤ 24) (h : BU E s tm a l p T c1 s1 tm1 a1 l1 p1) : ∀ k, cod T (E.map Prod.snd) k → k < 27 := by
  obtain ⟨-, -, -, -, -, -, w⟩ := h
  intro k z
  have := cod_lt T E k w z
  omega
theorem BU_agn (hk : EOK E s tm) (h : BU E s tm a l p T c1 s1 tm1 a1 l1 p1) (hs1 : s1.toInt ≤ 100000) (hy : mm_then c1 2 = some y) (hx : mm_pairs (cAb2 (cAb y)) 2 = some c2) (hc : mm_caught c2 = some c) : BU E s tm a l p (Tagn ln e (s1 + 1) T) c (s1 + 1) tm1 a1 l1 p1 := by
  have hq := BU_seq (ln := ln) h (BU_halt (ln := ln) (p1 := p1) (Int.le_refl _)) hy
  have hR := BU_un (x := (4, ln, -1, -1, -1, e)) hq (by show ¬ (4 : Int32) = 8; decide) (by show ¬ (4 : Int32) = 6; decide)
  have hb := BU_abo (ln := ln) (e := e) hk hR hs1 hx hc
  have b2 := then_b h.1 cB_2 hy
  have n0 : ¬ cod (t1 (4, ln, -1, -1, -1, e) (Tseq ln T (Thalt ln))) (E.map Prod.snd) 0 := fun z => by
    rcases (b2.1 0).mp ((hR.1.1 0).mpr z) with ⟨-, ⟨z, -⟩ | z⟩ | ⟨z, z'⟩
    · exact z rfl
    · have z : (0 : Nat) = 1 := z
      omega
    · exact z z'
  have c0 := abo_0 hR.1 (BU_lt hk.2.1 hR) n0 hx hc
  exact BU_lq (x := (6, ln, -1, -1, -1, -1)) hb rfl (fun z => by
    have z2 : gb c 0 = true := (hb.1.1 0).mpr z
    rw [c0] at z2
    cases z2)
end ALG8
