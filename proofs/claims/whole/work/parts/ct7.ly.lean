/-! the reference's lay, whole -/
section LYW
variable {M : md_S} {cnt ins out pa : Nat}
theorem tbH_m {M' : md_S} (h : tbH M cnt ins out pa) (e1 : ∀ i, 45 ≤ i → i ≤ 47 → M'.1 i = M.1 i) (e87 : M'.1 87 = M.1 87) (er : M'.2.1 = M.2.1) : tbH M' cnt ins out pa := by
  unfold tbH
  rw [e1 45 (by omega) (by omega), e1 46 (by omega) (by omega), e1 47 (by omega) (by omega), e87, er]
  exact h
/-- with the highest bit all is false but for the first sixteen -/
theorem sN_0 {c : Nat} (h1 : 4096 ≤ c) (h2 : c < 8192) (h : sN c = 0) : c < 4112 := by
  have hb : ∀ p, p < 8 → c.testBit (11 - p) = false := fun p hp => by
    cases e : c.testBit (11 - p)
    · rfl
    · have := (bitN_t (ch := fun p => c.testBit (11 - p) = true) 8 p).mpr ⟨hp, e⟩
      have h : bitN (fun p => c.testBit (11 - p) = true) 8 = 0 := h
      rw [h, Nat.zero_testBit] at this
      cases this
  have z : c / 16 % 256 = 0 := by
    refine Nat.eq_of_testBit_eq (fun k => ?_)
    rw [Nat.zero_testBit, show (256 : Nat) = 2 ^ 8 from rfl, Nat.testBit_mod_two_pow, show c / 16 = c / 2 ^ 4 from rfl, Nat.testBit_div_two_pow]
    by_cases ck : k < 8
    · have := hb (7 - k) (by omega)
      rw [show 11 - (7 - k) = k + 4 by omega] at this
      rw [this, Bool.and_false]
    · rw [decide_eq_false ck, Bool.false_and]
  omega
/-- what lay leaves, told of the explored program -/
def LYo (M r : md_S) (cnt ins out pa n : Nat) : Prop := ((∀ k, ¬ (k = 0 ∨ k = 86 ∨ k = 106) → r.1 k = M.1 k) ∧ (∀ k, ¬ (99 ≤ k ∧ k ≤ 104) → r.2.1 k = M.2.1 k) ∧ r.1 0 = 0) ∧ (r.1 86 = 1 ∧ r.1 106 = Int32.ofNat n ∧ n ≤ 24000) ∧ (mxU r n ∧ mxL r n) ∧ nlM r (tbv r) n (out + pa + 1) ∧ (∀ j, j < out + pa + 1 → vr r n (tbv r j) 13 0 (r.2.1 100 j)) ∧ ∀ c, c < 8192 → tbC M cnt ins out pa c (r.2.2.2 c)
theorem lay_t (hH : tbH M cnt ins out pa) (h85 : M.1 85 = 1) : dc_wp (mm_lay_0 M) (fun r => ∃ n, r.2 = Int32.ofNat n ∧ LYo M r.1 cnt ins out pa n) := by
  have mi : ∀ i, ¬ i = 0 → (md_i M 0 0).1 i = M.1 i := fun i hi => by rw [md_i1, if_neg hi]
  have h1 : tbH (md_i M 0 0) cnt ins out pa := tbH_m hH (fun i a b => mi i (by omega)) (mi 87 (by omega)) rfl
  obtain ⟨-, -, ⟨e46, o31⟩, ⟨e47, p8⟩, -⟩ := id hH
  delta mm_lay_0 mm_lay_0_L13
  rw [if_neg (by rw [h85]; decide), f0_0]
  refine (show dc_wp (if (0 : Int32) = 0 then ((mm_tables (md_i M 0 0)).bind fun q18 => dc_let (md_i q18 106 0) fun S19 => mm_lay_0_L33 S19 0) else some (md_i M 0 0, 0)) _ from ?_)
  rw [if_pos rfl]
  refine wq_call (tb_t h1) ?_
  rintro Y ⟨⟨f1, f2⟩, hT⟩
  refine wq_let (fun Z eZ => ?_)
  have z2 : Z.2 = Y.2 := by rw [eZ]; rfl
  have zn : ∀ i, ¬ i = 106 → Z.1 i = (md_i M 0 0).1 i := fun i hi => by rw [eZ, md_i1, if_neg hi, f1]
  have trM : ∀ c i, trT (md_i M 0 0) cnt ins out pa c i ↔ trT M cnt ins out pa c i := fun c i => Iff.rfl
  refine wq_w (nl_L33 (M := Z) (F := out + pa + 1) (by omega) (by omega) ?_ (by rw [eZ, md_i1, if_pos rfl]) (fun i hi k k1 k2 => ?_)) ?_
  · rw [zn 46 (by omega), zn 47 (by omega), mi 46 (by omega), mi 47 (by omega), e46, e47, show out + pa + 1 - 1 = out + pa by omega, Int32.ofNat_add]
  · rw [z2]
    cases e : g64 (Y.2.2.2 k) i
    · rfl
    · obtain ⟨k', ⟨-, -, a | a⟩, -⟩ := (hT k k2 i).mp e
      · omega
      · have := sN_0 (by omega) k2 a.2.1
        omega
  · rintro ⟨r, w⟩ ⟨n, ew, ⟨g1, g2, g3⟩, g4, g5, g6, g7, g8, g9⟩
    have g1 : ∀ k, ¬ (k = 86 ∨ k = 106) → r.1 k = Z.1 k := g1
    have g2 : ∀ k, ¬ (99 ≤ k ∧ k ≤ 104) → r.2.1 k = Z.2.1 k := g2
    have g3 : r.2.2 = Z.2.2 := g3
    have et : tbv r = tbv Z := by unfold tbv; rw [g3]
    refine ⟨n, ew, ⟨fun k hk => ?_, fun k hk => ?_, ?_⟩, ⟨g4, g5⟩, ⟨g6, g7⟩, ?_, ?_, fun c hc => ?_⟩
    · show r.1 k = _
      rw [g1 k (by omega), zn k (by omega), mi k (by omega)]
    · show r.2.1 k = _
      rw [g2 k hk, z2, f2]
      rfl
    · show r.1 0 = 0
      rw [g1 0 (by omega), zn 0 (by omega), md_i1, if_pos rfl]
    · rw [et]; exact g8
    · rw [et]; exact g9
    · show tbC M cnt ins out pa c (r.2.2.2 c)
      rw [g3, z2]
      exact fun i => (hT c hc i).trans (trM c i)
end LYW
