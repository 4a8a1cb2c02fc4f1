/-! settle: extents, then places, parents, depths and weights, then codes, each by what it says of a node and those below -/
section SET1
variable {G : hg_E} {S S' : hg_S} {a5 a6 a7 m xA xc : Nat} {P : Nat → Nat} {c1 c2 : Nat → Option Nat} {xx : Nat → Int32} {F : Nat → Nat → Int32} {D : Nat → Int32}
theorem fU_u {F : Nat → Nat → Int32} {i k : Nat} {x : Int32} : fU F i k x i = upd (F i) k x := by
  funext k'
  by_cases c : k' = k
  · rw [c, fU_s, upd_s]
  · rw [fU_k c, upd_n c]
theorem ns {F : Nat → Nat → Int32} {i k : Nat} {x : Int32} {P : Nat → Nat} {a b : Option Nat} (hk : k = 4 ∨ k = 7 ∨ k = 8 ∨ k = 9 ∨ k = 10 ∨ k = 11 ∨ k = 12) : (nrow P a b (F i)).set k (.int x) = nrow P a b (fU F i k x i) := by
  rw [fU_u]
  rcases hk with rfl | rfl | rfl | rfl | rfl | rfl | rfl <;> rfl
theorem wn_l (v : DV G S a5 a6 a7 P m c1 c2 xA xc xx F D) {τ : Type} {E : Nat → Option τ} {Φ : τ → Prop} (kk : dc_wp (E a7) Φ) : dc_wp ((hg_gr S (some a5) 6 0).bind fun e => (hg_chk S e 7).bind E) Φ := by
  refine wq_gr (x := some a7) v.2.1 rfl ?_
  obtain ⟨-, -, -, -, ⟨e, md, cap, el, w6, -⟩, -⟩ := v
  exact wq_chk w6 kk
theorem exN_cg {F F' : Nat → Nat → Int32} {k : Nat} {c : Option Nat} (h : ∀ x, c = some x → F' x k = F x k) : exN F' k c = exN F k c := by
  cases c with
  | none => rfl
  | some x => exact h x rfl
theorem set1_w (v : DV G S a5 a6 a7 P m c1 c2 xA xc xx F D) {x1 : Int32} : dc_wp (dc_it (hm_DR_settle_s2 G a5 x1) (S, 0)) (fun S' => ∃ F', DV G S' a5 a6 a7 P m c1 c2 xA xc xx F' D ∧ frD P m a5 S S' ∧ (∀ i k, ¬ k = 7 → F' i k = F i k) ∧ ∀ i, i < m → F' i 7 = 1 + exN F' 7 (c1 i) + exN F' 7 (c2 i)) := by
  have hm := v.1.2
  have ti : ∀ k : Nat, k ≤ 300000 → (Int32.ofNat k).toInt = (k : Int) := fun k hk => Int32.toInt_ofNat_of_lt (by omega)
  refine dc_itK (fun k (q : hg_S × Int32) => ∃ i F', (i ≤ m ∧ q.2 = Int32.ofNat i ∧ k = m - i) ∧ DV G q.1 a5 a6 a7 P m c1 c2 xA xc xx F' D ∧ frD P m a5 S q.1 ∧ (∀ i k, ¬ k = 7 → F' i k = F i k) ∧ ∀ i', i' < i → F' i' 7 = 1 + exN F' 7 (c1 i') + exN F' 7 (c2 i')) ?_ m (S, 0) ⟨0, F, ⟨by omega, rfl, rfl⟩, v, frD.rf, fun _ _ _ => rfl, fun i' h => absurd h (by omega)⟩
  rintro k ⟨Sx, x⟩ ⟨i, F', ⟨h1, h2, h3⟩, w, fr, g1, g2⟩
  have h2 : x = Int32.ofNat i := h2
  subst h2
  have w : DV G Sx a5 a6 a7 P m c1 c2 xA xc xx F' D := w
  have fr : frD P m a5 S Sx := fr
  show dc_wp (hm_DR_settle_b2 G Sx a5 x1 (Int32.ofNat i)) _
  delta hm_DR_settle_b2
  refine wn_l w ?_
  refine wn_size w ?_
  refine wq_if (fun d => ?_) (fun d => ?_)
  · have d := i_lt.mp d
    rw [ti i (by omega), ti m (by omega)] at d
    have hi : i < m := by omega
    refine wn_l w ?_
    refine wn_get w hi ?_
    refine wq_chk (w.nd hi) ?_
    refine wq_gr (x := (c1 i).map P) (w.nd hi) rfl ?_
    refine wn_ext w (fun c hc => by have := w.ch hi (Or.inl hc); omega) ?_
    refine wq_gr (x := (c2 i).map P) (w.nd hi) rfl ?_
    refine wn_ext w (fun c hc => by have := w.ch hi (Or.inr hc); omega) ?_
    refine wn_pf w hi (by omega) (ns (by omega)) ?_
    intro S2 w2 fr2
    have a1 : Int32.ofNat i + 1 = Int32.ofNat (i + 1) := by
      rw [i_eq, i_addS (by rw [ti i (by omega), il_1]; omega), ti i (by omega), il_1, ti (i + 1) (by omega)]
      omega
    refine ⟨_, rfl, m - (i + 1), by omega, i + 1, _, ⟨by omega, a1, rfl⟩, w2, fr.tr fr2, fun i' k' hk' => (fU_k hk').trans (g1 i' k' hk'), fun i' hi' => ?_⟩
    have e1 : ∀ j, j < m → j ≤ i → exN (fU F' i 7 (1 + exN F' 7 (c1 i) + exN F' 7 (c2 i))) 7 (c1 j) = exN F' 7 (c1 j) := fun j hj hji => exN_cg (fun c hc => fU_i (by have := w.ch hj (Or.inl hc); omega))
    have e2 : ∀ j, j < m → j ≤ i → exN (fU F' i 7 (1 + exN F' 7 (c1 i) + exN F' 7 (c2 i))) 7 (c2 j) = exN F' 7 (c2 j) := fun j hj hji => exN_cg (fun c hc => fU_i (by have := w.ch hj (Or.inr hc); omega))
    rw [e1 i' (by omega) (by omega), e2 i' (by omega) (by omega)]
    by_cases ei : i' = i
    · subst ei
      exact fU_s
    · rw [fU_i ei]
      exact g2 i' (by omega)
  · have d : ¬ (Int32.ofNat i).toInt < (Int32.ofNat m).toInt := fun z => d (i_lt.mpr z)
    rw [ti i (by omega), ti m (by omega)] at d
    exact ⟨_, rfl, F', w, fr, g1, fun i' hi' => g2 i' (by omega)⟩
/-- what hang writes -/
def hgF (F : Nat → Nat → Int32) (i c : Nat) (pl more : Int32) : Nat → Nat → Int32 := fU (fU (fU (fU F c 8 pl) c 9 (F i 8)) c 10 (F i 10 + (if F i 0 = 8 then 1 else 0))) c 11 (F i 11 + more)
theorem hang_w (v : DV G S a5 a6 a7 P m c1 c2 xA xc xx F D) {i c : Nat} (hi : i < m) (hc : c < m) (n : ¬ i = c) {pl more : Int32} : dc_wp (hm_DR_hang G S (some (P c)) (some (P i)) pl more) (fun S' => DV G S' a5 a6 a7 P m c1 c2 xA xc xx (hgF F i c pl more) D ∧ frD P m a5 S S') := by
  delta hm_DR_hang
  refine wn_pf v hc (by omega) (ns (by omega)) ?_
  intro S1 w1 f1
  refine wq_gi (x := F i 8) (w1.nd hi) (by show some (Value.int (fU F c 8 pl i 8)) = _; rw [fU_i n]) ?_
  refine wn_pf w1 hc (by omega) (ns (by omega)) ?_
  intro S2 w2 f2
  have n2 : ∀ k, fU (fU F c 8 pl) c 9 (F i 8) i k = F i k := fun k => by rw [fU_i n, fU_i n]
  refine wq_gi (x := F i 10) (w2.nd hi) (by show some (Value.int (fU (fU F c 8 pl) c 9 (F i 8) i 10)) = _; rw [n2]) ?_
  refine wq_gi (x := F i 0) (w2.nd hi) (by show some (Value.int (fU (fU F c 8 pl) c 9 (F i 8) i 0)) = _; rw [n2]) ?_
  have key : ∀ y0 : Int32, y0 = (if F i 0 = 8 then 1 else 0) → dc_wp (hm_DR_hang_L32 G S2 (some (P c)) (some (P i)) more y0 (F i 10) (some (P c))) (fun S' => DV G S' a5 a6 a7 P m c1 c2 xA xc xx (hgF F i c pl more) D ∧ frD P m a5 S S') := by
    intro y0 hy
    subst hy
    delta hm_DR_hang_L32
    refine wn_pf w2 hc (by omega) (ns (by omega)) ?_
    intro S3 w3 f3
    refine wq_gi (x := F i 11) (w3.nd hi) (by show some (Value.int (fU (fU (fU F c 8 pl) c 9 (F i 8)) c 10 _ i 11)) = _; rw [fU_i n, n2]) ?_
    refine wn_pf w3 hc (by omega) (ns (by omega)) ?_
    intro S4 w4 f4
    exact ⟨_, rfl, w4, ((f1.tr f2).tr f3).tr f4⟩
  refine wq_if (fun z => ?_) (fun z => ?_)
  · exact key 1 (if_pos z).symm
  · exact key 0 (if_neg z).symm
theorem hgF_n {F : Nat → Nat → Int32} {i c i' k' : Nat} {pl more : Int32} (h : ¬ i' = c ∨ ¬ (8 ≤ k' ∧ k' ≤ 11)) : hgF F i c pl more i' k' = F i' k' := by
  unfold hgF
  rcases h with h | h
  · rw [fU_i h, fU_i h, fU_i h, fU_i h]
  · rw [fU_k (by omega), fU_k (by omega), fU_k (by omega), fU_k (by omega)]
theorem hgF_c {F : Nat → Nat → Int32} {i c : Nat} {pl more : Int32} : hgF F i c pl more c 8 = pl ∧ hgF F i c pl more c 9 = F i 8 ∧ hgF F i c pl more c 10 = F i 10 + (if F i 0 = 8 then 1 else 0) ∧ hgF F i c pl more c 11 = F i 11 + more := by
  unfold hgF
  refine ⟨?_, ?_, ?_, ?_⟩
  · rw [fU_k (by omega), fU_k (by omega), fU_k (by omega), fU_s]
  · rw [fU_k (by omega), fU_k (by omega), fU_s]
  · rw [fU_k (by omega), fU_s]
  · exact fU_s
end SET1
