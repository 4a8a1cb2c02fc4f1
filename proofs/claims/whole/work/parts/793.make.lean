/-- what the makers of nodes leave -/
def sb_M (S : md_S) (q : md_S × Int32) : Prop := sb_J q.1 ∧ sb_G S q.1 ∧ q.1.1 11 = S.1 11 ∧ q.1.1 10 = S.1 10 ∧ q.1.1 15 = S.1 15
theorem sb_M_tr {S : md_S} {q r : md_S × Int32} (h : sb_M S q) (k : sb_M q.1 r) : sb_M S r := ⟨k.1, sb_G_tr h.2.1 k.2.1, k.2.2.1.trans h.2.2.1, k.2.2.2.1.trans h.2.2.2.1, k.2.2.2.2.trans h.2.2.2.2⟩
theorem sb_E_M {S S2 : md_S} {q : md_S × Int32} (e : sb_E S S2) (k : sb_M S2 q) : sb_M S q := ⟨k.1, sb_G_tr (sb_E_G e) k.2.1, k.2.2.1.trans (e.1 11 (by decide)), k.2.2.2.1.trans (e.1 10 (by decide)), k.2.2.2.2.trans (e.1 15 (by decide))⟩
theorem jg_node {S : md_S} (k f g nu ln as : Int32) (j : sb_J S) : dc_pw (mm_node_IIIIII S k f g nu ln as) (fun q => sb_M S q ∧ (q.1.1 12 = 0 → sb_N S q.1 q.2 k f g nu as)) := by
  obtain ⟨c1, c2, c3, c4, c5, c6⟩ := j
  unfold mm_node_IIIIII
  refine pw_ifB (fun h => ?_) (fun h => ?_)
  · refine pw_letB ?_; rintro _ rfl
    refine pw_some ⟨⟨⟨c1, c2, c3, c4, c5, c6⟩, ?_, rfl, rfl, rfl⟩, fun h => absurd h sb_nz⟩
    obtain ⟨⟨a, b, c, d, e, f⟩, g⟩ := sb_G_rf (S := S)
    exact ⟨⟨a, b, c, d, fun h => absurd h sb_nz, f⟩, g⟩
  · refine pw_ixB 1200 rfl (fun j2 h2 ha hb => ?_)
    have k1 := i_lt.mp hb
    rw [il_1200] at k1
    have x1 : (S.1 27 + 1).toInt = (S.1 27).toInt + 1 := by rw [a_add, il_1]; omega
    have x3 := i_nat c1.1
    refine pw_letB ?_; rintro _ rfl
    refine pw_ixB 1200 rfl (fun j4 h4 _ _ => ?_)
    refine pw_letB ?_; rintro _ rfl
    refine pw_ixB 1200 rfl (fun j6 h6 _ _ => ?_)
    refine pw_letB ?_; rintro _ rfl
    refine pw_ixB 1200 rfl (fun j8 h8 _ _ => ?_)
    refine pw_letB ?_; rintro _ rfl
    refine pw_ixB 1200 rfl (fun j10 h10 _ _ => ?_)
    refine pw_letB ?_; rintro _ rfl
    refine pw_ixB 1200 rfl (fun j12 h12 _ _ => ?_)
    refine pw_letB ?_; rintro _ rfl
    refine pw_letB ?_; rintro _ rfl
    subst h2
    replace h4 : j4 = (S.1 27).toNatClampNeg := h4
    replace h6 : j6 = (S.1 27).toNatClampNeg := h6
    replace h8 : j8 = (S.1 27).toNatClampNeg := h8
    replace h10 : j10 = (S.1 27).toNatClampNeg := h10
    replace h12 : j12 = (S.1 27).toNatClampNeg := h12
    subst h4 h6 h8 h10 h12
    have hG : sb_G S (md_i (md_a (md_a (md_a (md_a (md_a (md_a S 30 (S.1 27).toNatClampNeg k) 31 (S.1 27).toNatClampNeg f) 32 (S.1 27).toNatClampNeg g) 33 (S.1 27).toNatClampNeg nu) 34 (S.1 27).toNatClampNeg ln) 35 (S.1 27).toNatClampNeg as) 27 (S.1 27 + 1)) := by
      refine ⟨⟨⟨?_, Int.le_refl _, Int.le_refl _, Int.le_refl _⟩, fun i hi => ?_, fun _ _ => ⟨rfl, rfl, rfl⟩, fun _ _ => rfl, id, id⟩, rfl, fun _ _ => rfl⟩
      · show (S.1 27).toInt ≤ (S.1 27 + 1).toInt; omega
      · have hn : ¬ i = (S.1 27).toNatClampNeg := by omega
        exact ⟨if_neg hn, if_neg hn, if_neg hn, if_neg hn, if_neg hn⟩
    refine pw_some ⟨⟨⟨?_, c2, c3, c4, c5, c6⟩, hG, rfl, rfl, rfl⟩, fun _ => ⟨⟨c1.1, k1⟩, a11 _, x1, rfl, ?_, hG⟩⟩
    · show 0 ≤ (S.1 27 + 1).toInt ∧ (S.1 27 + 1).toInt ≤ 1200; omega
    · have e : ((S.1 27 + 1) - 1).toInt.toNat = (S.1 27).toNatClampNeg := by rw [a11]; rfl
      show upd (S.2.1 30) (S.1 27).toNatClampNeg k ((S.1 27 + 1) - 1).toInt.toNat = k ∧ upd (S.2.1 31) (S.1 27).toNatClampNeg f ((S.1 27 + 1) - 1).toInt.toNat = f ∧ upd (S.2.1 32) (S.1 27).toNatClampNeg g ((S.1 27 + 1) - 1).toInt.toNat = g ∧ upd (S.2.1 33) (S.1 27).toNatClampNeg nu ((S.1 27 + 1) - 1).toInt.toNat = nu ∧ upd (S.2.1 35) (S.1 27).toNatClampNeg as ((S.1 27 + 1) - 1).toInt.toNat = as
      rw [e]
      exact ⟨sb_up .., sb_up .., sb_up .., sb_up .., sb_up ..⟩
/-- nodes made between -/
def sb_c (S q : md_S) : Int := (q.1 27).toInt - (S.1 27).toInt
theorem jg_leaf {S : md_S} (k nu ln : Int32) (j : sb_J S) : dc_pw (mm_leaf S k nu ln) (fun q => sb_M S q ∧ (q.1.1 12 = 0 → sb_c S q.1 = 1 ∧ ∀ (A : Int32 → Prop) (n0 n1 : Int32) (h : Nat), 1 ≤ h → n0.toInt ≤ n1.toInt → (k = 0 ∨ k = 1 ∨ (k = 2 ∧ 0 ≤ nu.toInt ∧ nu.toInt < (S.1 15).toInt) ∨ (k = 9 ∧ A nu)) → sb_Tr 1 n0 n1 q.1 A h q.2)) := by
  unfold mm_leaf
  refine pw_bind (jg_node k (-1) (-1) nu ln (-1) j) (fun q h => ?_)
  refine pw_some ⟨h.1, fun h0 => ⟨?_, fun A n0 n1 hh h1 hn hk => N_leaf (h.2 h0) (Int.le_refl _) h1 hn ?_⟩⟩
  · have := (h.2 h0).2.2.1; show (q.1.1 27).toInt - _ = _; omega
  · rcases hk with hk | hk | ⟨hk, h2, h3⟩ | hk
    · exact .inl hk
    · exact .inr (.inl hk)
    · exact .inr (.inr (.inl ⟨hk, i_le.mpr (by rw [il_0]; exact h2), i_lt.mpr (by rw [(h.2 h0).2.2.2.1]; exact h3)⟩))
    · exact .inr (.inr (.inr hk))
theorem sb_N_c {S q : md_S} {r k f g nu as : Int32} (n : sb_N S q r k f g nu as) : sb_c S q = 1 := by
  have := n.2.2.1; show (q.1 27).toInt - _ = _; omega
theorem sb_c_tr (S q r : md_S) : sb_c S r = sb_c S q + sb_c q r := by unfold sb_c; omega
theorem jg_halt {S : md_S} (ln : Int32) (j : sb_J S) : dc_pw (mm_halt S ln) (fun q => sb_M S q ∧ (q.1.1 12 = 0 → ∀ (A : Int32 → Prop) (n : Int32), sb_Tr (sb_c S q.1) n n q.1 A 3 q.2)) := by
  unfold mm_halt
  refine pw_bind (jg_leaf 1 (-1) ln j) (fun q1 h1 => ?_)
  refine pw_bind (jg_node 6 q1.2 (-1) (-1) ln (-1) h1.1.1) (fun q2 h2 => ?_)
  refine pw_some ⟨sb_M_tr h1.1 h2.1, fun h0 A n => ?_⟩
  have l1 := h1.2 (sb_G_gt h2.1.2.1 h0)
  rw [sb_c_tr S q1.1 q2.1, l1.1, sb_N_c (h2.2 h0)]
  exact N_un (h2.2 h0) (l1.2 _ n n 1 (Nat.le_refl _) (Int.le_refl _) (.inr (.inl rfl))) (.inr (.inl ⟨rfl, rfl⟩))
theorem jg_waiting {S : md_S} (ln e t : Int32) (j : sb_J S) : dc_pw (mm_waiting S ln e t) (fun q => sb_M S q ∧ (q.1.1 12 = 0 → sb_QS S e → ∀ (A : Int32 → Prop) (n : Int32), A t → sb_Tr (sb_c S q.1) n n q.1 A 8 q.2)) := by
  unfold mm_waiting
  refine pw_bind (jg_leaf 1 (-1) ln j) (fun q1 h1 => ?_)
  refine pw_bind (jg_leaf 9 t ln h1.1.1) (fun q2 h2 => ?_)
  refine pw_bind (jg_leaf 0 (-1) ln h2.1.1) (fun q3 h3 => ?_)
  refine pw_bind (jg_node 3 q2.2 q3.2 (-1) ln e h3.1.1) (fun q4 h4 => ?_)
  refine pw_bind (jg_node 5 q1.2 q4.2 (-1) ln (-1) h4.1.1) (fun q5 h5 => ?_)
  refine pw_bind (jg_node 6 q5.2 (-1) (-1) ln (-1) h5.1.1) (fun q6 h6 => ?_)
  have m3 := sb_M_tr h2.1 h3.1
  have m4 := sb_M_tr m3 h4.1
  refine pw_some ⟨sb_M_tr h1.1 (sb_M_tr m4 (sb_M_tr h5.1 h6.1)), fun g6 he A n hA => ?_⟩
  have g5 := sb_G_gt h6.1.2.1 g6
  have g4 := sb_G_gt h5.1.2.1 g5
  have g3 := sb_G_gt h4.1.2.1 g4
  have g2 := sb_G_gt h3.1.2.1 g3
  have g1 := sb_G_gt h2.1.2.1 g2
  have l1 := h1.2 g1; have l2 := h2.2 g2; have l3 := h3.2 g3
  have c6 := sb_N_c (h6.2 g6); have c5 := sb_N_c (h5.2 g5); have c4 := sb_N_c (h4.2 g4)
  have t1 := l1.2 A n n 3 (by omega) (Int.le_refl _) (.inr (.inl rfl))
  have t2 := l2.2 A n n 1 (by omega) (Int.le_refl _) (.inr (.inr (.inr ⟨rfl, hA⟩)))
  have t3 := l3.2 A n n 1 (by omega) (Int.le_refl _) (.inl rfl)
  have t4 := N_pres (h4.2 g4) (sb_Tr_G h3.1.2.1.1 t2) t3 (sb_QS_G (sb_G_tr h1.1.2.1 m3.2.1).1 _ he)
  have t5 := N_two (h5.2 g5) (sb_Tr_G m4.2.1.1 t1) t4 (.inl (by omega)) (.inl rfl)
  refine sb_Tr_mono (N_un (h6.2 g6) (sb_Tr_mono t5 (Int.le_refl _) (Nat.le_refl _) (fun x h => .inl h) (Int.le_refl _) (Int.le_refl _)) (.inr (.inl ⟨rfl, rfl⟩))) ?_ (Nat.le_refl _) (fun _ h => h) (Int.le_refl _) (Int.le_refl _)
  have l1 := l1.1; have l2 := l2.1; have l3 := l3.1
  dsimp only [sb_c] at *; omega
theorem sb_E_c {S q r : md_S} (e : sb_E S q) : sb_c S r = sb_c q r := by unfold sb_c; rw [e.1 27 (by decide)]
theorem jg_await {S : md_S} (ln e : Int32) (j : sb_J S) : dc_pw (mm_await S ln e) (fun q => sb_M S q ∧ (q.1.1 12 = 0 → sb_QS S e → ∀ (A : Int32 → Prop) (n : Int32), sb_Tr (sb_c S q.1) n n q.1 A 10 q.2)) := by
  unfold mm_await
  refine pw_letB ?_; rintro _ rfl
  refine pw_letB (fun v2 _ => ?_)
  refine pw_letB ?_; rintro _ rfl
  have ee : sb_E S (md_i (md_i S 20 (S.1 20 + 1)) 29 2) := sb_E_tr (sb_E_i rfl) (sb_E_i rfl)
  refine pw_bind (jg_waiting ln e v2 (sb_E_J ee j)) (fun q4 h4 => ?_)
  refine pw_bind (jg_node 8 q4.2 (-1) v2 ln (-1) h4.1.1) (fun q5 h5 => ?_)
  refine pw_some ⟨sb_E_M ee (sb_M_tr h4.1 h5.1), fun h0 he A n => ?_⟩
  rw [sb_E_c ee, sb_c_tr _ q4.1 q5.1, sb_N_c (h5.2 h0)]
  exact N_un (h5.2 h0) (h4.2 (sb_G_gt h5.1.2.1 h0) (sb_QS_G (sb_E_G ee).1 _ he) _ n (.inr ⟨rfl, rfl⟩)) (.inr (.inr ⟨rfl, rfl⟩))
theorem jg_aborted {S : md_S} (ln b e w i : Int32) (j : sb_J S) : dc_pw (mm_aborted S ln b e w i) (fun q => sb_M S q ∧ (q.1.1 12 = 0 → sb_QS S e → ∀ (c : Int) (n0 n1 : Int32) (A : Int32 → Prop) (h : Nat), sb_Tr c n0 n1 S A h b → sb_Tr (c + sb_c S q.1) n0 n1 q.1 A (max h 8 + 10) q.2)) := by
  have L78 : ∀ S2 x6 y0, sb_J S2 → sb_M S (S2, y0) → (S2.1 12 = 0 → sb_QS S e → ∀ (c : Int) (n0 n1 : Int32) (A : Int32 → Prop) (h : Nat), sb_Tr c n0 n1 S A h b → sb_Tr (c + sb_c S S2) n0 n1 S2 A (h + 2) y0) → dc_pw (mm_aborted_L78 S2 ln e x6 y0) (fun q => sb_M S q ∧ (q.1.1 12 = 0 → sb_QS S e → ∀ (c : Int) (n0 n1 : Int32) (A : Int32 → Prop) (h : Nat), sb_Tr c n0 n1 S A h b → sb_Tr (c + sb_c S q.1) n0 n1 q.1 A (max h 8 + 10) q.2)) := by
    intro S2 x6 y0 j2 m0 t0
    unfold mm_aborted_L78
    refine pw_bind (jg_leaf 9 x6 ln j2) (fun q1 h1 => ?_)
    refine pw_bind (jg_node 5 y0 q1.2 (-1) ln (-1) h1.1.1) (fun q2 h2 => ?_)
    refine pw_bind (jg_waiting ln e x6 h2.1.1) (fun q3 h3 => ?_)
    refine pw_bind (jg_node 7 q2.2 q3.2 (-1) ln (-1) h3.1.1) (fun q4 h4 => ?_)
    refine pw_bind (jg_node 8 q4.2 (-1) x6 ln (-1) h4.1.1) (fun q5 h5 => ?_)
    have m2 : sb_M S q2 := sb_M_tr m0 (sb_M_tr h1.1 h2.1)
    refine pw_some ⟨sb_M_tr m2 (sb_M_tr h3.1 (sb_M_tr h4.1 h5.1)), fun g5 he c n0 n1 A h t => ?_⟩
    have g4 := sb_G_gt h5.1.2.1 g5
    have g3 := sb_G_gt h4.1.2.1 g4
    have g2 := sb_G_gt h3.1.2.1 g3
    have g1 := sb_G_gt h2.1.2.1 g2
    have g0 := sb_G_gt h1.1.2.1 g1
    have l1 := h1.2 g1
    have c2 := sb_N_c (h2.2 g2); have c4 := sb_N_c (h4.2 g4); have c5 := sb_N_c (h5.2 g5)
    have t0 := t0 g0 he c n0 n1 (fun x => A x ∨ ((8 : Int32) = 8 ∧ x = x6)) h (sb_Tr_mono t (Int.le_refl _) (Nat.le_refl _) (fun x h => .inl h) (Int.le_refl _) (Int.le_refl _))
    have t1 := l1.2 (fun x => A x ∨ ((8 : Int32) = 8 ∧ x = x6)) n1 n1 (max h 8 + 2) (by omega) (Int.le_refl _) (.inr (.inr (.inr ⟨rfl, .inr ⟨rfl, rfl⟩⟩)))
    have t2 := N_two (h2.2 g2) (sb_Tr_G h1.1.2.1.1 t0) t1 (.inl (by omega)) (.inl rfl)
    have t3 := h3.2 g3 (sb_QS_G m2.2.1.1 _ he) (fun x => A x ∨ ((8 : Int32) = 8 ∧ x = x6)) n1 (.inr ⟨rfl, rfl⟩)
    have t4 := N_two (h4.2 g4) (sb_Tr_G h3.1.2.1.1 t2) (sb_Tr_mono (h2 := max h 8 + 5) t3 (Int.le_refl _) (by omega) (fun _ h => h) (Int.le_refl _) (Int.le_refl _)) (.inl (by omega)) (.inr rfl)
    refine sb_Tr_mono (N_un (h5.2 g5) t4 (.inr (.inr ⟨rfl, rfl⟩))) ?_ (Nat.le_refl _) (fun _ h => h) (Int.le_refl _) (Int.le_refl _)
    have l1 := l1.1
    dsimp only [sb_c] at *; omega
  have L49 : ∀ S2 x6 y0, sb_E S S2 → dc_pw (mm_aborted_L49 S2 ln b e w x6 y0) (fun q => sb_M S q ∧ (q.1.1 12 = 0 → sb_QS S e → ∀ (c : Int) (n0 n1 : Int32) (A : Int32 → Prop) (h : Nat), sb_Tr c n0 n1 S A h b → sb_Tr (c + sb_c S q.1) n0 n1 q.1 A (max h 8 + 10) q.2)) := by
    intro S2 x6 y0 ee
    unfold mm_aborted_L49
    refine pw_any (fun q7 => ?_)
    refine pw_any (fun q8 => ?_)
    refine pw_letB ?_; rintro _ rfl
    have e2 : sb_E S (md_i S2 29 q8) := sb_E_tr ee (sb_E_i rfl)
    refine pw_ifB (fun _ => ?_) (fun _ => ?_)
    · refine pw_bind (jg_node 4 b (-1) (-1) ln e (sb_E_J e2 j)) (fun q9 h9 => ?_)
      refine L78 _ _ _ h9.1.1 (sb_E_M e2 h9.1) (fun g he c n0 n1 A h t => ?_)
      have t' := sb_Tr_G (sb_E_G e2).1 t
      rw [sb_E_c e2, sb_N_c (h9.2 g)]
      exact N_un (h9.2 g) (sb_Tr_mono t' (Int.le_refl _) (Nat.le_refl _) (fun x h => .inl h) (Int.le_refl _) (Int.le_refl _)) (.inl ⟨rfl, sb_QS_G (sb_E_G e2).1 _ he⟩)
    · refine L78 _ _ _ (sb_E_J e2 j) (sb_E_M (q := (md_i S2 29 q8, b)) e2 ⟨sb_E_J e2 j, sb_G_rf, rfl, rfl, rfl⟩) (fun g he c n0 n1 A h t => ?_)
      have t' := sb_Tr_G (sb_E_G e2).1 t
      exact sb_Tr_mono t' (by rw [sb_E_c e2]; unfold sb_c; omega) (by omega) (fun _ h => h) (Int.le_refl _) (Int.le_refl _)
  unfold mm_aborted
  refine pw_letB ?_; rintro _ rfl
  refine pw_letB (fun v11 _ => ?_)
  refine pw_letB (fun v12 _ => ?_)
  exact pw_ifB (fun _ => L49 _ _ _ (sb_E_i rfl)) (fun _ => L49 _ _ _ (sb_E_i rfl))
theorem jg_again {S : md_S} (ln b e i : Int32) (j : sb_J S) : dc_pw (mm_again S ln b e i) (fun q => sb_M S q ∧ (q.1.1 12 = 0 → sb_QS S e → ∀ (c : Int) (n0 n1 : Int32) (A : Int32 → Prop) (h : Nat), 5 ≤ h → sb_Tr c n0 n1 S A h b → sb_Tr (c + sb_c S q.1) n0 n1 q.1 A (h + 15) q.2)) := by
  unfold mm_again
  refine pw_bind (jg_halt ln j) (fun q1 h1 => ?_)
  refine pw_bind (jg_node 5 b q1.2 (-1) ln (-1) h1.1.1) (fun q2 h2 => ?_)
  refine pw_any (fun q3 => ?_)
  refine pw_bind (jg_aborted ln q2.2 e 0 q3 h2.1.1) (fun q4 h4 => ?_)
  refine pw_bind (jg_node 6 q4.2 (-1) (-1) ln (-1) h4.1.1) (fun q5 h5 => ?_)
  have m2 := sb_M_tr h1.1 h2.1
  refine pw_some ⟨sb_M_tr m2 (sb_M_tr h4.1 h5.1), fun g5 he c n0 n1 A h hh t => ?_⟩
  have g4 := sb_G_gt h5.1.2.1 g5
  have g2 := sb_G_gt h4.1.2.1 g4
  have g1 := sb_G_gt h2.1.2.1 g2
  have c2 := sb_N_c (h2.2 g2); have c5 := sb_N_c (h5.2 g5)
  have t1 := h1.2 g1 A n1
  have t2 := N_two (h2.2 g2) (sb_Tr_G h1.1.2.1.1 t) (sb_Tr_mono (h2 := h) t1 (Int.le_refl _) (by omega) (fun _ h => h) (Int.le_refl _) (Int.le_refl _)) (.inl (Nat.le_refl _)) (.inl rfl)
  have t4 := h4.2 g4 (sb_QS_G m2.2.1.1 _ he) _ n0 n1 A _ t2
  refine sb_Tr_mono (N_un (h5.2 g5) (sb_Tr_mono t4 (Int.le_refl _) (Nat.le_refl _) (fun x h => .inl h) (Int.le_refl _) (Int.le_refl _)) (.inr (.inl ⟨rfl, rfl⟩))) ?_ (by omega) (fun _ h => h) (Int.le_refl _) (Int.le_refl _)
  dsimp only [sb_c] at *; omega
