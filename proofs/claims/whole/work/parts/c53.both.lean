/-! advance of both, side by side -/
section CONG
variable {f g : Nat → Int32} {n : Nat}
theorem gp_congr (h : ∀ i, i < n → f i = g i) : ∀ (k p : Nat) (l : Int32) (c : Bool), gp f n k p l c = gp g n k p l c
  | 0, _, _, _ => rfl
  | k + 1, p, l, c => by
    show (if p < n then _ else _) = (if p < n then _ else _)
    by_cases hp : p < n
    · rw [if_pos hp, if_pos hp, h p hp, gp_congr h k, gp_congr h k, gp_congr h k]
    · rw [if_neg hp, if_neg hp]
theorem we_congr (h : ∀ i, i < n → f i = g i) : ∀ (k p : Nat), we f n k p = we g n k p
  | 0, _ => rfl
  | k + 1, p => by
    show (if p < n ∧ pln (f p) then _ else _) = (if p < n ∧ pln (g p) then _ else _)
    by_cases hp : p < n
    · rw [h p hp, we_congr h k]
    · rw [if_neg (fun z => hp z.1), if_neg (fun z => hp z.1)]
theorem ob_congr (h : ∀ i, i < n → f i = g i) : ∀ (k p : Nat) (l : Int32), ob f n k p l = ob g n k p l
  | 0, _, _ => rfl
  | k + 1, p, l => by
    show (if p < n then _ else _) = (if p < n then _ else _)
    by_cases hp : p < n
    · rw [if_pos hp, if_pos hp, h p hp, ob_congr h k]
    · rw [if_neg hp, if_neg hp]
theorem rtok_congr (h : ∀ i, i < n → f i = g i) {p q : Nat} {s : Int32} {w : Int64} (hq : q ≤ n) (r : rtok f n p q s w) : rtok g n p q s w := by
  rcases r with r | ⟨r1, r2, r3, r4, r5⟩ | ⟨r1, r2, r3, r4⟩
  · exact Or.inl r
  · refine Or.inr (Or.inl ⟨r1, ?_, ?_, r4, ?_⟩)
    · rw [← h p r1]; exact r2
    · rw [← we_congr h]; exact r3
    · rw [r5]
      exact wa_congr _ (fun i hi => h _ (by omega))
  · refine Or.inr (Or.inr ⟨r1, ?_, r3, ?_⟩)
    · rw [← h p r1]; exact r2
    · have e : (f p = 124 ∧ p + 1 < n ∧ f (p + 1) = 124) ↔ (g p = 124 ∧ p + 1 < n ∧ g (p + 1) = 124) := by
        rw [h p r1]
        constructor
        · rintro ⟨a, b, c⟩; exact ⟨a, b, by rw [← h _ b]; exact c⟩
        · rintro ⟨a, b, c⟩; exact ⟨a, b, by rw [h _ b]; exact c⟩
      rcases r4 with ⟨a, b⟩ | ⟨a, b, c⟩
      · exact Or.inl ⟨e.mp a, b⟩
      · exact Or.inr ⟨fun z => a (e.mpr z), b, by rw [← h p r1]; exact c⟩
end CONG
/-- the class's text is the reference's tape -/
def txR (M : md_S) (n : Nat) (f : Nat → Int32) : Prop := (0 ≤ (M.1 2).toInt ∧ (M.1 2).toInt ≤ 32768 ∧ n = (M.1 2).toInt.toNat) ∧ (∀ i, i < n → f i = M.2.1 1 i) ∧ ∀ i, (f i).toInt ≤ 127
theorem i_nn {a b : Int32} (h0 : 0 ≤ a.toInt) (h1 : 0 ≤ b.toInt) (h : a.toInt.toNat = b.toInt.toNat) : a = b := i_eq.mpr (by omega)
/-- what advance comes to, for both: the class's token or its throw, the reference's sort and word -/
def advB (G : hg_E) (S : hg_S) (M : md_S) (o tx n : Nat) (f : Nat → Int32) (fa : Int32) (z : hg_S ⊕ hg_X) (M' : md_S) : Prop :=
  radv M M' ∧ ((∃ S' j, z = .inl S' ∧ j < 33 ∧ lxv G S' o tx n f (some (G.2.1 j)) (M'.1 7) (M'.1 4) (M'.1 8) fa ∧ of1 S S' o ∧ tokS (some j) (M'.1 6) M'.2.2.1) ∨
    (∃ X : hg_X, ∃ q, z = .inr X ∧ X.2.2 = true ∧ X.2.1 = S.2.1 ∧ lxv G X.1 o tx n f (some (G.2.1 32)) (M'.1 7) q (M'.1 8) (1 + 8 * M'.1 8) ∧ X.1.2 = (S.2.1 + 1, S.2.2.1 - 1, S.2.2.2 - 6) ∧ (∀ b, b ≠ o → hg_at X.1.1 b = hg_at S.1 b) ∧ tokS none (M'.1 6) M'.2.2.1))
theorem adv_pure {G : hg_E} {S : hg_S} {M M' : md_S} {o tx n : Nat} {f : Nat → Int32} {to ln fa : Int32} {z : hg_S ⊕ hg_X} (ht : txR M n f) (h4 : M.1 4 = to) (h5 : M.1 5 = ln) (h0 : 0 ≤ to.toInt) (a : advP G S o tx n f to ln fa z) (r : radv M M') : advB G S M o tx n f fa z M' := by
  obtain ⟨⟨t1, t2, t3⟩, t4, t5⟩ := ht
  subst h4 h5
  refine ⟨r, ?_⟩
  obtain ⟨-, -, -, -, ⟨r5, r6, r7⟩, r8, r9⟩ := r
  obtain ⟨p, q, l, k, ⟨a1, a2, a3⟩, a4, a5, a6⟩ := a
  rw [← t3] at r8 r9
  rw [← gp_congr t4, a4] at r8
  have e1 : p.toInt.toNat = (M'.1 7).toInt.toNat := congrArg Prod.fst r8
  have e2 : l = M'.1 8 := congrArg Prod.snd r8
  have e3 : p = M'.1 7 := i_nn (by omega) (by omega) e1
  subst e2
  rw [e3] at a5 a2
  have r10 : rtok f n (M'.1 7).toInt.toNat (M'.1 4).toInt.toNat (M'.1 6) M'.2.2.1 := rtok_congr (fun i hi => (t4 i hi).symm) (by omega) r9
  obtain ⟨s1, s2⟩ := tok_same (t5 _) a5 r10
  cases k with
  | some j =>
    obtain ⟨g1, S', g2, g3, g4⟩ := a6
    have e4 : q = M'.1 4 := i_nn (by omega) (by omega) (s2 (by simp)).symm
    rw [e3, e4] at g3
    exact Or.inl ⟨S', j, g2, g1, g3, g4, s1⟩
  | none =>
    obtain ⟨X, g1, g2, g3, g4, g5, g6⟩ := a6
    rw [e3] at g4
    exact Or.inr ⟨X, q, g1, g2, g3, g4, g5, g6, s1⟩
theorem adv_both {G : hg_E} {sz : Nat} {S : hg_S} {M : md_S} {o tx n : Nat} {f : Nat → Int32} {tk : Option Nat} {fr to ln fa : Int32} (hok : lw_ok G sz) (ht : txR M n f) (h : lxv G S o tx n f tk fr to ln fa) (h4 : M.1 4 = to) (h5 : M.1 5 = ln) (h0 : 0 ≤ to.toInt) (h1 : to.toInt ≤ (n : Int)) (hr1 : 1 ≤ S.2.2.1) (hr2 : 6 ≤ S.2.2.2) : dc_wp (hm_LX_advance G S o) (fun z => dc_wp (mm_advance M) (fun M' => advB G S M o tx n f fa z M')) := by
  have t := ht.1
  obtain ⟨z, ez, hz⟩ := adv_w hok h h0 h1 (by omega) hr1 hr2
  obtain ⟨M', e, r⟩ := radv_w (M := M) (by rw [h4]; exact h0) (by rw [h4]; omega) t.2.1
  exact ⟨z, ez, M', e, adv_pure ht h4 h5 h0 hz r⟩
