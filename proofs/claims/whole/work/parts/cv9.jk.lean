/-! a call that looks, or throws, leaves what holds between calls -/
section JLK
variable {Ks : md_S → Prop} {G : hg_E} {S S' : hg_S} {M M' : md_S} {sz k : Nat}
theorem jO_f {t oA oN cap : Nat} {bA bN : Nat → Nat} {ta tn : Value} (h : jO G S t oA oN cap bA bN ta tn) (hA : ta = .ref oA → hg_at S'.1 oA = hg_at S.1 oA ∧ ∀ i, i < 8 → hg_at S'.1 (bA i) = hg_at S.1 (bA i)) (hN : tn = .ref oN → hg_at S'.1 oN = hg_at S.1 oN ∧ ∀ i, i < 9 → hg_at S'.1 (bN i) = hg_at S.1 (bN i)) : jO G S' t oA oN cap bA bN ta tn := by
  obtain ⟨h1, h2, h3⟩ := h
  refine ⟨?_, ?_, h3⟩
  · rcases h1 with h1 | ⟨a1, ⟨X, c, a2⟩, a3⟩
    · exact Or.inl h1
    · exact Or.inr ⟨a1, ⟨X, c, ATv_f a2 (hA a1).1 (hA a1).2⟩, a3⟩
  · rcases h2 with h1 | ⟨a1, ⟨X, c, a2⟩, a3⟩
    · exact Or.inl h1
    · exact Or.inr ⟨a1, ⟨X, c, NTv_f a2 (hN a1).1 (hN a1).2⟩, a3⟩
/-- where atlas and net lie: below what is free -/
theorem jO_lt {t oA oN cap : Nat} {bA bN : Nat → Nat} {ta tn : Value} (h0 : hw S) (h : jO G S t oA oN cap bA bN ta tn) : (ta = .ref oA → oA < S.2.1 ∧ ∀ i, i < 8 → bA i < S.2.1) ∧ (tn = .ref oN → oN < S.2.1 ∧ ∀ i, i < 9 → bN i < S.2.1) := by
  obtain ⟨h1, h2, -⟩ := h
  constructor
  · intro e
    rcases h1 with h1 | ⟨-, ⟨X, c, a2⟩, -⟩
    · rw [h1] at e; cases e
    · exact ⟨h0.lt a2.1, fun i hi => h0.lt (a2.2 i hi)⟩
  · intro e
    rcases h2 with h1 | ⟨-, ⟨X, c, a2⟩, -⟩
    · rw [h1] at e; cases e
    · exact ⟨h0.lt a2.1, fun i hi => h0.lt (a2.2 i hi)⟩
theorem LDp_lt {u t0 n ps sg io pa : Nat} {T : tT} {R : Nat → Nat → Int32} {c : Nat → Int32} {X : Nat → Nat → Int32} {cn hf sf : Nat → Int32} (h0 : hw S) (h : LDp G S M u t0 T n ps sg io pa R c X cn hf sf) : u + 32 ≤ S.2.1 := by
  have := h0.lt h.2.2.2.1.1
  omega
/-- all that lies below stays, little room is used, the reference only notes how it ended -/
theorem wJ_k (hKs : ∀ e, Ks (md_i M 0 e)) (h : wJ Ks G sz k S M) (h0 : hw S') (hb : ∀ b, b < S.2.1 → hg_at S'.1 b = hg_at S.1 b) (hl : S.2.1 ≤ S'.2.1) (c1 : S.2.2.1 ≤ S'.2.2.1 + 1) (c2 : S.2.2.2 ≤ S'.2.2.2 + 6) (e : Int32) : wJ Ks G sz (k + 1) S' (md_i M 0 e) := by
  obtain ⟨t, N, g, nn, f, st, en, rn, ex, la, pg, rc, hd, sh, ta, tn, oA, oN, cap, bA, bN, -, ⟨hT, hsz⟩, hO, hR, hP⟩ := h
  have mi : ∀ i, ¬ i = 0 → (md_i M 0 e).1 i = M.1 i := fun i hi => by rw [md_i1, if_neg hi]
  have m2 : (md_i M 0 e).2 = M.2 := rfl
  obtain ⟨⟨⟨v1, v2⟩, w0, ot⟩, ⟨t1, t2, t3⟩, t4, t5⟩ := id hT
  obtain ⟨lA, lN⟩ := jO_lt w0 hO
  have fA : ta = .ref oA → hg_at S'.1 oA = hg_at S.1 oA ∧ ∀ i, i < 8 → hg_at S'.1 (bA i) = hg_at S.1 (bA i) := fun z => ⟨hb _ (lA z).1, fun i hi => hb _ ((lA z).2 i hi)⟩
  have fN : tn = .ref oN → hg_at S'.1 oN = hg_at S.1 oN ∧ ∀ i, i < 9 → hg_at S'.1 (bN i) = hg_at S.1 (bN i) := fun z => ⟨hb _ (lN z).1, fun i hi => hb _ ((lN z).2 i hi)⟩
  have jm : jM M (md_i M 0 e) := ⟨fun i hi => mi i (by omega), fun i hi => by rw [m2], by rw [m2]⟩
  refine ⟨t, N, g, nn, f, st, en, rn, ex, la, pg, rc, hd, sh, ta, tn, oA, oN, cap, bA, bN, hKs e, ⟨⟨⟨⟨by rw [hb _ (w0.lt v1)]; exact v1, by rw [hb _ (w0.lt v2)]; exact v2⟩, h0, ot⟩, ⟨by rw [mi 2 (by decide)]; exact t1, by rw [mi 3 (by decide)]; exact t2, by rw [m2]; exact t3⟩, t4, t5⟩, by omega⟩, jO_f hO fA fN, ?_, ?_⟩
  · obtain ⟨kA, kN, x, r1, r2, r3, r4⟩ := hR
    exact ⟨kA, kN, x, r1, r2, by omega, by omega⟩
  · rcases hP with ⟨p1, p2, p3, p4⟩ | ⟨u, t0, T, n, ps, sg, io, pa, R, c, X, cn, hf, sf, p1, ⟨p2, p3, p4⟩, p5, p6⟩
    · exact Or.inl ⟨zI_f p1 (fun i hi => mi i (by omega)) rfl rfl, p2, p3, p4⟩
    · have lu := LDp_lt w0 p2
      exact Or.inr ⟨u, t0, T, n, ps, sg, io, pa, R, c, X, cn, hf, sf, p1, ⟨LDp_f p2 (fun b _ b2 => hb b (by omega)) p5.1.2 ⟨fun i a b => mi i (by omega), fun i hi => by rw [m2]⟩ rfl rfl rfl, LDe_f p3 (fun i hi => mi i (by omega)) rfl, by rw [mi 41 (by decide)]; exact p4⟩, p5, jX_f p6 (by omega) fA fN jm⟩
/-- a look: nothing is written -/
theorem wJ_l (hKs : ∀ e, Ks (md_i M 0 e)) (h : wJ Ks G sz k S M) (e : Int32) : wJ Ks G sz (k + 1) S (md_i M 0 e) := by
  have h0 : hw S := by
    obtain ⟨t, N, g, nn, f, st, en, rn, ex, la, pg, rc, hd, sh, ta, tn, oA, oN, cap, bA, bN, -, ⟨⟨⟨-, w0, -⟩, -⟩, -⟩, -⟩ := h
    exact w0
  exact wJ_k hKs h h0 (fun _ _ => rfl) (Nat.le_refl _) (by omega) (by omega) e
/-- something was thrown -/
theorem wJ_x (hKs : ∀ e, Ks (md_i M 0 e)) (h : wJ Ks G sz k S M) (r1 : 1 ≤ S.2.2.1) (r2 : 6 ≤ S.2.2.2) (e : Int32) : wJ Ks G sz (k + 1) (S.1, S.2.1 + 1, S.2.2.1 - 1, S.2.2.2 - 6) (md_i M 0 e) := by
  have h0 : hw S := by
    obtain ⟨t, N, g, nn, f, st, en, rn, ex, la, pg, rc, hd, sh, ta, tn, oA, oN, cap, bA, bN, -, ⟨⟨⟨-, w0, -⟩, -⟩, -⟩, -⟩ := h
    exact w0
  refine wJ_k (S' := (S.1, S.2.1 + 1, S.2.2.1 - 1, S.2.2.2 - 6)) hKs h (fun b hb => h0 b (by have hb : S.2.1 + 1 ≤ b := hb; omega)) (fun _ _ => rfl) (by show S.2.1 ≤ S.2.1 + 1; omega) (by show S.2.2.1 ≤ S.2.2.1 - 1 + 1; omega) (by show S.2.2.2 ≤ S.2.2.2 - 6 + 6; omega) e
/-- there is room for what a call may want -/
theorem wJ_r (h : wJ Ks G sz k S M) (hk : k ≤ 512) : 100000 ≤ S.2.2.1 ∧ 3000000 ≤ S.2.2.2 := by
  obtain ⟨t, N, g, nn, f, st, en, rn, ex, la, pg, rc, hd, sh, ta, tn, oA, oN, cap, bA, bN, -, ⟨hT, -⟩, hO, ⟨kA, kN, x, r1, r2, r3, r4⟩, -⟩ := h
  have nb := hT.2.2.2
  have cx : 256 * 2 ^ x ≤ 32768 ∧ x ≤ 7 := by
    have hx : 256 * 2 ^ x ≤ 32768 := by
      rcases r2 with ⟨-, -, e⟩ | ⟨e, -, ec⟩
      · rw [e]; decide
      · rw [← ec]
        rcases hO.2.1 with z | ⟨-, -, -, -, z⟩
        · rw [z] at e; cases e
        · exact z
    refine ⟨hx, ?_⟩
    rcases Nat.lt_or_ge x 8 with h | h
    · omega
    · have := Nat.pow_le_pow_right (show 0 < 2 by decide) h
      have e8 : (2 : Nat) ^ 8 = 256 := by decide
      omega
  have kn : kN ≤ 1 := by rcases r2 with ⟨-, e, -⟩ | ⟨-, e, -⟩ <;> omega
  omega
end JLK
