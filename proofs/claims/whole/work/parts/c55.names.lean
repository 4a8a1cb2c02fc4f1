/-! names: whether two places read alike -/
def eqs (f : Nat → Int32) (a la b lb : Int32) : Prop := la = lb ∧ ∀ i, i < la.toInt.toNat → f (a.toInt.toNat + i) = f (b.toInt.toNat + i)
theorem same_w {M : md_S} {a la b lb : Int32} (a0 : 0 ≤ a.toInt) (l0 : 0 ≤ la.toInt) (a1 : a.toInt + la.toInt ≤ 32768) (b0 : 0 ≤ b.toInt) (b1 : la = lb → b.toInt + la.toInt ≤ 32768) : dc_wp (mm_same M a la b lb) (fun q => (eqs (M.2.1 1) a la b lb ∧ q = 1) ∨ (¬ eqs (M.2.1 1) a la b lb ∧ q = 0)) := by
  have zb : ∀ q : Int32, (q = 0 ∨ q = 1) → mm_same_L61 M q = some q := by
    intro q hq
    show (dc_zb q).bind (fun _ => some q) = some q
    rw [show dc_zb q = some () from if_pos hq]
    rfl
  delta mm_same
  refine wq_if (fun c1 => ?_) (fun c1 => ?_)
  · have b1 := b1 c1
    show dc_wp (mm_same_L16 M a la b 1 0) _
    delta mm_same_L16
    refine wq_call (P := fun q : Int32 => (eqs (M.2.1 1) a la b lb ∧ q = 1) ∨ (¬ eqs (M.2.1 1) a la b lb ∧ q = 0)) ?_ ?_
    · refine dc_itK (fun k (q : Int32 × Int32) => (0 ≤ q.2.toInt ∧ q.2.toInt ≤ la.toInt) ∧ k = 1 + la.toInt.toNat - q.2.toInt.toNat ∧ ((q.1 = 1 ∧ ∀ i, i < q.2.toInt.toNat → M.2.1 1 (a.toInt.toNat + i) = M.2.1 1 (b.toInt.toNat + i)) ∨ (q.1 = 0 ∧ ¬ eqs (M.2.1 1) a la b lb))) ?_ (1 + la.toInt.toNat) (1, 0) ⟨⟨by show 0 ≤ (0 : Int32).toInt; rw [il_0]; omega, by show (0 : Int32).toInt ≤ _; rw [il_0]; omega⟩, by show _ = 1 + la.toInt.toNat - (0 : Int32).toInt.toNat; rw [il_0]; rfl, Or.inl ⟨rfl, fun i hi => by have hi : i < (0 : Int32).toInt.toNat := hi; rw [il_0] at hi; exact absurd hi (Nat.not_lt_zero i)⟩⟩
      rintro k ⟨e, x⟩ ⟨⟨x0, x1⟩, hk, hx⟩
      have x0 : 0 ≤ x.toInt := x0
      have x1 : x.toInt ≤ la.toInt := x1
      have hk : k = 1 + la.toInt.toNat - x.toInt.toNat := hk
      have hx : (e = 1 ∧ ∀ i, i < x.toInt.toNat → M.2.1 1 (a.toInt.toNat + i) = M.2.1 1 (b.toInt.toNat + i)) ∨ (e = 0 ∧ ¬ eqs (M.2.1 1) a la b lb) := hx
      show dc_wp (mm_same_b16 M a la b e x) _
      delta mm_same_b16
      refine wq_if (fun c2 => ?_) (fun c2 => ?_)
      · have c3 := i_lt.mp c2
        refine wq_if (fun c4 => ?_) (fun c4 => ?_)
        · rcases hx with ⟨h1, -⟩ | ⟨h1, h2⟩
          · rw [h1] at c4; exact absurd c4 (by decide)
          · exact ⟨_, rfl, Or.inr ⟨h2, h1⟩⟩
        · rcases hx with ⟨h1, h2⟩ | ⟨h1, -⟩
          · have ax : (a + x).toInt = a.toInt + x.toInt := i_addS (by omega)
            have bx : (b + x).toInt = b.toInt + x.toInt := i_addS (by omega)
            have x1' : (x + 1).toInt = x.toInt + 1 := by rw [i_addS (by rw [il_1]; omega), il_1]
            refine wq_ix (by omega) (by omega) ?_
            refine wq_ix (by omega) (by omega) ?_
            rw [ax, bx, show (a.toInt + x.toInt).toNat = a.toInt.toNat + x.toInt.toNat by omega, show (b.toInt + x.toInt).toNat = b.toInt.toNat + x.toInt.toNat by omega]
            refine wq_if (fun c5 => ?_) (fun c5 => ?_)
            · refine ⟨_, rfl, 1 + la.toInt.toNat - (x + 1).toInt.toNat, by omega, ⟨by show 0 ≤ (x + 1).toInt; omega, by show (x + 1).toInt ≤ _; omega⟩, rfl, Or.inl ⟨rfl, fun i hi => ?_⟩⟩
              have hi : i < (x + 1).toInt.toNat := hi
              by_cases c6 : i = x.toInt.toNat
              · rw [c6]; exact c5
              · exact h2 i (by omega)
            · refine ⟨_, rfl, 1 + la.toInt.toNat - (x + 1).toInt.toNat, by omega, ⟨by show 0 ≤ (x + 1).toInt; omega, by show (x + 1).toInt ≤ _; omega⟩, rfl, Or.inr ⟨rfl, fun z => c5 (z.2 x.toInt.toNat (by omega))⟩⟩
          · exact absurd h1 c4
      · have c3 : ¬ x.toInt < la.toInt := fun z => c2 (i_lt.mpr z)
        refine ⟨_, rfl, ?_⟩
        rcases hx with ⟨h1, h2⟩ | ⟨h1, h2⟩
        · exact Or.inl ⟨⟨c1, fun i hi => h2 i (by omega)⟩, h1⟩
        · exact Or.inr ⟨h2, h1⟩
    · rintro q hq
      rw [zb q (by rcases hq with ⟨-, h⟩ | ⟨-, h⟩; exact Or.inr h; exact Or.inl h)]
      exact ⟨q, rfl, hq⟩
  · show dc_wp (mm_same_L16 M a la b 0 0) _
    delta mm_same_L16
    refine wq_call (P := fun q : Int32 => q = 0) ?_ ?_
    · rw [dc_it_eq]
      show dc_wp ((mm_same_b16 M a la b 0 0).bind _) _
      delta mm_same_b16
      by_cases c2 : (0 : Int32) < la
      · rw [if_pos c2, if_pos rfl]
        exact ⟨_, rfl, rfl⟩
      · rw [if_neg c2]
        exact ⟨_, rfl, rfl⟩
    · rintro q rfl
      rw [zb 0 (Or.inl rfl)]
      exact ⟨0, rfl, Or.inr ⟨fun z => c1 z.1, rfl⟩⟩
/-- a table of names -/
def nmv (G : hg_E) (S : hg_S) (a tx fA eA sA cap : Nat) (ff ee ss : Nat → Int32) (made sc : Int32) : Prop :=
  hg_at S.1 a = some (.inr (3, [.ref tx, .ref fA, .ref eA, .ref sA, .int made, .int sc])) ∧ hg_at S.1 fA = some (.inl (G.1 0, cap, .inl ff)) ∧ hg_at S.1 eA = some (.inl (G.1 0, cap, .inl ee)) ∧ hg_at S.1 sA = some (.inl (G.1 0, cap, .inl ss))
theorem reads_w {G : hg_E} {S : hg_S} {a tx fA eA sA cap o n : Nat} {ff ee ss f : Nat → Int32} {made sc p : Int32} {tk : Option Nat} {fr to ln fa : Int32} (h : nmv G S a tx fA eA sA cap ff ee ss made sc) (v : lxv G S o tx n f tk fr to ln fa) (p0 : 0 ≤ p.toInt) (p1 : p.toInt < (cap : Int)) (f0 : 0 ≤ (ff p.toInt.toNat).toInt) (e0 : 0 ≤ (ee p.toInt.toNat).toInt) (fe : (ff p.toInt.toNat).toInt + (ee p.toInt.toNat).toInt ≤ (n : Int)) (fr0 : 0 ≤ fr.toInt) (frt : fr.toInt ≤ to.toInt) (tn : to.toInt ≤ (n : Int)) (hn : n ≤ 100000) : dc_wp (hm_NM_reads G S a p (some o)) (fun q => (eqs f (ff p.toInt.toNat) (ee p.toInt.toNat) fr (to - fr) ∧ q = 1) ∨ (¬ eqs f (ff p.toInt.toNat) (ee p.toInt.toNat) fr (to - fr) ∧ q = 0)) := by
  have d1 : (to - fr).toInt = to.toInt - fr.toInt := i_subS (by omega)
  delta hm_NM_reads
  refine wq_gr (x := some eA) h.1 rfl ?_
  refine wq_ld h.2.2.1 p0 p1 ?_
  refine wq_gi (x := to) v.1 rfl ?_
  refine wq_gi (x := fr) v.1 rfl ?_
  generalize hla : ee p.toInt.toNat = la at *
  generalize hA : ff p.toInt.toNat = A at *
  refine wq_if (fun c1 => ?_) (fun c1 => ⟨_, rfl, Or.inr ⟨fun z => c1 z.1, rfl⟩⟩)
  have c0 : la.toInt = to.toInt - fr.toInt := by rw [c1, d1]
  delta hm_NM_reads_L22
  refine wq_call (P := Sum.elim (fun _ : Unit => ¬ eqs f A la fr (to - fr)) (fun _ : Unit => eqs f A la fr (to - fr))) ?_ ?_
  · refine dc_itK (fun k (x : Int32) => (0 ≤ x.toInt ∧ x.toInt ≤ la.toInt) ∧ k = 1 + la.toInt.toNat - x.toInt.toNat ∧ ∀ i, i < x.toInt.toNat → f (A.toInt.toNat + i) = f (fr.toInt.toNat + i)) ?_ (1 + la.toInt.toNat) 0 ⟨⟨by rw [il_0]; omega, by rw [il_0]; omega⟩, by rw [il_0]; rfl, fun i hi => by rw [il_0] at hi; exact absurd hi (Nat.not_lt_zero i)⟩
    rintro k x ⟨⟨x0, x1⟩, hk, hx⟩
    show dc_wp (hm_NM_reads_b22 G S a p (some o) x) _
    delta hm_NM_reads_b22
    refine wq_gr (x := some eA) h.1 rfl ?_
    refine wq_ld h.2.2.1 p0 p1 ?_
    rw [hla]
    refine wq_if (fun c2 => ?_) (fun c2 => ?_)
    · have c3 := i_lt.mp c2
      have ax : (A + x).toInt = A.toInt + x.toInt := i_addS (by omega)
      have bx : (fr + x).toInt = fr.toInt + x.toInt := i_addS (by omega)
      have x1' : (x + 1).toInt = x.toInt + 1 := by rw [i_addS (by rw [il_1]; omega), il_1]
      refine wq_gr (x := some tx) h.1 rfl ?_
      refine wq_gr (x := some fA) h.1 rfl ?_
      refine wq_ld h.2.1 p0 p1 ?_
      rw [hA]
      refine wq_ld v.2.1 (by omega) (by omega) ?_
      refine wq_gr (x := some tx) h.1 rfl ?_
      refine wq_gi (x := fr) v.1 rfl ?_
      refine wq_ld v.2.1 (by omega) (by omega) ?_
      rw [ax, bx, show (A.toInt + x.toInt).toNat = A.toInt.toNat + x.toInt.toNat by omega, show (fr.toInt + x.toInt).toNat = fr.toInt.toNat + x.toInt.toNat by omega]
      refine wq_if (fun c5 => ?_) (fun c5 => ?_)
      · refine ⟨_, rfl, 1 + la.toInt.toNat - (x + 1).toInt.toNat, by omega, ⟨by omega, by omega⟩, rfl, fun i hi => ?_⟩
        by_cases c6 : i = x.toInt.toNat
        · rw [c6]; exact c5
        · exact hx i (by omega)
      · exact ⟨_, rfl, fun z => c5 (z.2 x.toInt.toNat (by omega))⟩
    · have c3 : ¬ x.toInt < la.toInt := fun z => c2 (i_lt.mpr z)
      exact ⟨_, rfl, c1, fun i hi => hx i (by omega)⟩
  · rintro (u | u) hu
    · exact ⟨_, rfl, Or.inr ⟨hu, rfl⟩⟩
    · exact ⟨_, rfl, Or.inl ⟨hu, rfl⟩⟩
