/-! names: the innermost that reads so -/
/-- q: what the last k in [lo, hi) with E has for ss, or -1 -/
def fsP (lo hi : Nat) (ss : Nat → Int32) (E : Nat → Prop) (q : Int32) : Prop := (q = -1 ∧ ∀ k, lo ≤ k → k < hi → ¬ E k) ∨ ∃ k, lo ≤ k ∧ k < hi ∧ q = ss k ∧ E k ∧ ∀ k', k < k' → k' < hi → ¬ E k'
theorem fsP_uni {lo hi : Nat} {ss ss' : Nat → Int32} {E E' : Nat → Prop} {q q' : Int32} (hs : ∀ k, lo ≤ k → k < hi → ss k = ss' k) (he : ∀ k, lo ≤ k → k < hi → (E k ↔ E' k)) (h : fsP lo hi ss E q) (h' : fsP lo hi ss' E' q') : q = q' := by
  rcases h with ⟨a1, a2⟩ | ⟨k, a1, a2, a3, a4, a5⟩
  · rcases h' with ⟨b1, -⟩ | ⟨k, b1, b2, -, b4, -⟩
    · rw [a1, b1]
    · exact absurd ((he k b1 b2).mpr b4) (a2 k b1 b2)
  · rcases h' with ⟨-, b2⟩ | ⟨m, b1, b2, b3, b4, b5⟩
    · exact absurd ((he k a1 a2).mp a4) (b2 k a1 a2)
    · have e : k = m := by
        rcases Nat.lt_trichotomy k m with c | c | c
        · exact absurd ((he m b1 b2).mpr b4) (a5 m c b2)
        · exact c
        · exact absurd ((he k a1 a2).mp a4) (b5 k c a2)
      subst e
      rw [a3, b3, hs k a1 a2]
theorem since_w {G : hg_E} {S : hg_S} {a tx fA eA sA cap o n : Nat} {ff ee ss f : Nat → Int32} {made sc st : Int32} {tk : Option Nat} {fr to ln fa : Int32} (h : nmv G S a tx fA eA sA cap ff ee ss made sc) (v : lxv G S o tx n f tk fr to ln fa) (t0 : 0 ≤ st.toInt) (t1 : st.toInt ≤ made.toInt) (c1 : made.toInt ≤ (cap : Int)) (hcap : cap ≤ 100000) (hs : ∀ k, k < made.toInt.toNat → 0 ≤ (ff k).toInt ∧ 0 ≤ (ee k).toInt ∧ (ff k).toInt + (ee k).toInt ≤ (n : Int)) (fr0 : 0 ≤ fr.toInt) (frt : fr.toInt ≤ to.toInt) (tn : to.toInt ≤ (n : Int)) (hn : n ≤ 100000) : dc_wp (hm_NM_hasSince G S a st (some o)) (fun q => ((∃ k, st.toInt.toNat ≤ k ∧ k < made.toInt.toNat ∧ eqs f (ff k) (ee k) fr (to - fr)) ∧ q = 1) ∨ ((∀ k, st.toInt.toNat ≤ k → k < made.toInt.toNat → ¬ eqs f (ff k) (ee k) fr (to - fr)) ∧ q = 0)) := by
  delta hm_NM_hasSince hm_NM_hasSince_L2
  refine wq_call (P := Sum.elim (fun _ : Unit => ∃ k, st.toInt.toNat ≤ k ∧ k < made.toInt.toNat ∧ eqs f (ff k) (ee k) fr (to - fr)) (fun _ : Unit => ∀ k, st.toInt.toNat ≤ k → k < made.toInt.toNat → ¬ eqs f (ff k) (ee k) fr (to - fr))) ?_ ?_
  · refine dc_itK (fun k (x : Int32) => (st.toInt ≤ x.toInt ∧ x.toInt ≤ made.toInt) ∧ k = made.toInt.toNat - x.toInt.toNat ∧ ∀ j, st.toInt.toNat ≤ j → j < x.toInt.toNat → ¬ eqs f (ff j) (ee j) fr (to - fr)) ?_ (made.toInt.toNat - st.toInt.toNat) st ⟨⟨by omega, t1⟩, rfl, fun j h1 h2 => by omega⟩
    rintro k x ⟨⟨x0, x1⟩, hk, hx⟩
    show dc_wp (hm_NM_hasSince_b2 G S a (some o) x) _
    delta hm_NM_hasSince_b2
    refine wq_gi (x := made) h.1 rfl ?_
    refine wq_if (fun d1 => ?_) (fun d1 => ?_)
    · have d2 := i_lt.mp d1
      obtain ⟨g3, g4, g5⟩ := hs x.toInt.toNat (by omega)
      refine wq_chk h.1 ?_
      refine wq_call (reads_w h v (by omega) (by omega) g3 g4 g5 fr0 frt tn hn) ?_
      rintro q (⟨e1, rfl⟩ | ⟨e1, rfl⟩)
      · refine wq_if (fun z => absurd z (by decide)) (fun _ => ?_)
        exact ⟨_, rfl, x.toInt.toNat, by omega, by omega, e1⟩
      · refine wq_if (fun _ => ?_) (fun z => absurd rfl z)
        have xm : (x + 1).toInt = x.toInt + 1 := by rw [i_addS (by rw [il_1]; omega), il_1]
        refine ⟨_, rfl, made.toInt.toNat - (x + 1).toInt.toNat, by omega, ⟨by omega, by omega⟩, rfl, fun j h1 h2 => ?_⟩
        by_cases c : j = x.toInt.toNat
        · rw [c]; exact e1
        · exact hx j h1 (by omega)
    · have d2 : ¬ x.toInt < made.toInt := fun z => d1 (i_lt.mpr z)
      exact ⟨_, rfl, fun j h1 h2 => hx j h1 (by omega)⟩
  · rintro (u | u) hu
    · exact ⟨_, rfl, Or.inl ⟨hu, rfl⟩⟩
    · exact ⟨_, rfl, Or.inr ⟨hu, rfl⟩⟩
