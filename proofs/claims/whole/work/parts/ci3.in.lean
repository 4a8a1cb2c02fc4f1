/-! the places of the signals within a tree -/
theorem lis_m {kd wt : Nat → Int32} {n : Nat} : ∀ k, lis kd wt n ≤ lis kd wt (n + k)
  | 0 => Nat.le_refl _
  | k + 1 => Nat.le_trans (lis_m k) (Nat.le_add_right _ _)
theorem lis_lt {kd wt : Nat → Int32} {j j' : Nat} (h : j < j') (hk : kd j = 10) : lis kd wt j + (wt j).toInt.toNat < lis kd wt j' := by
  have a := lis_m (kd := kd) (wt := wt) (n := j + 1) (j' - (j + 1))
  rw [show j + 1 + (j' - (j + 1)) = j' by omega] at a
  have b : lis kd wt (j + 1) = lis kd wt j + if kd j = 10 then (wt j).toInt.toNat + 1 else 0 := rfl
  rw [if_pos hk] at b
  omega
theorem lis_inj {kd wt : Nat → Int32} {j j' d d' : Nat} (hk : kd j = 10) (hk' : kd j' = 10) (hd : d ≤ (wt j).toInt.toNat) (hd' : d' ≤ (wt j').toInt.toNat) (e : lis kd wt j + d = lis kd wt j' + d') : j = j' ∧ d = d' := by
  by_cases c : j < j'
  · have := lis_lt (wt := wt) c hk
    omega
  · by_cases c' : j' < j
    · have := lis_lt (wt := wt) c' hk'
      omega
    · have ej : j = j' := by omega
      subst ej
      exact ⟨rfl, by omega⟩
/-- which places a mode takes -/
def mdD (md : Option Nat) (w d : Nat) : Prop := match md with | none => w ≤ d | some d0 => d = d0
/-- places of locals in rows k to k + n -/
def INq (Q : Nat → Nat → Int32) (k n : Nat) (md : Option Nat) (w i : Nat) : Prop := ∃ j d, (k ≤ j ∧ j < k + n) ∧ Q 51 j = 10 ∧ i = lis (Q 51) (Q 57) j + d ∧ d ≤ wtQ Q j ∧ mdD md w d
theorem INq_m {Q : Nat → Nat → Int32} {k n k' n' w w' i : Nat} {md md' : Option Nat} (h : INq Q k n md w i) (h1 : k' ≤ k) (h2 : k + n ≤ k' + n') (hd : ∀ d, mdD md w d → mdD md' w' d) : INq Q k' n' md' w' i := by
  obtain ⟨j, d, ⟨a1, a2⟩, a3, a4, a5, a6⟩ := h
  exact ⟨j, d, ⟨by omega, by omega⟩, a3, a4, a5, hd d a6⟩
theorem INq_d {Q : Nat → Nat → Int32} {k n k' n' w w' i : Nat} {md md' : Option Nat} (h : INq Q k n md w i) (g : INq Q k' n' md' w' i) (hx : k + n ≤ k' ∨ k' + n' ≤ k ∨ ∀ d, mdD md w d → ¬ mdD md' w' d) : False := by
  obtain ⟨j, d, ⟨a1, a2⟩, a3, a4, a5, a6⟩ := h
  obtain ⟨j', d', ⟨b1, b2⟩, b3, b4, b5, b6⟩ := g
  obtain ⟨e1, e2⟩ := lis_inj a3 b3 a5 b5 (a4.symm.trans b4)
  subst e1
  subst e2
  rcases hx with hx | hx | hx
  · omega
  · omega
  · exact hx d a6 b6
section EIN
variable {θ : (Int32 → Prop) → Int32 → Prop} {pk pf xx : Nat → Int32} {Q : Nat → Nat → Int32} {tv : (Nat → Nat) → Int32 → Int32} {σ : Nat → Int32} {hs : Nat → Prop} {sel : Nat → Prop} {G H : Prop}
/-- the mode fits the weight -/
def mdW (md : Option Nat) (w : Nat) : Prop := match md with | none => True | some d => d ≤ w
theorem lw_row {k : Nat} {x : lbT} {f s up : Int32} {w : Int} {t : Int32} {a c : Int} (h : lrow G H pk pf xx Q k x f s up w t a c) : wtQ Q k = w.toNat := by
  unfold wtQ
  rw [h.1.2.2.2.2.1]
/-- what may be emitted: a signal around, or one within -/
theorem E_in : ∀ (T : tT) (V : Int32 → Prop) (k : Nat) (up : Int32) (w : Int) (t : Int32) (a c : Int) (ρ : Nat → Nat) (md : Option Nat) (s : Prop), okT θ V T → LPr G H pk pf xx Q T k up w t a c → 1 ≤ w → mdW md w.toNat → (∀ j, k ≤ j → j < k + tsz T → Q 51 j = 10 → baQ Q j = lis (Q 51) (Q 57) j) → ∀ i, zE (zv Q tv σ hs sel T k ρ md s) i → (∃ y, V y ∧ i = ρ y.toInt.toNat) ∨ INq Q k (tsz T) md w.toNat i
  | .const x, V, k, up, w, t, a, c, ρ, md, s, hO, hL, hw, hm, hB, i, hi => by
    unfold zv at hi
    by_cases c1 : (lT x).1 = 1
    · rw [if_pos c1] at hi
      cases md with
      | none => exact hi.elim
      | some d => exact hi.elim
    · rw [if_neg c1] at hi
      by_cases c2 : (lT x).1 = 2
      · rw [if_pos c2] at hi
        left
        have hv : V (lT x).2.2.1 := by
          rcases hO.1 with (z | z | z) | ⟨-, z⟩
          · rw [c2] at z; exact absurd z (by decide)
          · rw [c2] at z; exact absurd z (by decide)
          · rw [c2] at z; exact absurd z (by decide)
          · exact z
        refine ⟨_, hv, ?_⟩
        have hi : i = ρ (nuQ Q k) := hi
        rw [hi]
        have e := (hL.2.1 hO.2.1).2 c1 (Or.inl (by rw [c2]; decide))
        unfold rN at e
        rw [if_neg (by rw [c2]; decide)] at e
        unfold nuQ
        rw [e]
      · rw [if_neg c2] at hi
        by_cases c3 : (lT x).1 = 9
        · rw [if_pos c3] at hi; exact hi.elim
        · rw [if_neg c3] at hi; exact hi.elim
  | .unary x A, V, k, up, w, t, a, c, ρ, md, s, hO, ⟨hL, hA⟩, hw, hm, hB, i, hi => by
    have ts : k + tsz (.unary x A) = k + 1 + tsz A := by show k + (1 + tsz A) = _; omega
    have hB' : ∀ j, k + 1 ≤ j → j < k + 1 + tsz A → Q 51 j = 10 → baQ Q j = lis (Q 51) (Q 57) j := fun j j1 j2 => hB j (by omega) (by omega)
    unfold zv at hi
    by_cases c4 : (lT x).1 = 4
    · have vLe : vL V (lT x) = V := if_neg (by rw [c4]; decide)
      have hO2 := hO.2
      rw [vLe] at hO2
      rw [if_neg (by rw [c4]; decide), Int.add_zero] at hA
      rw [if_pos c4] at hi
      cases md with
      | none =>
        rcases hi with ⟨-, hi⟩ | ⟨-, hi⟩
        · exact (E_in A V _ _ _ _ _ _ ρ none _ hO2 hA hw trivial hB' i hi).imp id (fun z => INq_m z (by omega) (by omega) (fun d z => z))
        · exact hi.elim
      | some d => exact (E_in A V _ _ _ _ _ _ ρ _ _ hO2 hA hw hm hB' i hi).imp id (fun z => INq_m z (by omega) (by omega) (fun d z => z))
    · rw [if_neg c4] at hi
      by_cases c6 : (lT x).1 = 6
      · have vLe : vL V (lT x) = V := if_neg (by rw [c6]; decide)
        have hO2 := hO.2
        rw [vLe] at hO2
        rw [if_pos c6] at hA hi
        have wk := lw_row hL
        have dU : ∀ d, mdD none (w + 1).toNat d → mdD none w.toNat d := fun d (z : (w + 1).toNat ≤ d) => show w.toNat ≤ d by omega
        have dW : ∀ w' d, mdD (some (wtQ Q k)) w' d → mdD none w.toNat d := fun w' d (z : d = wtQ Q k) => show w.toNat ≤ d by omega
        cases md with
        | none =>
          rcases hi with hi | ⟨-, hi⟩
          · exact (E_in A V _ _ _ _ _ _ ρ none _ hO2 hA (by omega) trivial hB' i hi).imp id (fun z => INq_m z (by omega) (by omega) dU)
          · exact (E_in A V _ _ _ _ _ _ ρ (some (wtQ Q k)) _ hO2 hA (by omega) (show wtQ Q k ≤ (w + 1).toNat by omega) hB' i hi).imp id (fun z => INq_m z (by omega) (by omega) (dW _))
        | some d =>
          have hm : d ≤ w.toNat := hm
          exact (E_in A V _ _ _ _ _ _ ρ (some d) _ hO2 hA (by omega) (show d ≤ (w + 1).toNat by omega) hB' i hi).imp id (fun z => INq_m z (by omega) (by omega) (fun d z => z))
      · rw [if_neg c6, Int.add_zero] at hA
        rw [if_neg c6] at hi
        by_cases c8 : (lT x).1 = 8
        · have vLe : vL V (lT x) = V := if_neg (by rw [c8]; decide)
          have hO2 := hO.2
          rw [vLe] at hO2
          rw [if_pos c8] at hi
          exact (E_in A V _ _ _ _ _ _ ρ _ _ hO2 hA hw hm hB' i hi).imp id (fun z => INq_m z (by omega) (by omega) (fun d z => z))
        · rw [if_neg c8] at hi
          have c10 : (lT x).1 = 10 := by
            rcases hO.1.1 with ⟨z, -⟩ | ⟨z | z | z, -⟩
            · exact absurd z c4
            · exact absurd z c6
            · exact absurd z c8
            · exact z
          have k10 : Q 51 k = 10 := hL.1.1.trans c10
          have hb := hB k (by omega) (by omega) k10
          have wk := lw_row hL
          have key : ∀ (d : Nat), d ≤ wtQ Q k → mdD md w.toNat d → zE (zv Q tv σ hs sel A (k + 1) (rhU ρ (nuQ Q k) (baQ Q k + d)) md s) i → (∃ y, V y ∧ i = ρ y.toInt.toNat) ∨ INq Q k (tsz (.unary x A)) md w.toNat i := by
            intro d hd hmd hz
            rcases E_in A _ _ _ _ _ _ _ _ _ _ hO.2 hA hw hm hB' i hz with ⟨y, y1, y2⟩ | z
            · unfold rhU at y2
              by_cases e : y.toInt.toNat = nuQ Q k
              · rw [if_pos e] at y2
                exact Or.inr ⟨k, d, ⟨by omega, by omega⟩, k10, by rw [y2, hb], hd, hmd⟩
              · rw [if_neg e] at y2
                unfold vL at y1
                rw [if_pos c10] at y1
                rcases y1 with y1 | y1
                · exact Or.inl ⟨y, y1, y2⟩
                · exfalso
                  apply e
                  unfold nuQ
                  rw [y1, (lc_row (Or.inr (Or.inl hO.1)) hL k10).2]
            · exact Or.inr (INq_m z (by omega) (by omega) (fun d z => z))
          cases md with
          | none => exact key (wtQ Q k) (Nat.le_refl _) (show w.toNat ≤ wtQ Q k by omega) hi
          | some d =>
            have hm : d ≤ w.toNat := hm
            exact key d (by omega) rfl hi
  | .binary x A B, V, k, up, w, t, a, c, ρ, md, s, hO, ⟨hL, hA, hB⟩, hw, hm, hb, i, hi => by
    have ts : k + tsz (.binary x A B) = k + 1 + tsz A + tsz B := by show k + (1 + tsz A + tsz B) = _; omega
    have hbA : ∀ j, k + 1 ≤ j → j < k + 1 + tsz A → Q 51 j = 10 → baQ Q j = lis (Q 51) (Q 57) j := fun j j1 j2 => hb j (by omega) (by omega)
    have hbB : ∀ j, k + 1 + tsz A ≤ j → j < k + 1 + tsz A + tsz B → Q 51 j = 10 → baQ Q j = lis (Q 51) (Q 57) j := fun j j1 j2 => hb j (by omega) (by omega)
    have n6 : ¬ (lT x).1 = 6 := by rcases hO.1.1 with ⟨z, -⟩ | ⟨z | z, -⟩ <;> (rw [z]; decide)
    rw [if_neg n6, Int.add_zero] at hA
    have b5 := bw6 (c := (lT x).1 = 5)
    have wk := lw_row hL
    unfold zv at hi
    have dW : ∀ w' d, mdD (some (wtQ Q k)) w' d → mdD none w.toNat d := fun w' d (z : d = wtQ Q k) => show w.toNat ≤ d by omega
    have dN : ∀ d, mdD none (w + if (lT x).1 = 5 then 1 else 0).toNat d → mdD none w.toNat d := fun d (z : (w + if (lT x).1 = 5 then 1 else 0).toNat ≤ d) => show w.toNat ≤ d by omega
    by_cases c3 : (lT x).1 = 3
    · rw [if_pos c3] at hi
      cases md with
      | none =>
        rcases hi with ⟨-, hi⟩ | ⟨-, hi⟩
        · exact (E_in A V _ _ _ _ _ _ ρ none _ hO.2.1 hA hw trivial hbA i hi).imp id (fun z => INq_m z (by omega) (by omega) (fun d z => z))
        · exact (E_in B V _ _ _ _ _ _ ρ none _ hO.2.2 hB (by omega) trivial hbB i hi).imp id (fun z => INq_m z (by omega) (by omega) dN)
      | some d =>
        have hm : d ≤ w.toNat := hm
        rcases hi with ⟨-, hi⟩ | ⟨-, hi⟩
        · exact (E_in A V _ _ _ _ _ _ ρ (some d) _ hO.2.1 hA hw hm hbA i hi).imp id (fun z => INq_m z (by omega) (by omega) (fun d z => z))
        · exact (E_in B V _ _ _ _ _ _ ρ (some d) _ hO.2.2 hB (by omega) (show d ≤ (w + if (lT x).1 = 5 then 1 else 0).toNat by omega) hbB i hi).imp id (fun z => INq_m z (by omega) (by omega) (fun d z => z))
    · rw [if_neg c3] at hi
      by_cases c5 : (lT x).1 = 5
      · rw [if_pos c5] at hi
        cases md with
        | none =>
          rcases hi with ⟨-, hi | ⟨-, hi⟩⟩ | ⟨-, hi⟩
          · exact (E_in A V _ _ _ _ _ _ ρ none _ hO.2.1 hA hw trivial hbA i hi).imp id (fun z => INq_m z (by omega) (by omega) (fun d z => z))
          · exact (E_in B V _ _ _ _ _ _ ρ (some (wtQ Q k)) _ hO.2.2 hB (by omega) (show wtQ Q k ≤ (w + if (lT x).1 = 5 then 1 else 0).toNat by omega) hbB i hi).imp id (fun z => INq_m z (by omega) (by omega) (dW _))
          · exact (E_in B V _ _ _ _ _ _ ρ none _ hO.2.2 hB (by omega) trivial hbB i hi).imp id (fun z => INq_m z (by omega) (by omega) dN)
        | some d =>
          have hm : d ≤ w.toNat := hm
          rcases hi with hi | ⟨-, hi⟩
          · exact (E_in A V _ _ _ _ _ _ ρ (some d) _ hO.2.1 hA hw hm hbA i hi).imp id (fun z => INq_m z (by omega) (by omega) (fun d z => z))
          · exact (E_in B V _ _ _ _ _ _ ρ (some d) _ hO.2.2 hB (by omega) (show d ≤ (w + if (lT x).1 = 5 then 1 else 0).toNat by omega) hbB i hi).imp id (fun z => INq_m z (by omega) (by omega) (fun d z => z))
      · rw [if_neg c5] at hi
        cases md with
        | none =>
          rcases hi with (⟨-, hi⟩ | ⟨-, hi⟩) | (⟨-, hi⟩ | ⟨-, hi⟩)
          · exact (E_in A V _ _ _ _ _ _ ρ none _ hO.2.1 hA hw trivial hbA i hi).imp id (fun z => INq_m z (by omega) (by omega) (fun d z => z))
          · exact hi.elim
          · exact (E_in B V _ _ _ _ _ _ ρ none _ hO.2.2 hB (by omega) trivial hbB i hi).imp id (fun z => INq_m z (by omega) (by omega) dN)
          · exact hi.elim
        | some d =>
          have hm : d ≤ w.toNat := hm
          rcases hi with hi | hi
          · exact (E_in A V _ _ _ _ _ _ ρ (some d) _ hO.2.1 hA hw hm hbA i hi).imp id (fun z => INq_m z (by omega) (by omega) (fun d z => z))
          · exact (E_in B V _ _ _ _ _ _ ρ (some d) _ hO.2.2 hB (by omega) (show d ≤ (w + if (lT x).1 = 5 then 1 else 0).toNat by omega) hbB i hi).imp id (fun z => INq_m z (by omega) (by omega) (fun d z => z))
end EIN
