/-! statuses that fit as a whole fit everywhere within -/
section ZX
variable {σ : Nat → Int32} {a b : zvT} {Ia Ib Ie R : Nat → Prop}
theorem zTh_X (ha : (∀ i, zS a i → σ i = 1) → (∀ i, Ia i → ¬ zE a i → σ i = 0) → zX a) (hb : (∀ i, zS b i → σ i = 1) → (∀ i, Ib i → ¬ zE b i → σ i = 0) → zX b) (ea : ∀ i, zE a i → R i ∨ Ia i) (eb : ∀ i, zE b i → R i ∨ Ib i) (dab : ∀ i, Ia i → Ib i → False) (dR : ∀ i, R i → ¬ Ie i) (ia : ∀ i, Ia i → Ie i) (ib : ∀ i, Ib i → Ie i) (g1 : ∀ i, zS (zTh a b) i → σ i = 1) (g0 : ∀ i, Ie i → ¬ zE (zTh a b) i → σ i = 0) : zX (zTh a b) := by
  refine ⟨ha (fun i z => g1 i (Or.inl z)) (fun i z n => g0 i (ia i z) ?_), fun hC => hb (fun i z => g1 i (Or.inr ⟨hC, z⟩)) (fun i z n => g0 i (ib i z) ?_)⟩
  · rintro (y | ⟨-, y⟩)
    · exact n y
    · exact (eb i y).elim (fun r => dR i r (ia i z)) (fun r => dab i z r)
  · rintro (y | ⟨-, y⟩)
    · exact (ea i y).elim (fun r => dR i r (ib i z)) (fun r => dab i r z)
    · exact n y
theorem zSl_X {p q : Prop} (ha : (∀ i, zS a i → σ i = 1) → (∀ i, Ia i → ¬ zE a i → σ i = 0) → zX a) (hb : (∀ i, zS b i → σ i = 1) → (∀ i, Ib i → ¬ zE b i → σ i = 0) → zX b) (ea : ∀ i, zE a i → R i ∨ Ia i) (eb : ∀ i, zE b i → R i ∨ Ib i) (dab : (∀ i, Ia i → Ib i → False) ∨ ¬ (p ∧ q)) (dR : ∀ i, R i → ¬ Ie i) (ia : ∀ i, Ia i → Ie i) (ib : ∀ i, Ib i → Ie i) (g1 : ∀ i, zS (zSl p q a b) i → σ i = 1) (g0 : ∀ i, Ie i → ¬ zE (zSl p q a b) i → σ i = 0) : zX (zSl p q a b) := by
  refine ⟨fun hp => ha (fun i z => g1 i (Or.inl ⟨hp, z⟩)) (fun i z n => g0 i (ia i z) ?_), fun hq => hb (fun i z => g1 i (Or.inr ⟨hq, z⟩)) (fun i z n => g0 i (ib i z) ?_)⟩
  · rintro (⟨-, y⟩ | ⟨hq, y⟩)
    · exact n y
    · exact (eb i y).elim (fun r => dR i r (ia i z)) (fun r => dab.elim (fun d => d i z r) (fun d => d ⟨hp, hq⟩))
  · rintro (⟨hp, y⟩ | ⟨-, y⟩)
    · exact (ea i y).elim (fun r => dR i r (ib i z)) (fun r => dab.elim (fun d => d i r z) (fun d => d ⟨hp, hq⟩))
    · exact n y
theorem zPa_X (ha : (∀ i, zS a i → σ i = 1) → (∀ i, Ia i → ¬ zE a i → σ i = 0) → zX a) (hb : (∀ i, zS b i → σ i = 1) → (∀ i, Ib i → ¬ zE b i → σ i = 0) → zX b) (ea : ∀ i, zE a i → R i ∨ Ia i) (eb : ∀ i, zE b i → R i ∨ Ib i) (dab : ∀ i, Ia i → Ib i → False) (dR : ∀ i, R i → ¬ Ie i) (ia : ∀ i, Ia i → Ie i) (ib : ∀ i, Ib i → Ie i) (g1 : ∀ i, zS (zPa a b) i → σ i = 1) (g0 : ∀ i, Ie i → ¬ zE (zPa a b) i → σ i = 0) : zX (zPa a b) := by
  refine ⟨ha (fun i z => g1 i (Or.inl z)) (fun i z n => g0 i (ia i z) ?_), hb (fun i z => g1 i (Or.inr z)) (fun i z n => g0 i (ib i z) ?_)⟩
  · rintro (y | y)
    · exact n y
    · exact (eb i y).elim (fun r => dR i r (ia i z)) (fun r => dab i z r)
  · rintro (y | y)
    · exact (ea i y).elim (fun r => dR i r (ib i z)) (fun r => dab i r z)
    · exact n y
end ZX
section ZXT
variable {θ : (Int32 → Prop) → Int32 → Prop} {pk pf xx : Nat → Int32} {Q : Nat → Nat → Int32} {tv : (Nat → Nat) → Int32 → Int32} {σ : Nat → Int32} {hs : Nat → Prop} {sel : Nat → Prop} {G H : Prop}
theorem zX_T : ∀ (T : tT) (V : Int32 → Prop) (k : Nat) (up : Int32) (w : Int) (t : Int32) (a c : Int) (ρ : Nat → Nat) (md : Option Nat) (s : Prop), okT θ V T → LPr G H pk pf xx Q T k up w t a c → 1 ≤ w → mdW md w.toNat → (∀ j, k ≤ j → j < k + tsz T → Q 51 j = 10 → baQ Q j = lis (Q 51) (Q 57) j) → (∀ y, V y → ¬ INq Q k (tsz T) md w.toNat (ρ y.toInt.toNat)) → (∀ i, zS (zv Q tv σ hs sel T k ρ md s) i → σ i = 1) → (∀ i, INq Q k (tsz T) md w.toNat i → ¬ zE (zv Q tv σ hs sel T k ρ md s) i → σ i = 0) → zX (zv Q tv σ hs sel T k ρ md s)
  | .const x, V, k, up, w, t, a, c, ρ, md, s, hO, hL, hw, hm, hB, hρ, g1, g0 => by
    unfold zv
    by_cases c1 : (lT x).1 = 1
    · rw [if_pos c1]
      cases md with
      | none => exact trivial
      | some d => exact trivial
    · rw [if_neg c1]
      by_cases c2 : (lT x).1 = 2
      · rw [if_pos c2]; exact trivial
      · rw [if_neg c2]
        by_cases c3 : (lT x).1 = 9
        · rw [if_pos c3]; exact trivial
        · rw [if_neg c3]; exact trivial
  | .unary x A, V, k, up, w, t, a, c, ρ, md, s, hO, ⟨hL, hA⟩, hw, hm, hB, hρ, g1, g0 => by
    have ts : k + tsz (.unary x A) = k + 1 + tsz A := by show k + (1 + tsz A) = _; omega
    have hB' : ∀ j, k + 1 ≤ j → j < k + 1 + tsz A → Q 51 j = 10 → baQ Q j = lis (Q 51) (Q 57) j := fun j j1 j2 => hB j (by omega) (by omega)
    have wk := lw_row hL
    unfold zv at g1 g0 ⊢
    by_cases c4 : (lT x).1 = 4
    · have vLe : vL V (lT x) = V := if_neg (by rw [c4]; decide)
      have hO2 := hO.2
      rw [vLe] at hO2
      rw [if_neg (by rw [c4]; decide), Int.add_zero] at hA
      rw [if_pos c4] at g1 g0 ⊢
      cases md with
      | none =>
        have iA : ∀ i, INq Q (k + 1) (tsz A) none w.toNat i → INq Q k (tsz (.unary x A)) none w.toNat i := fun i z => INq_m z (by omega) (by omega) (fun d z => z)
        exact zSl_X (Ia := INq Q (k + 1) (tsz A) none w.toNat) (Ib := fun _ => False) (R := fun i => ∃ y, V y ∧ i = ρ y.toInt.toNat) (fun u1 u0 => zX_T A V _ _ _ _ _ _ _ none _ hO2 hA hw trivial hB' (fun y hy z => hρ y hy (iA _ z)) u1 u0) (fun _ _ => trivial) (fun i z => E_in A V _ _ _ _ _ _ _ none _ hO2 hA hw trivial hB' i z) (fun i z => z.elim) (Or.inl (fun i _ z => z)) (fun i ⟨y, y1, y2⟩ z => hρ y y1 (y2 ▸ z)) iA (fun i z => z.elim) g1 g0
      | some d => exact zX_T A V _ _ _ _ _ _ _ (some d) _ hO2 hA hw hm hB' (fun y hy z => hρ y hy (INq_m z (by omega) (by omega) (fun d z => z))) g1 (fun i z => g0 i (INq_m z (by omega) (by omega) (fun d z => z)))
    · rw [if_neg c4] at g1 g0 ⊢
      by_cases c6 : (lT x).1 = 6
      · have vLe : vL V (lT x) = V := if_neg (by rw [c6]; decide)
        have hO2 := hO.2
        rw [vLe] at hO2
        rw [if_pos c6] at hA g1 g0 ⊢
        have dU : ∀ d, mdD none (w + 1).toNat d → mdD none w.toNat d := fun d (z : (w + 1).toNat ≤ d) => show w.toNat ≤ d by omega
        have dW : ∀ w' d, mdD (some (wtQ Q k)) w' d → mdD none w.toNat d := fun w' d (z : d = wtQ Q k) => show w.toNat ≤ d by omega
        cases md with
        | none =>
          have iA : ∀ i, INq Q (k + 1) (tsz A) none (w + 1).toNat i → INq Q k (tsz (.unary x A)) none w.toNat i := fun i z => INq_m z (by omega) (by omega) dU
          have iB : ∀ i, INq Q (k + 1) (tsz A) (some (wtQ Q k)) (w + 1).toNat i → INq Q k (tsz (.unary x A)) none w.toNat i := fun i z => INq_m z (by omega) (by omega) (dW _)
          have hmB : mdW (some (wtQ Q k)) (w + 1).toNat := show wtQ Q k ≤ (w + 1).toNat by omega
          exact zTh_X (Ia := INq Q (k + 1) (tsz A) none (w + 1).toNat) (Ib := INq Q (k + 1) (tsz A) (some (wtQ Q k)) (w + 1).toNat) (R := fun i => ∃ y, V y ∧ i = ρ y.toInt.toNat) (fun u1 u0 => zX_T A V _ _ _ _ _ _ _ none _ hO2 hA (by omega) trivial hB' (fun y hy z => hρ y hy (iA _ z)) u1 u0) (fun u1 u0 => zX_T A V _ _ _ _ _ _ _ (some (wtQ Q k)) _ hO2 hA (by omega) hmB hB' (fun y hy z => hρ y hy (iB _ z)) u1 u0) (fun i z => E_in A V _ _ _ _ _ _ _ none _ hO2 hA (by omega) trivial hB' i z) (fun i z => E_in A V _ _ _ _ _ _ _ (some (wtQ Q k)) _ hO2 hA (by omega) hmB hB' i z) (fun i z1 z2 => INq_d z1 z2 (Or.inr (Or.inr (fun d (y1 : (w + 1).toNat ≤ d) (y2 : d = wtQ Q k) => by omega)))) (fun i ⟨y, y1, y2⟩ z => hρ y y1 (y2 ▸ z)) iA iB g1 g0
        | some d =>
          have hm : d ≤ w.toNat := hm
          exact zX_T A V _ _ _ _ _ _ _ (some d) _ hO2 hA (by omega) (show d ≤ (w + 1).toNat by omega) hB' (fun y hy z => hρ y hy (INq_m z (by omega) (by omega) (fun d z => z))) g1 (fun i z => g0 i (INq_m z (by omega) (by omega) (fun d z => z)))
      · rw [if_neg c6, Int.add_zero] at hA
        rw [if_neg c6] at g1 g0 ⊢
        by_cases c8 : (lT x).1 = 8
        · have vLe : vL V (lT x) = V := if_neg (by rw [c8]; decide)
          have hO2 := hO.2
          rw [vLe] at hO2
          rw [if_pos c8] at g1 g0 ⊢
          exact zX_T A V _ _ _ _ _ _ _ md _ hO2 hA hw hm hB' (fun y hy z => hρ y hy (INq_m z (by omega) (by omega) (fun d z => z))) g1 (fun i z => g0 i (INq_m z (by omega) (by omega) (fun d z => z)))
        · rw [if_neg c8] at g1 g0 ⊢
          have c10 : (lT x).1 = 10 := by
            rcases hO.1.1 with ⟨z, -⟩ | ⟨z | z | z, -⟩
            · exact absurd z c4
            · exact absurd z c6
            · exact absurd z c8
            · exact z
          have k10 : Q 51 k = 10 := hL.1.1.trans c10
          have hb := hB k (by omega) (by omega) k10
          have key : ∀ (d : Nat), d ≤ wtQ Q k → mdD md w.toNat d → (∀ i, zS (zv Q tv σ hs sel A (k + 1) (rhU ρ (nuQ Q k) (baQ Q k + d)) md s) i → σ i = 1) → (∀ i, INq Q k (tsz (.unary x A)) md w.toNat i → ¬ zE (zv Q tv σ hs sel A (k + 1) (rhU ρ (nuQ Q k) (baQ Q k + d)) md s) i → σ i = 0) → zX (zLc σ (baQ Q k + d) s (zv Q tv σ hs sel A (k + 1) (rhU ρ (nuQ Q k) (baQ Q k + d)) md s)) := by
            intro d hd hmd u1 u0
            have self : INq Q k (tsz (.unary x A)) md w.toNat (baQ Q k + d) := ⟨k, d, ⟨by omega, by omega⟩, k10, by rw [hb], hd, hmd⟩
            refine ⟨zX_T A _ _ _ _ _ _ _ _ md _ hO.2 hA hw hm hB' (fun y hy z => ?_) u1 (fun i z => u0 i (INq_m z (by omega) (by omega) (fun d z => z))), u1 _, u0 _ self⟩
            unfold rhU at z
            by_cases e : y.toInt.toNat = nuQ Q k
            · rw [if_pos e] at z
              have one : INq Q k 1 md w.toNat (baQ Q k + d) := ⟨k, d, ⟨by omega, by omega⟩, k10, by rw [hb], hd, hmd⟩
              exact INq_d one z (Or.inl (by omega))
            · rw [if_neg e] at z
              unfold vL at hy
              rw [if_pos c10] at hy
              rcases hy with hy | hy
              · exact hρ y hy (INq_m z (by omega) (by omega) (fun d z => z))
              · apply e
                unfold nuQ
                rw [hy, (lc_row (Or.inr (Or.inl hO.1)) hL k10).2]
          cases md with
          | none => exact key (wtQ Q k) (Nat.le_refl _) (show w.toNat ≤ wtQ Q k by omega) g1 g0
          | some d =>
            have hm' : d ≤ w.toNat := hm
            exact key d (by omega) rfl g1 g0
  | .binary x A B, V, k, up, w, t, a, c, ρ, md, s, hO, ⟨hL, hA, hB⟩, hw, hm, hb, hρ, g1, g0 => by
    have ts : k + tsz (.binary x A B) = k + 1 + tsz A + tsz B := by show k + (1 + tsz A + tsz B) = _; omega
    have hbA : ∀ j, k + 1 ≤ j → j < k + 1 + tsz A → Q 51 j = 10 → baQ Q j = lis (Q 51) (Q 57) j := fun j j1 j2 => hb j (by omega) (by omega)
    have hbB : ∀ j, k + 1 + tsz A ≤ j → j < k + 1 + tsz A + tsz B → Q 51 j = 10 → baQ Q j = lis (Q 51) (Q 57) j := fun j j1 j2 => hb j (by omega) (by omega)
    have n6 : ¬ (lT x).1 = 6 := by rcases hO.1.1 with ⟨z, -⟩ | ⟨z | z, -⟩ <;> (rw [z]; decide)
    rw [if_neg n6, Int.add_zero] at hA
    have b5 := bw6 (c := (lT x).1 = 5)
    have wk := lw_row hL
    generalize ew : w + (if (lT x).1 = 5 then 1 else 0) = w' at hB
    have dN : ∀ d, mdD none w'.toNat d → mdD none w.toNat d := fun d (z : w'.toNat ≤ d) => show w.toNat ≤ d by omega
    have dW : ∀ v d, mdD (some (wtQ Q k)) v d → mdD none w.toNat d := fun v d (z : d = wtQ Q k) => show w.toNat ≤ d by omega
    have iA : ∀ i, INq Q (k + 1) (tsz A) md w.toNat i → INq Q k (tsz (.binary x A B)) md w.toNat i := fun i z => INq_m z (by omega) (by omega) (fun d z => z)
    have iBn : ∀ i, INq Q (k + 1 + tsz A) (tsz B) none w'.toNat i → INq Q k (tsz (.binary x A B)) none w.toNat i := fun i z => INq_m z (by omega) (by omega) dN
    have iBw : ∀ i, INq Q (k + 1 + tsz A) (tsz B) (some (wtQ Q k)) w'.toNat i → INq Q k (tsz (.binary x A B)) none w.toNat i := fun i z => INq_m z (by omega) (by omega) (dW _)
    have iBs : ∀ d i, INq Q (k + 1 + tsz A) (tsz B) (some d) w'.toNat i → INq Q k (tsz (.binary x A B)) (some d) w.toNat i := fun d i z => INq_m z (by omega) (by omega) (fun d z => z)
    have dd : ∀ (m1 m2 : Option Nat) (w1 w2 i : Nat), INq Q (k + 1) (tsz A) m1 w1 i → INq Q (k + 1 + tsz A) (tsz B) m2 w2 i → False := fun m1 m2 w1 w2 i z1 z2 => INq_d z1 z2 (Or.inl (Nat.le_refl _))
    have hmB : mdW (some (wtQ Q k)) w'.toNat := show wtQ Q k ≤ w'.toNat by omega
    have hmS : ∀ d, mdW (some d) w.toNat → mdW (some d) w'.toNat := fun d (z : d ≤ w.toNat) => show d ≤ w'.toNat by omega
    have dR : ∀ i, (∃ y, V y ∧ i = ρ y.toInt.toNat) → ¬ INq Q k (tsz (.binary x A B)) md w.toNat i := fun i ⟨y, y1, y2⟩ z => hρ y y1 (y2 ▸ z)
    unfold zv at g1 g0 ⊢
    by_cases c3 : (lT x).1 = 3
    · rw [if_pos c3] at g1 g0 ⊢
      cases md with
      | none => exact zSl_X (Ia := INq Q (k + 1) (tsz A) none w.toNat) (Ib := INq Q (k + 1 + tsz A) (tsz B) none w'.toNat) (R := fun i => ∃ y, V y ∧ i = ρ y.toInt.toNat) (fun u1 u0 => zX_T A V _ _ _ _ _ _ _ none _ hO.2.1 hA hw trivial hbA (fun y hy z => hρ y hy (iA _ z)) u1 u0) (fun u1 u0 => zX_T B V _ _ _ _ _ _ _ none _ hO.2.2 hB (by omega) trivial hbB (fun y hy z => hρ y hy (iBn _ z)) u1 u0) (fun i z => E_in A V _ _ _ _ _ _ _ none _ hO.2.1 hA hw trivial hbA i z) (fun i z => E_in B V _ _ _ _ _ _ _ none _ hO.2.2 hB (by omega) trivial hbB i z) (Or.inl (fun i => dd _ _ _ _ i)) dR iA iBn g1 g0
      | some d => exact zSl_X (Ia := INq Q (k + 1) (tsz A) (some d) w.toNat) (Ib := INq Q (k + 1 + tsz A) (tsz B) (some d) w'.toNat) (R := fun i => ∃ y, V y ∧ i = ρ y.toInt.toNat) (fun u1 u0 => zX_T A V _ _ _ _ _ _ _ (some d) _ hO.2.1 hA hw hm hbA (fun y hy z => hρ y hy (iA _ z)) u1 u0) (fun u1 u0 => zX_T B V _ _ _ _ _ _ _ (some d) _ hO.2.2 hB (by omega) (hmS d hm) hbB (fun y hy z => hρ y hy (iBs d _ z)) u1 u0) (fun i z => E_in A V _ _ _ _ _ _ _ (some d) _ hO.2.1 hA hw hm hbA i z) (fun i z => E_in B V _ _ _ _ _ _ _ (some d) _ hO.2.2 hB (by omega) (hmS d hm) hbB i z) (Or.inl (fun i => dd _ _ _ _ i)) dR iA (iBs d) g1 g0
    · rw [if_neg c3] at g1 g0 ⊢
      by_cases c5 : (lT x).1 = 5
      · rw [if_pos c5] at g1 g0 ⊢
        cases md with
        | none =>
          refine zSl_X (Ia := INq Q k (tsz (.binary x A B)) none w.toNat) (Ib := INq Q k (tsz (.binary x A B)) none w.toNat) (R := fun i => ∃ y, V y ∧ i = ρ y.toInt.toNat) (fun u1 u0 => ?_) (fun u1 u0 => ?_) (fun i z => ?_) (fun i z => ?_) (Or.inr (fun z => z.2 z.1)) dR (fun _ z => z) (fun _ z => z) g1 g0
          · exact zTh_X (Ia := INq Q (k + 1) (tsz A) none w.toNat) (Ib := INq Q (k + 1 + tsz A) (tsz B) (some (wtQ Q k)) w'.toNat) (R := fun i => ∃ y, V y ∧ i = ρ y.toInt.toNat) (fun u1 u0 => zX_T A V _ _ _ _ _ _ _ none _ hO.2.1 hA hw trivial hbA (fun y hy z => hρ y hy (iA _ z)) u1 u0) (fun u1 u0 => zX_T B V _ _ _ _ _ _ _ (some (wtQ Q k)) _ hO.2.2 hB (by omega) hmB hbB (fun y hy z => hρ y hy (iBw _ z)) u1 u0) (fun i z => E_in A V _ _ _ _ _ _ _ none _ hO.2.1 hA hw trivial hbA i z) (fun i z => E_in B V _ _ _ _ _ _ _ (some (wtQ Q k)) _ hO.2.2 hB (by omega) hmB hbB i z) (fun i => dd _ _ _ _ i) dR iA iBw u1 u0
          · refine zX_T B V _ _ _ _ _ _ _ none _ hO.2.2 hB (by omega) trivial hbB (fun y hy z => hρ y hy (iBn _ z)) u1 (fun i z => u0 i (iBn i z))
          · rcases z with z | ⟨-, z⟩
            · exact (E_in A V _ _ _ _ _ _ _ none _ hO.2.1 hA hw trivial hbA i z).imp id (iA i)
            · exact (E_in B V _ _ _ _ _ _ _ (some (wtQ Q k)) _ hO.2.2 hB (by omega) hmB hbB i z).imp id (iBw i)
          · exact (E_in B V _ _ _ _ _ _ _ none _ hO.2.2 hB (by omega) trivial hbB i z).imp id (iBn i)
        | some d => exact zTh_X (Ia := INq Q (k + 1) (tsz A) (some d) w.toNat) (Ib := INq Q (k + 1 + tsz A) (tsz B) (some d) w'.toNat) (R := fun i => ∃ y, V y ∧ i = ρ y.toInt.toNat) (fun u1 u0 => zX_T A V _ _ _ _ _ _ _ (some d) _ hO.2.1 hA hw hm hbA (fun y hy z => hρ y hy (iA _ z)) u1 u0) (fun u1 u0 => zX_T B V _ _ _ _ _ _ _ (some d) _ hO.2.2 hB (by omega) (hmS d hm) hbB (fun y hy z => hρ y hy (iBs d _ z)) u1 u0) (fun i z => E_in A V _ _ _ _ _ _ _ (some d) _ hO.2.1 hA hw hm hbA i z) (fun i z => E_in B V _ _ _ _ _ _ _ (some d) _ hO.2.2 hB (by omega) (hmS d hm) hbB i z) (fun i => dd _ _ _ _ i) dR iA (iBs d) g1 g0
      · rw [if_neg c5] at g1 g0 ⊢
        cases md with
        | none =>
          refine zPa_X (Ia := INq Q (k + 1) (tsz A) none w.toNat) (Ib := INq Q (k + 1 + tsz A) (tsz B) none w'.toNat) (R := fun i => ∃ y, V y ∧ i = ρ y.toInt.toNat) (fun u1 u0 => ?_) (fun u1 u0 => ?_) (fun i z => ?_) (fun i z => ?_) (fun i => dd _ _ _ _ i) dR iA iBn g1 g0
          · exact zSl_X (Ia := INq Q (k + 1) (tsz A) none w.toNat) (Ib := fun _ => False) (Ie := INq Q (k + 1) (tsz A) none w.toNat) (R := fun i => ∃ y, V y ∧ i = ρ y.toInt.toNat) (fun u1 u0 => zX_T A V _ _ _ _ _ _ _ none _ hO.2.1 hA hw trivial hbA (fun y hy z => hρ y hy (iA _ z)) u1 u0) (fun _ _ => trivial) (fun i z => E_in A V _ _ _ _ _ _ _ none _ hO.2.1 hA hw trivial hbA i z) (fun i z => z.elim) (Or.inl (fun _ _ z => z)) (fun i y z => dR i y (iA i z)) (fun _ z => z) (fun _ z => z.elim) u1 u0
          · exact zSl_X (Ia := INq Q (k + 1 + tsz A) (tsz B) none w'.toNat) (Ib := fun _ => False) (Ie := INq Q (k + 1 + tsz A) (tsz B) none w'.toNat) (R := fun i => ∃ y, V y ∧ i = ρ y.toInt.toNat) (fun u1 u0 => zX_T B V _ _ _ _ _ _ _ none _ hO.2.2 hB (by omega) trivial hbB (fun y hy z => hρ y hy (iBn _ z)) u1 u0) (fun _ _ => trivial) (fun i z => E_in B V _ _ _ _ _ _ _ none _ hO.2.2 hB (by omega) trivial hbB i z) (fun i z => z.elim) (Or.inl (fun _ _ z => z)) (fun i y z => dR i y (iBn i z)) (fun _ z => z) (fun _ z => z.elim) u1 u0
          · rcases z with ⟨-, z⟩ | ⟨-, z⟩
            · exact E_in A V _ _ _ _ _ _ _ none _ hO.2.1 hA hw trivial hbA i z
            · exact z.elim
          · rcases z with ⟨-, z⟩ | ⟨-, z⟩
            · exact E_in B V _ _ _ _ _ _ _ none _ hO.2.2 hB (by omega) trivial hbB i z
            · exact z.elim
        | some d => exact zPa_X (Ia := INq Q (k + 1) (tsz A) (some d) w.toNat) (Ib := INq Q (k + 1 + tsz A) (tsz B) (some d) w'.toNat) (R := fun i => ∃ y, V y ∧ i = ρ y.toInt.toNat) (fun u1 u0 => zX_T A V _ _ _ _ _ _ _ (some d) _ hO.2.1 hA hw hm hbA (fun y hy z => hρ y hy (iA _ z)) u1 u0) (fun u1 u0 => zX_T B V _ _ _ _ _ _ _ (some d) _ hO.2.2 hB (by omega) (hmS d hm) hbB (fun y hy z => hρ y hy (iBs d _ z)) u1 u0) (fun i z => E_in A V _ _ _ _ _ _ _ (some d) _ hO.2.1 hA hw hm hbA i z) (fun i z => E_in B V _ _ _ _ _ _ _ (some d) _ hO.2.2 hB (by omega) (hmS d hm) hbB i z) (fun i => dd _ _ _ _ i) dR iA (iBs d) g1 g0
end ZXT
