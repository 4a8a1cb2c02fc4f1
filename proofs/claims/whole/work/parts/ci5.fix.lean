/-! two ways of finding statuses come to the same -/
section EVV
variable {θ : (Int32 → Prop) → Int32 → Prop} {pk pf xx : Nat → Int32} {Q : Nat → Nat → Int32} {tv : (Nat → Nat) → Int32 → Int32} {σ : Nat → Int32} {hs : Nat → Prop} {sel : Nat → Prop} {G H : Prop}
theorem E_v : ∀ (T : tT) (V : Int32 → Prop) (k : Nat) (up : Int32) (w : Int) (t : Int32) (a c : Int) (ρ : Nat → Nat) (md : Option Nat) (s : Prop), okT θ V T → LPr G H pk pf xx Q T k up w t a c → ∀ i, zE (zv Q tv σ hs sel T k ρ md s) i → (∃ y, V y ∧ i = ρ y.toInt.toNat) ∨ zV (zv Q tv σ hs sel T k ρ md s) i
  | .const x, V, k, up, w, t, a, c, ρ, md, s, hO, hL, i, hi => by
    unfold zv at hi ⊢
    by_cases c1 : (lT x).1 = 1
    · rw [if_pos c1] at hi
      cases md with
      | none => exact hi.elim
      | some d => exact hi.elim
    · rw [if_neg c1] at hi
      by_cases c2 : (lT x).1 = 2
      · rw [if_pos c2] at hi
        left
        have hv : V (lT x).2.2.1 := by
          rcases hO.1 with (z | z | z) | ⟨-, z⟩
          · rw [c2] at z; exact absurd z (by decide)
          · rw [c2] at z; exact absurd z (by decide)
          · rw [c2] at z; exact absurd z (by decide)
          · exact z
        refine ⟨_, hv, ?_⟩
        have hi : i = ρ (nuQ Q k) := hi
        rw [hi]
        have e := (hL.2.1 hO.2.1).2 c1 (Or.inl (by rw [c2]; decide))
        unfold rN at e
        rw [if_neg (by rw [c2]; decide)] at e
        unfold nuQ
        rw [e]
      · rw [if_neg c2] at hi
        by_cases c3 : (lT x).1 = 9
        · rw [if_pos c3] at hi; exact hi.elim
        · rw [if_neg c3] at hi; exact hi.elim
  | .unary x A, V, k, up, w, t, a, c, ρ, md, s, hO, ⟨hL, hA⟩, i, hi => by
    unfold zv at hi ⊢
    by_cases c4 : (lT x).1 = 4
    · have vLe : vL V (lT x) = V := if_neg (by rw [c4]; decide)
      have hO2 := hO.2
      rw [vLe] at hO2
      rw [if_pos c4] at hi ⊢
      cases md with
      | none =>
        rcases hi with ⟨p, hi⟩ | ⟨-, hi⟩
        · exact (E_v A V _ _ _ _ _ _ ρ none _ hO2 hA i hi).imp id (fun z => Or.inl ⟨p, z⟩)
        · exact hi.elim
      | some d => exact E_v A V _ _ _ _ _ _ ρ (some d) _ hO2 hA i hi
    · rw [if_neg c4] at hi ⊢
      by_cases c6 : (lT x).1 = 6
      · have vLe : vL V (lT x) = V := if_neg (by rw [c6]; decide)
        have hO2 := hO.2
        rw [vLe] at hO2
        rw [if_pos c6] at hi ⊢
        cases md with
        | none =>
          rcases hi with hi | ⟨p, hi⟩
          · exact (E_v A V _ _ _ _ _ _ ρ none _ hO2 hA i hi).imp id Or.inl
          · exact (E_v A V _ _ _ _ _ _ ρ (some (wtQ Q k)) _ hO2 hA i hi).imp id (fun z => Or.inr ⟨p, z⟩)
        | some d => exact E_v A V _ _ _ _ _ _ ρ (some d) _ hO2 hA i hi
      · rw [if_neg c6] at hi ⊢
        by_cases c8 : (lT x).1 = 8
        · have vLe : vL V (lT x) = V := if_neg (by rw [c8]; decide)
          have hO2 := hO.2
          rw [vLe] at hO2
          rw [if_pos c8] at hi ⊢
          exact E_v A V _ _ _ _ _ _ ρ md _ hO2 hA i hi
        · rw [if_neg c8] at hi ⊢
          have c10 : (lT x).1 = 10 := by
            rcases hO.1.1 with ⟨z, -⟩ | ⟨z | z | z, -⟩
            · exact absurd z c4
            · exact absurd z c6
            · exact absurd z c8
            · exact z
          have k10 : Q 51 k = 10 := hL.1.1.trans c10
          have key : ∀ (d : Nat), zE (zv Q tv σ hs sel A (k + 1) (rhU ρ (nuQ Q k) d) md s) i → (∃ y, V y ∧ i = ρ y.toInt.toNat) ∨ (i = d ∨ zV (zv Q tv σ hs sel A (k + 1) (rhU ρ (nuQ Q k) d) md s) i) := by
            intro d hz
            rcases E_v A _ _ _ _ _ _ _ _ _ _ hO.2 hA i hz with ⟨y, y1, y2⟩ | z
            · unfold rhU at y2
              by_cases e : y.toInt.toNat = nuQ Q k
              · rw [if_pos e] at y2
                exact Or.inr (Or.inl y2)
              · rw [if_neg e] at y2
                unfold vL at y1
                rw [if_pos c10] at y1
                rcases y1 with y1 | y1
                · exact Or.inl ⟨y, y1, y2⟩
                · exfalso
                  apply e
                  unfold nuQ
                  rw [y1, (lc_row (Or.inr (Or.inl hO.1)) hL k10).2]
            · exact Or.inr (Or.inr z)
          cases md with
          | none => exact key _ hi
          | some d => exact key _ hi
  | .binary x A B, V, k, up, w, t, a, c, ρ, md, s, hO, ⟨hL, hA, hB⟩, i, hi => by
    unfold zv at hi ⊢
    by_cases c3 : (lT x).1 = 3
    · rw [if_pos c3] at hi ⊢
      cases md with
      | none =>
        rcases hi with ⟨p, hi⟩ | ⟨p, hi⟩
        · exact (E_v A V _ _ _ _ _ _ ρ none _ hO.2.1 hA i hi).imp id (fun z => Or.inl ⟨p, z⟩)
        · exact (E_v B V _ _ _ _ _ _ ρ none _ hO.2.2 hB i hi).imp id (fun z => Or.inr ⟨p, z⟩)
      | some d =>
        rcases hi with ⟨p, hi⟩ | ⟨p, hi⟩
        · exact (E_v A V _ _ _ _ _ _ ρ (some d) _ hO.2.1 hA i hi).imp id (fun z => Or.inl ⟨p, z⟩)
        · exact (E_v B V _ _ _ _ _ _ ρ (some d) _ hO.2.2 hB i hi).imp id (fun z => Or.inr ⟨p, z⟩)
    · rw [if_neg c3] at hi ⊢
      by_cases c5 : (lT x).1 = 5
      · rw [if_pos c5] at hi ⊢
        cases md with
        | none =>
          rcases hi with ⟨p, hi | ⟨q, hi⟩⟩ | ⟨p, hi⟩
          · exact (E_v A V _ _ _ _ _ _ ρ none _ hO.2.1 hA i hi).imp id (fun z => Or.inl ⟨p, Or.inl z⟩)
          · exact (E_v B V _ _ _ _ _ _ ρ (some (wtQ Q k)) _ hO.2.2 hB i hi).imp id (fun z => Or.inl ⟨p, Or.inr ⟨q, z⟩⟩)
          · exact (E_v B V _ _ _ _ _ _ ρ none _ hO.2.2 hB i hi).imp id (fun z => Or.inr ⟨p, z⟩)
        | some d =>
          rcases hi with hi | ⟨q, hi⟩
          · exact (E_v A V _ _ _ _ _ _ ρ (some d) _ hO.2.1 hA i hi).imp id Or.inl
          · exact (E_v B V _ _ _ _ _ _ ρ (some d) _ hO.2.2 hB i hi).imp id (fun z => Or.inr ⟨q, z⟩)
      · rw [if_neg c5] at hi ⊢
        cases md with
        | none =>
          rcases hi with (⟨p, hi⟩ | ⟨-, hi⟩) | (⟨p, hi⟩ | ⟨-, hi⟩)
          · exact (E_v A V _ _ _ _ _ _ ρ none _ hO.2.1 hA i hi).imp id (fun z => Or.inl (Or.inl ⟨p, z⟩))
          · exact hi.elim
          · exact (E_v B V _ _ _ _ _ _ ρ none _ hO.2.2 hB i hi).imp id (fun z => Or.inr (Or.inl ⟨p, z⟩))
          · exact hi.elim
        | some d =>
          rcases hi with hi | hi
          · exact (E_v A V _ _ _ _ _ _ ρ (some d) _ hO.2.1 hA i hi).imp id Or.inl
          · exact (E_v B V _ _ _ _ _ _ ρ (some d) _ hO.2.2 hB i hi).imp id Or.inr
end EVV
section FIX
variable {names : Int32} {kk ff ss xx : Nat → Int32} {m : Nat} {Q : Nat → Nat → Int32} {hs : Nat → Prop} {sel : Nat → Prop} {H : Prop} {T : tT} {V : Int32 → Prop} {ρ : Nat → Nat} {md : Option Nat} {L : Nat → Prop} {σ0 : Nat → Int32}
/-- the instant, at statuses -/
def rtZ (Q : Nat → Nat → Int32) (hs sel : Nat → Prop) (T : tT) (ρ : Nat → Nat) (md : Option Nat) (σ : Nat → Int32) : zvT := zv Q (tvQ Q σ) σ hs sel T 0 ρ md True
theorem rtZ_le {σ μ : Nat → Int32} (h : ∀ i, vle (σ i) (μ i)) : zle (rtZ Q hs sel T ρ md σ) (rtZ Q hs sel T ρ md μ) := zv_le (fun r n => tvF_le (fun s => h (r s)) _ _) T 0 ρ md True True id
/-- statuses that fit -/
def Stb (Q : Nat → Nat → Int32) (hs sel : Nat → Prop) (T : tT) (ρ : Nat → Nat) (md : Option Nat) (L : Nat → Prop) (σ0 κ : Nat → Int32) : Prop := (∀ i, ¬ L i → κ i = σ0 i) ∧ ∀ i, L i → (zS (rtZ Q hs sel T ρ md κ) i → κ i = 1) ∧ (¬ zE (rtZ Q hs sel T ρ md κ) i → κ i = 0)
/-- statuses on the way to the least that fit -/
def RIv (Q : Nat → Nat → Int32) (hs sel : Nat → Prop) (T : tT) (ρ : Nat → Nat) (md : Option Nat) (L : Nat → Prop) (σ0 σ : Nat → Int32) : Prop := (∀ i, ¬ L i → σ i = σ0 i) ∧ (∀ κ, Stb Q hs sel T ρ md L σ0 κ → ∀ i, vle (σ i) (κ i)) ∧ ∀ i, L i → (σ i = 1 → zS (rtZ Q hs sel T ρ md σ) i) ∧ (σ i = 0 → ¬ zE (rtZ Q hs sel T ρ md σ) i) ∧ v3 (σ i)
/-- what is learned in a round -/
def lrn (Q : Nat → Nat → Int32) (hs sel : Nat → Prop) (T : tT) (ρ : Nat → Nat) (md : Option Nat) (L : Nat → Prop) (σ σ' : Nat → Int32) : Prop := ∀ i, (L i → σ i = 2 → zS (rtZ Q hs sel T ρ md σ) i → σ' i = 1) ∧ (L i → σ i = 2 → ¬ zE (rtZ Q hs sel T ρ md σ) i → σ' i = 0) ∧ (¬ (L i ∧ σ i = 2 ∧ (zS (rtZ Q hs sel T ρ md σ) i ∨ ¬ zE (rtZ Q hs sel T ρ md σ) i)) → σ' i = σ i)
theorem RIv_s {σ σ' : Nat → Int32} (h : RIv Q hs sel T ρ md L σ0 σ) (l : lrn Q hs sel T ρ md L σ σ') : RIv Q hs sel T ρ md L σ0 σ' := by
  obtain ⟨h1, h2, h3⟩ := h
  have ok := zv_ok (Q := Q) (tv := tvQ Q σ) (σ := σ) (hs := hs) (sel := sel) T 0 ρ md True
  have up : ∀ i, vle (σ i) (σ' i) := by
    intro i
    by_cases c : σ i = 2
    · exact Or.inl c
    · exact Or.inr ((l i).2.2 (fun z => c z.2.1)).symm
  have le := rtZ_le (Q := Q) (hs := hs) (sel := sel) (T := T) (ρ := ρ) (md := md) up
  have ok' := zv_ok (Q := Q) (tv := tvQ Q σ') (σ := σ') (hs := hs) (sel := sel) T 0 ρ md True
  refine ⟨fun i n => ?_, fun κ hk i => ?_, fun i hi => ?_⟩
  · rw [(l i).2.2 (fun z => n z.1)]
    exact h1 i n
  · have lk := rtZ_le (Q := Q) (hs := hs) (sel := sel) (T := T) (ρ := ρ) (md := md) (h2 κ hk)
    by_cases c : L i ∧ σ i = 2 ∧ (zS (rtZ Q hs sel T ρ md σ) i ∨ ¬ zE (rtZ Q hs sel T ρ md σ) i)
    · obtain ⟨c1, c2, c3 | c3⟩ := c
      · rw [(l i).1 c1 c2 c3, ((hk.2 i c1).1 (lk.2.2.2.1 i c3))]
        exact Or.inr rfl
      · rw [(l i).2.1 c1 c2 c3, ((hk.2 i c1).2 (fun z => c3 (lk.2.2.1 i z)))]
        exact Or.inr rfl
    · rw [(l i).2.2 c]
      exact h2 κ hk i
  · by_cases c : L i ∧ σ i = 2 ∧ (zS (rtZ Q hs sel T ρ md σ) i ∨ ¬ zE (rtZ Q hs sel T ρ md σ) i)
    · obtain ⟨c1, c2, c3 | c3⟩ := c
      · rw [(l i).1 c1 c2 c3]
        exact ⟨fun _ => le.2.2.2.1 i c3, fun z => absurd z (by decide), Or.inr (Or.inl rfl)⟩
      · rw [(l i).2.1 c1 c2 c3]
        exact ⟨fun z => absurd z (by decide), fun _ z => c3 (le.2.2.1 i z), Or.inl rfl⟩
    · rw [(l i).2.2 c]
      obtain ⟨u1, u2, u3⟩ := h3 i hi
      exact ⟨fun z => le.2.2.2.1 i (u1 z), fun z y => u2 z (le.2.2.1 i y), u3⟩
/-- nothing more to learn: the statuses fit -/
theorem RIv_e {μ : Nat → Int32} (h : RIv Q hs sel T ρ md L σ0 μ) (e : ∀ i, L i → μ i = 2 → zE (rtZ Q hs sel T ρ md μ) i ∧ ¬ zS (rtZ Q hs sel T ρ md μ) i) : Stb Q hs sel T ρ md L σ0 μ := by
  have ok := zv_ok (Q := Q) (tv := tvQ Q μ) (σ := μ) (hs := hs) (sel := sel) T 0 ρ md True
  refine ⟨h.1, fun i hi => ⟨fun z => ?_, fun z => ?_⟩⟩
  · rcases (h.2.2 i hi).2.2 with c | c | c
    · exact absurd (ok.2.2.2.2.2.1 i z) ((h.2.2 i hi).2.1 c)
    · exact c
    · exact absurd z (e i hi c).2
  · rcases (h.2.2 i hi).2.2 with c | c | c
    · exact c
    · exact absurd (ok.2.2.2.2.2.1 i ((h.2.2 i hi).1 c)) z
    · exact absurd (e i hi c).1 z
/-- the class's statuses and the reference's: the same where they are looked at -/
theorem fix_T (W : pcW names kk ff ss xx m) (hm : m ≤ 1000) {up : Int32} {w : Int} {t : Int32} {a c : Int} (hO : okT (pOk kk ff xx 0 (m : Int)) V T) (hP : LPr True H kk ff xx Q T 0 up w t a c) (h0 : 0 ≤ c) (h1 : c + tsm xx T ≤ 1000000) (hV : ∀ y, V y → 0 ≤ y.toInt) (hc : ∀ y, y ∈ lcT T → 0 ≤ y.toInt) {κ μ : Nat → Int32} (hr : RIv Q hs sel T ρ md L σ0 μ) (he : ∀ i, L i → μ i = 2 → zE (rtZ Q hs sel T ρ md μ) i ∧ ¬ zS (rtZ Q hs sel T ρ md μ) i) (k0 : ∀ i, ¬ L i → κ i = σ0 i) (ks : ∀ i, vle (κ i) (μ i)) (kc : ∀ i, L i → (zV (rtZ Q hs sel T ρ md κ) i ∨ ∃ y, V y ∧ i = ρ y.toInt.toNat) → κ i = 2 → zE (rtZ Q hs sel T ρ md κ) i ∧ ¬ zS (rtZ Q hs sel T ρ md κ) i) : rtZ Q hs sel T ρ md κ = rtZ Q hs sel T ρ md μ ∧ (∀ y, V y → κ (ρ y.toInt.toNat) = μ (ρ y.toInt.toNat)) ∧ ∀ i, zV (rtZ Q hs sel T ρ md κ) i → κ i = μ i := by
  have sb := RIv_e hr he
  have ok := zv_ok (Q := Q) (tv := tvQ Q κ) (σ := κ) (hs := hs) (sel := sel) T 0 ρ md True
  have le := rtZ_le (Q := Q) (hs := hs) (sel := sel) (T := T) (ρ := ρ) (md := md) ks
  obtain ⟨κ', K⟩ : ∃ κ' : Nat → Int32, ∀ i, (κ i = 2 ∧ ¬ (zV (rtZ Q hs sel T ρ md κ) i ∨ ∃ y, V y ∧ i = ρ y.toInt.toNat) → κ' i = μ i) ∧ (¬ (κ i = 2 ∧ ¬ (zV (rtZ Q hs sel T ρ md κ) i ∨ ∃ y, V y ∧ i = ρ y.toInt.toNat)) → κ' i = κ i) := by
    refine ⟨fun i => @ite _ (κ i = 2 ∧ ¬ (zV (rtZ Q hs sel T ρ md κ) i ∨ ∃ y, V y ∧ i = ρ y.toInt.toNat)) (Classical.propDecidable _) (μ i) (κ i), fun i => ⟨fun z => ?_, fun z => ?_⟩⟩
    · exact if_pos z
    · exact if_neg z
  have ec : rtZ Q hs sel T ρ md κ = rtZ Q hs sel T ρ md κ' := zv_cg W hm T V 0 _ _ _ _ _ ρ md True hO hP h0 h1 (fun y hy => ⟨hV y hy, ((K _).2 (fun z => z.2 (Or.inr ⟨y, hy, rfl⟩))).symm⟩) hc (fun i z => ((K i).2 (fun y => y.2 (Or.inl z))).symm)
  have sk : Stb Q hs sel T ρ md L σ0 κ' := by
    refine ⟨fun i n => ?_, fun i hi => ⟨fun z => ?_, fun z => ?_⟩⟩
    · by_cases q : κ i = 2 ∧ ¬ (zV (rtZ Q hs sel T ρ md κ) i ∨ ∃ y, V y ∧ i = ρ y.toInt.toNat)
      · rw [(K i).1 q]; exact sb.1 i n
      · rw [(K i).2 q]; exact k0 i n
    · rw [← ec] at z
      have ev := E_v (σ := κ) T V 0 _ _ _ _ _ ρ md True hO hP i (ok.2.2.2.2.2.1 i z)
      have vis : zV (rtZ Q hs sel T ρ md κ) i ∨ ∃ y, V y ∧ i = ρ y.toInt.toNat := ev.elim Or.inr Or.inl
      have n2 : ¬ κ i = 2 := fun y => (kc i hi vis y).2 z
      rw [(K i).2 (fun y => n2 y.1), (ks i).resolve_left n2]
      exact (sb.2 i hi).1 (le.2.2.2.1 i z)
    · rw [← ec] at z
      have m0 : μ i = 0 := (sb.2 i hi).2 (fun y => z (le.2.2.1 i y))
      by_cases q : κ i = 2 ∧ ¬ (zV (rtZ Q hs sel T ρ md κ) i ∨ ∃ y, V y ∧ i = ρ y.toInt.toNat)
      · rw [(K i).1 q]; exact m0
      · rw [(K i).2 q]
        have n2 : ¬ κ i = 2 := by
          intro y
          have vis : zV (rtZ Q hs sel T ρ md κ) i ∨ ∃ y, V y ∧ i = ρ y.toInt.toNat := Classical.byContradiction (fun v => q ⟨y, v⟩)
          exact z (kc i hi vis y).1
        rw [(ks i).resolve_left n2]
        exact m0
  have eq : μ = κ' := by
    funext i
    rcases hr.2.1 κ' sk i with z | z
    · by_cases q : κ i = 2 ∧ ¬ (zV (rtZ Q hs sel T ρ md κ) i ∨ ∃ y, V y ∧ i = ρ y.toInt.toNat)
      · exact ((K i).1 q).symm
      · rw [(K i).2 q]
        rcases ks i with y | y
        · rw [z, y]
        · exact y.symm
    · exact z
  refine ⟨by rw [eq]; exact ec, fun y hy => ?_, fun i hi => ?_⟩
  · rw [eq]
    exact ((K _).2 (fun z => z.2 (Or.inr ⟨y, hy, rfl⟩))).symm
  · rw [eq]
    exact ((K i).2 (fun z => z.2 (Or.inl hi))).symm
end FIX
