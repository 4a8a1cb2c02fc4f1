/-! the class's heap looked at address by address; rules for told programs over it -/
theorem hz_cons {x : Nat × va_E} {r : va_W} {b : Nat} : hg_at (x :: r) b = if x.1 = b then some x.2 else hg_at r b := by
  unfold hg_at
  by_cases h : x.1 = b
  · rw [if_pos h, List.find?_cons_of_pos (by simpa using h)]; rfl
  · rw [if_neg h, List.find?_cons_of_neg (by simpa using h)]
theorem hz_upd {a : Nat} {e : va_E} {b : Nat} : ∀ (ws : va_W), hg_at (hg_upd ws a e) b = if b = a then (hg_at ws b).map (fun _ => e) else hg_at ws b
  | [] => by
    have h : hg_upd [] a e = [] := rfl
    rw [h]
    by_cases h1 : b = a
    · rw [if_pos h1]; rfl
    · rw [if_neg h1]
  | x :: r => by
    have ih := hz_upd (a := a) (e := e) (b := b) r
    have hc : hg_upd (x :: r) a e = (if x.1 = a then (a, e) else x) :: hg_upd r a e := rfl
    rw [hc, hz_cons, hz_cons, ih]
    by_cases h1 : x.1 = a
    · rw [if_pos h1]
      by_cases h2 : b = a
      · rw [if_pos (show (a, e).1 = b from h2.symm), if_pos h2, if_pos (h1.trans h2.symm)]; rfl
      · rw [if_neg (show ¬ (a, e).1 = b from fun z => h2 z.symm), if_neg h2, if_neg h2, if_neg (fun z => h2 (z.symm.trans h1))]
    · rw [if_neg h1]
      by_cases h2 : b = a
      · rw [if_pos h2, if_pos h2, if_neg (fun z => h1 (z.trans h2)), if_neg (fun z => h1 (z.trans h2))]
      · rw [if_neg h2, if_neg h2]
theorem hz_app {a : Nat} {e : va_E} {b : Nat} : ∀ (ws : va_W), hg_at (ws ++ [(a, e)]) b = (hg_at ws b).or (if a = b then some e else none)
  | [] => by
    rw [List.nil_append, hz_cons]
    by_cases h : a = b
    · rw [if_pos (show (a, e).1 = b from h), if_pos h]; rfl
    · rw [if_neg (show ¬ (a, e).1 = b from h), if_neg h]; rfl
  | x :: r => by
    rw [List.cons_append, hz_cons, hz_cons, hz_app r]
    by_cases h : x.1 = b
    · rw [if_pos h, if_pos h]; rfl
    · rw [if_neg h, if_neg h]
/-- nothing lies beyond the top -/
def hw (S : hg_S) : Prop := ∀ b, S.2.1 ≤ b → hg_at S.1 b = none
/-- a cell written; a cell made -/
def hu (S : hg_S) (a : Nat) (e : va_E) : hg_S := (hg_upd S.1 a e, S.2)
def hp (S : hg_S) (e : va_E) (n : Nat) : hg_S := (S.1 ++ [(S.2.1, e)], S.2.1 + 1, S.2.2.1 - 1, S.2.2.2 - n)
section HZ
variable {S : hg_S} {a b n : Nat} {e e0 : va_E}
theorem hu_self (h : hg_at S.1 a = some e0) : hg_at (hu S a e).1 a = some e := by
  show hg_at (hg_upd S.1 a e) a = _
  rw [hz_upd, if_pos rfl, h]; rfl
theorem hu_ne (h : b ≠ a) : hg_at (hu S a e).1 b = hg_at S.1 b := by
  show hg_at (hg_upd S.1 a e) b = _
  rw [hz_upd, if_neg h]
theorem hp_self (h : hw S) : hg_at (hp S e n).1 S.2.1 = some e := by
  show hg_at (S.1 ++ [(S.2.1, e)]) S.2.1 = _
  rw [hz_app, h _ (Nat.le_refl _), if_pos rfl]; rfl
theorem hp_ne (hb : b ≠ S.2.1) : hg_at (hp S e n).1 b = hg_at S.1 b := by
  show hg_at (S.1 ++ [(S.2.1, e)]) b = _
  rw [hz_app, if_neg (fun z => hb z.symm)]
  cases hg_at S.1 b <;> rfl
theorem hw.lt (h : hw S) (hb : hg_at S.1 b = some e) : b < S.2.1 := by
  rcases Nat.lt_or_ge b S.2.1 with h1 | h1
  · exact h1
  · rw [h b h1] at hb; cases hb
theorem hw.hu (h : hw S) : hw (hu S a e) := by
  intro b hb
  show hg_at (hg_upd S.1 a e) b = none
  have hb : hg_at S.1 b = none := h b hb
  rw [hz_upd, hb]
  by_cases h1 : b = a
  · rw [if_pos h1]; rfl
  · rw [if_neg h1]
theorem hw.hp (h : hw S) : hw (hp S e n) := by
  intro b hb
  have hb : S.2.1 + 1 ≤ b := hb
  rw [hp_ne (by omega)]
  exact h b (by omega)
end HZ
section WQ
variable {τ : Type} {S : hg_S} {a ci k : Nat} {fs : List Value} {F : τ → Prop}
theorem wq_call {ρ : Type} {E : Option ρ} {f : ρ → Option τ} {P : ρ → Prop} (h : dc_wp E P) (kk : ∀ q, P q → dc_wp (f q) F) : dc_wp (E.bind f) F := by
  obtain ⟨q, e, hp⟩ := h
  rw [e]
  exact kk q hp
theorem wq_let {α : Type} {e : α} {f : α → Option τ} (kk : ∀ x, x = e → dc_wp (f x) F) : dc_wp (dc_let e f) F := kk e rfl
theorem wq_if {c : Prop} [Decidable c] {E1 E2 : Option τ} (k1 : c → dc_wp E1 F) (k2 : ¬ c → dc_wp E2 F) : dc_wp (if c then E1 else E2) F := by
  by_cases h : c
  · rw [if_pos h]; exact k1 h
  · rw [if_neg h]; exact k2 h
theorem vq_fld (h : hg_at S.1 a = some (.inr (ci, fs))) {v : Value} (hx : fs[k]? = some v) : hg_fld S (some a) ci k = some v := by
  unfold hg_fld
  dsimp only
  rw [h]
  dsimp only
  rw [if_pos rfl]
  exact hx
theorem wq_gi (h : hg_at S.1 a = some (.inr (ci, fs))) {x : Int32} (hx : fs[k]? = some (.int x)) {E : Int32 → Option τ} (kk : dc_wp (E x) F) : dc_wp ((hg_gi S (some a) ci k).bind E) F := by
  have e : hg_gi S (some a) ci k = some x := by
    unfold hg_gi
    rw [vq_fld h hx]
  rw [e]
  exact kk
theorem wq_gr (h : hg_at S.1 a = some (.inr (ci, fs))) {x : Option Nat} (hx : fs[k]? = some (va_rf x)) {E : Option Nat → Option τ} (kk : dc_wp (E x) F) : dc_wp ((hg_gr S (some a) ci k).bind E) F := by
  have e : hg_gr S (some a) ci k = some x := by
    unfold hg_gr
    rw [vq_fld h hx]
    cases x <;> rfl
  rw [e]
  exact kk
theorem wq_pf (h : hg_at S.1 a = some (.inr (ci, fs))) {v : Value} (hk : k < fs.length) {E : hg_S → Option τ} (kk : dc_wp (E (hu S a (.inr (ci, fs.set k v)))) F) : dc_wp ((hg_pf S (some a) ci k v).bind E) F := by
  have e : hg_pf S (some a) ci k v = some (hu S a (.inr (ci, fs.set k v))) := by
    unfold hg_pf
    dsimp only
    rw [h]
    dsimp only
    rw [if_pos ⟨rfl, hk⟩]
    rfl
  rw [e]
  exact kk
theorem wq_chk (h : hg_at S.1 a = some (.inr (ci, fs))) {E : Nat → Option τ} (kk : dc_wp (E a) F) : dc_wp ((hg_chk S (some a) ci).bind E) F := by
  have e : hg_chk S (some a) ci = some a := by
    unfold hg_chk
    dsimp only
    rw [h]
    dsimp only
    rw [if_pos rfl]
  rw [e]
  exact kk
variable {c : ClassId} {n : Nat} {f : Nat → Int32}
theorem vq_ia (h : hg_at S.1 a = some (.inl (c, n, .inl f))) : hg_ia S (some a) c = some (a, n, f) := by
  unfold hg_ia
  dsimp only
  rw [h]
  dsimp only
  rw [if_pos rfl]
theorem wq_ia (h : hg_at S.1 a = some (.inl (c, n, .inl f))) {E : Nat × Nat × (Nat → Int32) → Option τ} (kk : dc_wp (E (a, n, f)) F) : dc_wp ((hg_ia S (some a) c).bind E) F := by
  rw [vq_ia h]
  exact kk
theorem wq_ln (h : hg_at S.1 a = some (.inl (c, n, .inl f))) {E : Int32 → Option τ} (kk : dc_wp (E (Int32.ofNat n)) F) : dc_wp ((hg_ln S (some a) c).bind E) F := by
  have e : hg_ln S (some a) c = some (Int32.ofNat n) := by
    unfold hg_ln
    rw [vq_ia h]
    rfl
  rw [e]
  exact kk
theorem vq_ix {i : Int32} (h0 : 0 ≤ i.toInt) (h1 : i.toInt < (n : Int)) : dc_ix i n = some i.toInt.toNat := by
  have hi := i_nat h0
  unfold dc_ix
  rw [if_neg (by
    rintro (h | h)
    · have := i_lt.mp h; rw [il_0] at this; omega
    · omega)]
  rfl
theorem wq_ix {i : Int32} (h0 : 0 ≤ i.toInt) (h1 : i.toInt < (n : Int)) {E : Nat → Option τ} (kk : dc_wp (E i.toInt.toNat) F) : dc_wp ((dc_ix i n).bind E) F := by
  rw [vq_ix h0 h1]
  exact kk
theorem wq_ld (h : hg_at S.1 a = some (.inl (c, n, .inl f))) {i : Int32} (h0 : 0 ≤ i.toInt) (h1 : i.toInt < (n : Int)) {E : Int32 → Option τ} (kk : dc_wp (E (f i.toInt.toNat)) F) : dc_wp ((hg_ld S (some a) c i).bind E) F := by
  have e : hg_ld S (some a) c i = some (f i.toInt.toNat) := by
    unfold hg_ld
    rw [vq_ia h, Option.bind_some]
    show (dc_ix i n).bind _ = _
    rw [vq_ix h0 h1]
    rfl
  rw [e]
  exact kk
theorem wq_st (h : hg_at S.1 a = some (.inl (c, n, .inl f))) {i x : Int32} (h0 : 0 ≤ i.toInt) (h1 : i.toInt < (n : Int)) {E : hg_S → Option τ} (kk : dc_wp (E (hu S a (.inl (c, n, .inl (upd f i.toInt.toNat x))))) F) : dc_wp ((hg_st S (some a) c i x).bind E) F := by
  have e : hg_st S (some a) c i x = some (hu S a (.inl (c, n, .inl (upd f i.toInt.toNat x)))) := by
    unfold hg_st
    rw [vq_ia h, Option.bind_some]
    show (dc_ix i n).bind _ = _
    rw [vq_ix h0 h1]
    rfl
  rw [e]
  exact kk
theorem wq_newa {G : hg_E} {t : Nat} {i : Int32} {N : Nat} (h0 : i.toInt = (N : Int)) (h1 : 1 ≤ S.2.2.1) (h2 : N ≤ S.2.2.2) (h3 : N * 4 ≤ 536870912) {E : hg_S → Option τ} (kk : dc_wp (E (hp S (.inl (G.1 t, N, .inl (fun _ => 0))) N)) F) : dc_wp ((hg_newa G S t i).bind E) F := by
  have hN : i.toNatClampNeg = N := by have := i_nat (x := i) (by omega); omega
  have e : hg_newa G S t i = some (hp S (.inl (G.1 t, N, .inl (fun _ => 0))) N) := by
    unfold hg_newa
    rw [if_pos ⟨by rw [i_lt, il_0]; omega, h1, by rw [hN]; exact h2, by rw [hN]; exact h3⟩, hN]
    rfl
  rw [e]
  exact kk
theorem wq_new {N : Nat} (h1 : 1 ≤ S.2.2.1) (h2 : N ≤ S.2.2.2) {E : hg_S → Option τ} (kk : dc_wp (E (hp S (.inr (ci, fs)) N)) F) : dc_wp ((hg_new S ci N fs).bind E) F := by
  have e : hg_new S ci N fs = some (hp S (.inr (ci, fs)) N) := by
    unfold hg_new
    rw [if_pos ⟨h1, h2⟩]
    rfl
  rw [e]
  exact kk
theorem wq_cpy {G : hg_E} {t : Nat} {ty : FieldType} {a2 n2 : Nat} {f2 : Nat → Int32} {sp dp l : Int32} (h : hg_at S.1 a = some (.inl (G.1 t, n, .inl f))) (h2 : hg_at S.1 a2 = some (.inl (G.1 t, n2, .inl f2))) (s0 : 0 ≤ sp.toInt) (d0 : 0 ≤ dp.toInt) (l0 : 0 ≤ l.toInt) (hs : sp.toInt + l.toInt ≤ (n : Int)) (hd : dp.toInt + l.toInt ≤ (n2 : Int)) (hf : ∀ i, i < l.toInt.toNat → fits ty (.int (f (sp.toInt.toNat + i))) = true) {E : hg_S → Option τ} (kk : dc_wp (E (hu S a2 (.inl (G.1 t, n2, .inl (va_cpy f f2 sp.toInt.toNat dp.toInt.toNat l.toInt.toNat))))) F) : dc_wp ((hg_cpy G S t ty (some a) sp (some a2) dp l).bind E) F := by
  have e1 : sp.toNatClampNeg = sp.toInt.toNat := rfl
  have e2 : dp.toNatClampNeg = dp.toInt.toNat := rfl
  have e3 : l.toNatClampNeg = l.toInt.toNat := rfl
  have e : hg_cpy G S t ty (some a) sp (some a2) dp l = some (hu S a2 (.inl (G.1 t, n2, .inl (va_cpy f f2 sp.toInt.toNat dp.toInt.toNat l.toInt.toNat)))) := by
    unfold hg_cpy
    rw [vq_ia h, Option.bind_some, vq_ia h2, Option.bind_some]
    dsimp only
    rw [e1, e2, e3, if_pos ⟨by rw [i_lt, il_0]; omega, by rw [i_lt, il_0]; omega, by rw [i_lt, il_0]; omega, by omega, by omega, hf⟩]
    rfl
  rw [e]
  exact kk
end WQ
