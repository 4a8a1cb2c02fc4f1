/-! names in told programs; loops with a hidden aim; switches; calls on the reference's world; written by wip/gen/rows42.py -/
def dc_let {α τ : Type} (x : α) (f : α → Option τ) : Option τ := f x
theorem dc_loopF {α β : Type} {step : α → Option (α ⊕ β)} {P : α → Prop} {F : β → Prop} (hs : ∀ Fc : α ⊕ β → Prop, (∀ y, Fc (.inl y) → P y) → (∀ z, Fc (.inr z) → F z) → ∀ x, dc_wp (step x) Fc → P x) : ∀ x, dc_wp (dc_it step x) F → P x :=
  dc_loop (fun x h => hs (Sum.elim P F) (fun _ h => h) (fun _ h => h) x h)
theorem dc_nz {τ : Type} {E : Option τ} {F : τ → Prop} {y : Int32} (h : dc_wp (if y = 0 then none else E) F) : ¬ y = 0 ∧ dc_wp E F := by
  by_cases hy : y = 0
  · rw [if_pos hy] at h; exact (dc_not h).elim
  · rw [if_neg hy] at h; exact ⟨hy, h⟩
theorem dc_ite {τ : Type} {c : Prop} [Decidable c] {E1 E2 : Option τ} {F : τ → Prop} (h : dc_wp (if c then E1 else E2) F) : (c ∧ dc_wp E1 F) ∨ (¬ c ∧ dc_wp E2 F) := by
  by_cases hc : c
  · rw [if_pos hc] at h; exact .inl ⟨hc, h⟩
  · rw [if_neg hc] at h; exact .inr ⟨hc, h⟩
theorem dc_swc {x c : Int32} {n : Int} (h : ¬ x = c) (hc : c.toInt = n) : x.toInt ≠ n := fun e => h (Int32.toInt_inj.mp (e.trans hc.symm))
section DC2
variable {X : dc_X} {l : Launch} {R : Room} {D : va_G} {tys : List (ClassId × FieldType)} {ad : Nat → Nat} {de : Nat} {cc : ByteArray} {nL k n pc : Nat} {own : String} {ws : va_W} {lv : List (Nat × Value)} {st : List Value}
theorem dc_letI {τ : Type} {e : Int32} {f : Int32 → Option τ} {F : τ → Prop} (h : dc_wp (dc_let e f) F) (kk : ∀ x, dc_wp (f x) F → dc_G X l R D nL k n ws pc lv (.int x :: st)) : dc_G X l R D nL k n ws pc lv (.int e :: st) := kk e h
theorem dc_letL {τ : Type} {e : Int64} {f : Int64 → Option τ} {F : τ → Prop} (h : dc_wp (dc_let e f) F) (kk : ∀ x, dc_wp (f x) F → dc_G X l R D nL k n ws pc lv (.long x :: st)) : dc_G X l R D nL k n ws pc lv (.long e :: st) := kk e h
theorem dc_letS {o : Nat} {a : Nat → Nat} {ca : Nat → ClassId} {τ : Type} {e : md_S} {f : md_S → Option τ} {F : τ → Prop} (h : dc_wp (dc_let e f) F) (kk : ∀ S, dc_wp (f S) F → dc_G X l R D nL k n (md_W o a ca S) pc lv st) : dc_G X l R D nL k n (md_W o a ca e) pc lv st := kk e h
theorem dc_lcmp (hC : dc_K X D tys ad de cc nL own) {x y : Int64} (d : decode cc pc = .ok (.lcmp, 1)) (kk : dc_G X l R D nL k n ws (pc + 1) lv (.int (dc_cmp x y) :: st)) : dc_G X l R D nL k n ws pc lv (.long y :: .long x :: st) := by
  obtain ⟨p, e, s, m, args, below, meth, c, Q, A⟩ := X
  obtain ⟨hx, hb, hml, hown, hts, hK, hE, hA⟩ := hC
  have e1 : lg_cmp x y = dc_cmp x y := by
    unfold dc_cmp lg_cmp
    by_cases h1 : x = y
    · subst h1; simp [Int64.lt_irrefl]
    · by_cases h2 : x < y
      · simp [h1, h2, Int64.lt_asymm h2]
      · have h3 : y < x := by
          rcases Int64.lt_or_eq_of_le (Int64.not_lt.mp h2) with h | h
          · exact h
          · exact absurd h.symm h1
        simp [h1, h2, h3]
  exact fun H locs ls hP hD hS hl => W.lcmp hx hb d (by rw [e1]; exact kk H locs ls hP hD hS hl)
theorem dc_tabIn (hC : dc_K X D tys ad de cc nL own) {dflt lo hi : Int} {offs : Array Int} {len : Nat} {x : Int32} {off : Int} {tgt : Nat} (d : decode cc pc = .ok (.tableswitch dflt lo hi offs, len)) (h1 : ¬ x.toInt < lo) (h2 : ¬ hi < x.toInt) (ho : offs[(x.toInt - lo).toNat]? = some off) (ht : (pc : Int) + off = (tgt : Int)) (kk : dc_G X l R D nL k n ws tgt lv st) : dc_G X l R D nL k n ws pc lv (.int x :: st) := by
  obtain ⟨p, e, s, m, args, below, meth, c, Q, A⟩ := X
  obtain ⟨hx, hb, hml, hown, hts, hK, hE, hA⟩ := hC
  exact fun H locs ls hP hD hS hl => lv_tableIn hx hb d h1 h2 ho ht (kk H locs ls hP hD hS hl)
theorem dc_tabOut (hC : dc_K X D tys ad de cc nL own) {dflt lo hi : Int} {offs : Array Int} {len : Nat} {x : Int32} {tgt : Nat} (d : decode cc pc = .ok (.tableswitch dflt lo hi offs, len)) (h1 : x.toInt < lo ∨ hi < x.toInt) (ht : (pc : Int) + dflt = (tgt : Int)) (kk : dc_G X l R D nL k n ws tgt lv st) : dc_G X l R D nL k n ws pc lv (.int x :: st) := by
  obtain ⟨p, e, s, m, args, below, meth, c, Q, A⟩ := X
  obtain ⟨hx, hb, hml, hown, hts, hK, hE, hA⟩ := hC
  exact fun H locs ls hP hD hS hl => lv_tableOut hx hb d h1 ht (kk H locs ls hP hD hS hl)
def dc_max (x y : Int32) : Int32 := if x < y then y else x
theorem dc_mmax (hC : dc_K X D tys ad de cc nL own) {index : Nat} (w1 : Cond.methodLink own index Lib.Math.max.name ∈ tt) (w2 : Cond.static Lib.Math.max.name ∈ tt) (w3 : Cond.initialized "java/lang/Math" ∈ tt) (w4 : Cond.code Lib.Math.max.name Lib.Math.max.code 2 (some .int) ∈ tt) {x y : Int32} (hR : 1 ≤ R.frames ∧ (st.map fun v => v.category).sum + 13 ≤ R.locals) (hf : k ≤ R.cells ∧ n ≤ R.slots) (d : decode cc pc = .ok (.invokestatic index, 3)) (kk : dc_G X l R D nL k n ws (pc + 3) lv (.int (dc_max x y) :: st)) : dc_G X l R D nL k n ws pc lv (.int y :: .int x :: st) := by
  obtain ⟨p, e, s, m, args, below, meth, c, Q, A⟩ := X
  obtain ⟨hx, hb, hml, hown, hts, hK, hE, hA⟩ := hC
  exact fun H locs ls hP hD hS hl => va_mmax hx hb (hml.trans hl.1.symm) hown (hts _ w1) (hts _ w2) (hts _ w3) (hts _ w4) hR.1 hR.2 hf.1 hf.2 d (kk H locs ls hP hD hS hl)
end DC2
theorem mc_Vmi {X : dc_X} {l : Launch} {fr' lo' : Nat} {D : va_G} {ad : Nat → Nat} {de : Nat} {cc : ByteArray} {nL pc : Nat} {lv : List (Nat × Value)} {y : MethodName} {bytes : ByteArray} {maxL : Nat} {ret : Option FieldType} {fr lo index : Nat} {As rest st0 : List Value} {ρ : Type} {F : ρ → Prop} {o : Nat} {a : Nat → Nat} {ca : Nat → ClassId} {S : md_S} {E : Option (md_S × Int32)} {f : (md_S × Int32) → Option ρ} (hC : dc_K X D (md_T ca) ad de cc nL "SignalEngineModel") (hw : dc_VW "SignalEngineModel" index y bytes maxL ret As.length) (hM : ∀ F : (md_S × Int32) → Prop, dc_wp E F → dc_Ci l y bytes maxL ret fr lo D (md_T ca) ad de (.ref o :: As) (md_W o a ca S) (fun r w => ∃ q, F q ∧ r = q.2 ∧ w = md_W o a ca q.1) 0 0) (hf : fr + 1 ≤ fr') (hl : 19 + maxL + lo ≤ lo') (hstack : st0 = As.reverse ++ .ref o :: rest) (hW : (rest.map fun v => v.category).sum ≤ 8) (hd : decode cc pc = .ok (.invokevirtual index, 3)) (h0 : dc_wp (E.bind f) F) (kk : ∀ q, dc_wp (f q) F → dc_G X l { frames := fr', cells := 0, slots := 0, locals := lo' } D nL 0 0 (md_W o a ca q.1) (pc + 3) lv (.int q.2 :: rest)) (hcls : "SignalEngineModel" = y.cls := by rfl) : dc_G X l { frames := fr', cells := 0, slots := 0, locals := lo' } D nL 0 0 (md_W o a ca S) pc lv st0 := by
  refine dc_callVi (mc := 0) (ms := 0) hC hw (hM _ (dc_bind h0)) ⟨hf, ?_⟩ ⟨0, 1, _, _, rfl, rfl, hcls⟩ hstack hW hd ⟨Nat.le_refl _, Nat.le_refl _⟩ ?_
  · show 8 + (maxL + 11) + lo ≤ lo'
    omega
  · rintro _ _ ⟨q, hq, rfl, rfl⟩
    exact kk _ hq
theorem mc_Vpi {X : dc_X} {l : Launch} {fr' lo' : Nat} {D : va_G} {ad : Nat → Nat} {de : Nat} {cc : ByteArray} {nL pc : Nat} {lv : List (Nat × Value)} {y : MethodName} {bytes : ByteArray} {maxL : Nat} {ret : Option FieldType} {fr lo index : Nat} {As rest st0 : List Value} {ρ : Type} {F : ρ → Prop} {o : Nat} {a : Nat → Nat} {ca : Nat → ClassId} {S : md_S} {E : Option (Int32)} {f : Int32 → Option ρ} (hC : dc_K X D (md_T ca) ad de cc nL "SignalEngineModel") (hw : dc_VW "SignalEngineModel" index y bytes maxL ret As.length) (hM : ∀ F : Int32 → Prop, dc_wp E F → dc_Ci l y bytes maxL ret fr lo D (md_T ca) ad de (.ref o :: As) (md_W o a ca S) (fun r w => ∃ q, F q ∧ r = q ∧ w = md_W o a ca S) 0 0) (hf : fr + 1 ≤ fr') (hl : 19 + maxL + lo ≤ lo') (hstack : st0 = As.reverse ++ .ref o :: rest) (hW : (rest.map fun v => v.category).sum ≤ 8) (hd : decode cc pc = .ok (.invokevirtual index, 3)) (h0 : dc_wp (E.bind f) F) (kk : ∀ q, dc_wp (f q) F → dc_G X l { frames := fr', cells := 0, slots := 0, locals := lo' } D nL 0 0 (md_W o a ca S) (pc + 3) lv (.int q :: rest)) (hcls : "SignalEngineModel" = y.cls := by rfl) : dc_G X l { frames := fr', cells := 0, slots := 0, locals := lo' } D nL 0 0 (md_W o a ca S) pc lv st0 := by
  refine dc_callVi (mc := 0) (ms := 0) hC hw (hM _ (dc_bind h0)) ⟨hf, ?_⟩ ⟨0, 1, _, _, rfl, rfl, hcls⟩ hstack hW hd ⟨Nat.le_refl _, Nat.le_refl _⟩ ?_
  · show 8 + (maxL + 11) + lo ≤ lo'
    omega
  · rintro _ _ ⟨q, hq, rfl, rfl⟩
    exact kk _ hq
theorem mc_Vml {X : dc_X} {l : Launch} {fr' lo' : Nat} {D : va_G} {ad : Nat → Nat} {de : Nat} {cc : ByteArray} {nL pc : Nat} {lv : List (Nat × Value)} {y : MethodName} {bytes : ByteArray} {maxL : Nat} {ret : Option FieldType} {fr lo index : Nat} {As rest st0 : List Value} {ρ : Type} {F : ρ → Prop} {o : Nat} {a : Nat → Nat} {ca : Nat → ClassId} {S : md_S} {E : Option (md_S × Int64)} {f : (md_S × Int64) → Option ρ} (hC : dc_K X D (md_T ca) ad de cc nL "SignalEngineModel") (hw : dc_VW "SignalEngineModel" index y bytes maxL ret As.length) (hM : ∀ F : (md_S × Int64) → Prop, dc_wp E F → dc_Cl l y bytes maxL ret fr lo D (md_T ca) ad de (.ref o :: As) (md_W o a ca S) (fun r w => ∃ q, F q ∧ r = q.2 ∧ w = md_W o a ca q.1) 0 0) (hf : fr + 1 ≤ fr') (hl : 19 + maxL + lo ≤ lo') (hstack : st0 = As.reverse ++ .ref o :: rest) (hW : (rest.map fun v => v.category).sum ≤ 8) (hd : decode cc pc = .ok (.invokevirtual index, 3)) (h0 : dc_wp (E.bind f) F) (kk : ∀ q, dc_wp (f q) F → dc_G X l { frames := fr', cells := 0, slots := 0, locals := lo' } D nL 0 0 (md_W o a ca q.1) (pc + 3) lv (.long q.2 :: rest)) (hcls : "SignalEngineModel" = y.cls := by rfl) : dc_G X l { frames := fr', cells := 0, slots := 0, locals := lo' } D nL 0 0 (md_W o a ca S) pc lv st0 := by
  refine dc_callVl (mc := 0) (ms := 0) hC hw (hM _ (dc_bind h0)) ⟨hf, ?_⟩ ⟨0, 1, _, _, rfl, rfl, hcls⟩ hstack hW hd ⟨Nat.le_refl _, Nat.le_refl _⟩ ?_
  · show 8 + (maxL + 11) + lo ≤ lo'
    omega
  · rintro _ _ ⟨q, hq, rfl, rfl⟩
    exact kk _ hq
theorem mc_Vpl {X : dc_X} {l : Launch} {fr' lo' : Nat} {D : va_G} {ad : Nat → Nat} {de : Nat} {cc : ByteArray} {nL pc : Nat} {lv : List (Nat × Value)} {y : MethodName} {bytes : ByteArray} {maxL : Nat} {ret : Option FieldType} {fr lo index : Nat} {As rest st0 : List Value} {ρ : Type} {F : ρ → Prop} {o : Nat} {a : Nat → Nat} {ca : Nat → ClassId} {S : md_S} {E : Option (Int64)} {f : Int64 → Option ρ} (hC : dc_K X D (md_T ca) ad de cc nL "SignalEngineModel") (hw : dc_VW "SignalEngineModel" index y bytes maxL ret As.length) (hM : ∀ F : Int64 → Prop, dc_wp E F → dc_Cl l y bytes maxL ret fr lo D (md_T ca) ad de (.ref o :: As) (md_W o a ca S) (fun r w => ∃ q, F q ∧ r = q ∧ w = md_W o a ca S) 0 0) (hf : fr + 1 ≤ fr') (hl : 19 + maxL + lo ≤ lo') (hstack : st0 = As.reverse ++ .ref o :: rest) (hW : (rest.map fun v => v.category).sum ≤ 8) (hd : decode cc pc = .ok (.invokevirtual index, 3)) (h0 : dc_wp (E.bind f) F) (kk : ∀ q, dc_wp (f q) F → dc_G X l { frames := fr', cells := 0, slots := 0, locals := lo' } D nL 0 0 (md_W o a ca S) (pc + 3) lv (.long q :: rest)) (hcls : "SignalEngineModel" = y.cls := by rfl) : dc_G X l { frames := fr', cells := 0, slots := 0, locals := lo' } D nL 0 0 (md_W o a ca S) pc lv st0 := by
  refine dc_callVl (mc := 0) (ms := 0) hC hw (hM _ (dc_bind h0)) ⟨hf, ?_⟩ ⟨0, 1, _, _, rfl, rfl, hcls⟩ hstack hW hd ⟨Nat.le_refl _, Nat.le_refl _⟩ ?_
  · show 8 + (maxL + 11) + lo ≤ lo'
    omega
  · rintro _ _ ⟨q, hq, rfl, rfl⟩
    exact kk _ hq
theorem mc_Vmv {X : dc_X} {l : Launch} {fr' lo' : Nat} {D : va_G} {ad : Nat → Nat} {de : Nat} {cc : ByteArray} {nL pc : Nat} {lv : List (Nat × Value)} {y : MethodName} {bytes : ByteArray} {maxL : Nat} {ret : Option FieldType} {fr lo index : Nat} {As rest st0 : List Value} {ρ : Type} {F : ρ → Prop} {o : Nat} {a : Nat → Nat} {ca : Nat → ClassId} {S : md_S} {E : Option (md_S)} {f : md_S → Option ρ} (hC : dc_K X D (md_T ca) ad de cc nL "SignalEngineModel") (hw : dc_VW "SignalEngineModel" index y bytes maxL ret As.length) (hM : ∀ F : md_S → Prop, dc_wp E F → dc_Cv l y bytes maxL ret fr lo D (md_T ca) ad de (.ref o :: As) (md_W o a ca S) (fun w => ∃ q, F q ∧ w = md_W o a ca q) 0 0) (hf : fr + 1 ≤ fr') (hl : 19 + maxL + lo ≤ lo') (hstack : st0 = As.reverse ++ .ref o :: rest) (hW : (rest.map fun v => v.category).sum ≤ 8) (hd : decode cc pc = .ok (.invokevirtual index, 3)) (h0 : dc_wp (E.bind f) F) (kk : ∀ q, dc_wp (f q) F → dc_G X l { frames := fr', cells := 0, slots := 0, locals := lo' } D nL 0 0 (md_W o a ca q) (pc + 3) lv rest) (hcls : "SignalEngineModel" = y.cls := by rfl) : dc_G X l { frames := fr', cells := 0, slots := 0, locals := lo' } D nL 0 0 (md_W o a ca S) pc lv st0 := by
  refine dc_callVv (mc := 0) (ms := 0) hC hw (hM _ (dc_bind h0)) ⟨hf, ?_⟩ ⟨0, 1, _, _, rfl, rfl, hcls⟩ hstack hW hd ⟨Nat.le_refl _, Nat.le_refl _⟩ ?_
  · show 8 + (maxL + 11) + lo ≤ lo'
    omega
  · rintro _ ⟨q, hq, rfl⟩
    exact kk _ hq
theorem mc_Spi {X : dc_X} {l : Launch} {fr' lo' : Nat} {D : va_G} {ad : Nat → Nat} {de : Nat} {cc : ByteArray} {nL pc : Nat} {lv : List (Nat × Value)} {y : MethodName} {bytes : ByteArray} {maxL : Nat} {ret : Option FieldType} {fr lo index : Nat} {As rest st0 : List Value} {ρ : Type} {F : ρ → Prop} {tys : List (ClassId × FieldType)} {own : String} {ws : va_W} {E : Option Int32} {f : Int32 → Option ρ} (hC : dc_K X D tys ad de cc nL own) (hw : dc_SW own index y bytes maxL ret As.length) (hM : ∀ F : Int32 → Prop, dc_wp E F → dc_Ci l y bytes maxL ret fr lo D tys ad de As ws (fun r w => ∃ q, F q ∧ r = q ∧ w = ws) 0 0) (hf : fr + 1 ≤ fr') (hl : 19 + maxL + lo ≤ lo') (hstack : st0 = As.reverse ++ rest) (hW : (rest.map fun v => v.category).sum ≤ 8) (hd : decode cc pc = .ok (.invokestatic index, 3)) (h0 : dc_wp (E.bind f) F) (kk : ∀ q, dc_wp (f q) F → dc_G X l { frames := fr', cells := 0, slots := 0, locals := lo' } D nL 0 0 ws (pc + 3) lv (.int q :: rest)) : dc_G X l { frames := fr', cells := 0, slots := 0, locals := lo' } D nL 0 0 ws pc lv st0 := by
  refine dc_callSi (mc := 0) (ms := 0) hC hw (hM _ (dc_bind h0)) ⟨hf, ?_⟩ hstack hW hd ⟨Nat.le_refl _, Nat.le_refl _⟩ ?_
  · show 8 + (maxL + 11) + lo ≤ lo'
    omega
  · rintro _ _ ⟨q, hq, rfl, rfl⟩
    exact kk _ hq
theorem mc_Spl {X : dc_X} {l : Launch} {fr' lo' : Nat} {D : va_G} {ad : Nat → Nat} {de : Nat} {cc : ByteArray} {nL pc : Nat} {lv : List (Nat × Value)} {y : MethodName} {bytes : ByteArray} {maxL : Nat} {ret : Option FieldType} {fr lo index : Nat} {As rest st0 : List Value} {ρ : Type} {F : ρ → Prop} {tys : List (ClassId × FieldType)} {own : String} {ws : va_W} {E : Option Int64} {f : Int64 → Option ρ} (hC : dc_K X D tys ad de cc nL own) (hw : dc_SW own index y bytes maxL ret As.length) (hM : ∀ F : Int64 → Prop, dc_wp E F → dc_Cl l y bytes maxL ret fr lo D tys ad de As ws (fun r w => ∃ q, F q ∧ r = q ∧ w = ws) 0 0) (hf : fr + 1 ≤ fr') (hl : 19 + maxL + lo ≤ lo') (hstack : st0 = As.reverse ++ rest) (hW : (rest.map fun v => v.category).sum ≤ 8) (hd : decode cc pc = .ok (.invokestatic index, 3)) (h0 : dc_wp (E.bind f) F) (kk : ∀ q, dc_wp (f q) F → dc_G X l { frames := fr', cells := 0, slots := 0, locals := lo' } D nL 0 0 ws (pc + 3) lv (.long q :: rest)) : dc_G X l { frames := fr', cells := 0, slots := 0, locals := lo' } D nL 0 0 ws pc lv st0 := by
  refine dc_callSl (mc := 0) (ms := 0) hC hw (hM _ (dc_bind h0)) ⟨hf, ?_⟩ hstack hW hd ⟨Nat.le_refl _, Nat.le_refl _⟩ ?_
  · show 8 + (maxL + 11) + lo ≤ lo'
    omega
  · rintro _ _ ⟨q, hq, rfl, rfl⟩
    exact kk _ hq
