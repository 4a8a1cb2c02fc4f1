/-! the heap's own rows: fields, new objects, arrays -/
def hg_at (ws : va_W) (a : Nat) : Option va_E := (ws.find? (fun q => q.1 == a)).map (·.2)
theorem hg_at_k {ws : va_W} {a : Nat} {e : va_E} (h : hg_at ws a = some e) : ∃ k : Nat, ws[k]? = some (a, e) := by
  unfold hg_at at h
  obtain ⟨q, hq, rfl⟩ := Option.map_eq_some_iff.mp h
  have h1 : (q.1 == a) = true := by simpa using List.find?_some hq
  obtain ⟨k, hk⟩ := List.mem_iff_getElem?.mp (List.mem_of_find?_eq_some hq)
  have h2 : q.1 = a := by simpa using h1
  refine ⟨k, ?_⟩
  rw [hk, ← h2]
def hg_upd (ws : va_W) (a : Nat) (e : va_E) : va_W := ws.map (fun q => if q.1 = a then (a, e) else q)
theorem hg_upd_set {A : Nat → Prop} {ws : va_W} {a k : Nat} {e0 e : va_E} (hD : va_D A ws) (hk : ws[k]? = some (a, e0)) : ws.set k (a, e) = hg_upd ws a e := by
  apply List.ext_getElem?
  intro i
  have hl : k < ws.length := (List.getElem?_eq_some_iff.mp hk).1
  unfold hg_upd
  rw [List.getElem?_map]
  by_cases hi : k = i
  · subst hi
    rw [List.getElem?_set_self hl, hk]
    simp
  · rw [List.getElem?_set_ne hi]
    cases hq : ws[i]? with
    | none => rfl
    | some q =>
      have h1 : q.1 ≠ a := fun h2 => hi (hD.1 k i _ _ hk hq h2.symm)
      simp [h1]
def hg_fld (S : hg_S) (r : Option Nat) (ci k : Nat) : Option Value :=
  match r with
  | none => none
  | some a => match hg_at S.1 a with
    | some (.inr (c, fs)) => if c = ci then fs[k]? else none
    | _ => none
def hg_gi (S : hg_S) (r : Option Nat) (ci k : Nat) : Option Int32 := match hg_fld S r ci k with
  | some (.int x) => some x
  | _ => none
def hg_gr (S : hg_S) (r : Option Nat) (ci k : Nat) : Option (Option Nat) := match hg_fld S r ci k with
  | some (.ref x) => some (some x)
  | some .null => some none
  | _ => none
def hg_pf (S : hg_S) (r : Option Nat) (ci k : Nat) (v : Value) : Option hg_S :=
  match r with
  | none => none
  | some a => match hg_at S.1 a with
    | some (.inr (c, fs)) => if c = ci ∧ k < fs.length then some (hg_upd S.1 a (.inr (ci, fs.set k v)), S.2) else none
    | _ => none
theorem hg_fld_of {S : hg_S} {r : Option Nat} {ci k : Nat} {v : Value} (h : hg_fld S r ci k = some v) : ∃ (a q0 : Nat) (fs : List Value), r = some a ∧ S.1[q0]? = some (a, .inr (ci, fs)) ∧ fs[k]? = some v := by
  unfold hg_fld at h
  cases r with
  | none => cases h
  | some a =>
    dsimp only at h
    cases he : hg_at S.1 a with
    | none => rw [he] at h; cases h
    | some e =>
      rw [he] at h
      rcases e with x | ⟨c, fs⟩
      · cases h
      · dsimp only at h
        by_cases hc : c = ci
        · subst hc
          rw [if_pos rfl] at h
          obtain ⟨q0, hq⟩ := hg_at_k he
          exact ⟨a, q0, fs, rfl, hq, h⟩
        · rw [if_neg hc] at h; cases h
theorem hg_gi_of {S : hg_S} {r : Option Nat} {ci k : Nat} {x : Int32} (h : hg_gi S r ci k = some x) : hg_fld S r ci k = some (.int x) := by
  unfold hg_gi at h
  split at h
  · next y hy => rw [hy]; cases h; rfl
  · cases h
theorem hg_gr_of {S : hg_S} {r : Option Nat} {ci k : Nat} {x : Option Nat} (h : hg_gr S r ci k = some x) : hg_fld S r ci k = some (va_rf x) := by
  unfold hg_gr at h
  split at h
  · next y hy => rw [hy]; cases h; rfl
  · next hy => rw [hy]; cases h; rfl
  · cases h
theorem hg_pf_of {S S1 : hg_S} {r : Option Nat} {ci k : Nat} {v : Value} (h : hg_pf S r ci k v = some S1) : ∃ (a q0 : Nat) (fs : List Value), r = some a ∧ S.1[q0]? = some (a, .inr (ci, fs)) ∧ k < fs.length ∧ S1 = (hg_upd S.1 a (.inr (ci, fs.set k v)), S.2) := by
  unfold hg_pf at h
  cases r with
  | none => cases h
  | some a =>
    dsimp only at h
    cases he : hg_at S.1 a with
    | none => rw [he] at h; cases h
    | some e =>
      rw [he] at h
      rcases e with x | ⟨c, fs⟩
      · cases h
      · dsimp only at h
        by_cases hc : c = ci ∧ k < fs.length
        · rw [if_pos hc] at h
          obtain ⟨rfl, hk⟩ := hc
          obtain ⟨q0, hq⟩ := hg_at_k he
          exact ⟨a, q0, fs, rfl, hq, hk, (Option.some.inj h).symm⟩
        · rw [if_neg hc] at h; cases h
/-- a field's link -/
def hg_FL (own : String) (index ci k : Nat) : Prop := ∃ (C : String) (T : u_T) (N : Nat), cl[ci]? = some (C, T, N) ∧ k < N ∧ (∀ w ∈ u_ws C T N, w ∈ tt) ∧ (Cond.fieldLink own index (T k).1 (T k).2.1 (T k).2.2.1 ∈ tt ∨ ∃ host, Cond.fieldLinkNest own index (T k).1 (T k).2.1 (T k).2.2.1 host ∈ nn)
def hg_FP (own : String) (index ci k : Nat) (fin : Bool) (ty : FieldType) : Prop := ∃ (C : String) (T : u_T) (N : Nat) (ty0 : Nat → FieldType), cl[ci]? = some (C, T, N) ∧ k < N ∧ (∀ w ∈ u_ws C T N, w ∈ tt) ∧ (∀ k, k < N → parseFieldDescriptor (T k).2.2.1 = some (ty0 k)) ∧ (∀ a, a < N → ∀ b, b < N → a ≠ b → (T a).2.1 ≠ (T b).2.1) ∧ (T k).2.2.2 = fin ∧ (fin = true → (T k).1 = own) ∧ parseFieldDescriptor (T k).2.2.1 = some ty ∧ (Cond.fieldLink own index (T k).1 (T k).2.1 (T k).2.2.1 ∈ tt ∨ (fin = false ∧ ∃ host, Cond.fieldLinkNest own index (T k).1 (T k).2.1 (T k).2.2.1 host ∈ nn))
theorem hg_nr {C : String} (r : Option Nat) : narrow (.object C) (va_rf r) = va_rf r ∧ fits (.object C) (va_rf r) = true := by cases r <;> exact ⟨rfl, rfl⟩
theorem hg_na {t : FieldType} (r : Option Nat) : narrow (.array t) (va_rf r) = va_rf r ∧ fits (.array t) (va_rf r) = true := by cases r <;> exact ⟨rfl, rfl⟩
def hg_new (S : hg_S) (ci N : Nat) (fs : List Value) : Option hg_S := if 1 ≤ S.2.2.1 ∧ N ≤ S.2.2.2 then some (S.1 ++ [(S.2.1, .inr (ci, fs))], S.2.1 + 1, S.2.2.1 - 1, S.2.2.2 - N) else none
def hg_NW (own : String) (index ci N : Nat) (fs : List Value) : Prop := ∃ (C : String) (T : u_T) (ty : Nat → FieldType), cl[ci]? = some (C, T, N) ∧ (∀ w ∈ u_ws C T N, w ∈ tt) ∧ (∀ k, k < N → parseFieldDescriptor (T k).2.2.1 = some (ty k)) ∧ Cond.classLink own index C ∈ tt ∧ Cond.instantiable C N ∈ tt ∧ Cond.initialized C ∈ tt ∧ ∀ j, j < N → defaultValue (ty j) = vp_V fs j
/-- arrays of small numbers -/
def hg_ia (S : hg_S) (r : Option Nat) (c : ClassId) : Option (Nat × Nat × (Nat → Int32)) :=
  match r with
  | none => none
  | some a => match hg_at S.1 a with
    | some (.inl (c', n, .inl f)) => if c' = c then some (a, n, f) else none
    | _ => none
theorem hg_ia_of {S : hg_S} {r : Option Nat} {c : ClassId} {q : Nat × Nat × (Nat → Int32)} (h : hg_ia S r c = some q) : r = some q.1 ∧ ∃ q0 : Nat, S.1[q0]? = some (q.1, .inl (c, q.2.1, .inl q.2.2)) := by
  unfold hg_ia at h
  cases r with
  | none => cases h
  | some a =>
    dsimp only at h
    cases he : hg_at S.1 a with
    | none => rw [he] at h; cases h
    | some e =>
      rw [he] at h
      rcases e with ⟨c', n, f⟩ | o
      · rcases f with f | f
        · dsimp only at h
          by_cases hc : c' = c
          · subst hc
            rw [if_pos rfl] at h
            obtain ⟨q0, hq⟩ := hg_at_k he
            cases h
            exact ⟨rfl, q0, hq⟩
          · rw [if_neg hc] at h; cases h
        · cases h
      · cases h
def hg_ld (S : hg_S) (r : Option Nat) (c : ClassId) (i : Int32) : Option Int32 := (hg_ia S r c).bind fun q => (dc_ix i q.2.1).bind fun j => some (q.2.2 j)
def hg_st (S : hg_S) (r : Option Nat) (c : ClassId) (i x : Int32) : Option hg_S := (hg_ia S r c).bind fun q => (dc_ix i q.2.1).bind fun j => some (hg_upd S.1 q.1 (.inl (c, q.2.1, .inl (upd q.2.2 j x))), S.2)
def hg_ln (S : hg_S) (r : Option Nat) (c : ClassId) : Option Int32 := (hg_ia S r c).bind fun q => some (Int32.ofNat q.2.1)
def hg_newa (G : hg_E) (S : hg_S) (t : Nat) (n : Int32) : Option hg_S := if ¬ n < 0 ∧ 1 ≤ S.2.2.1 ∧ n.toNatClampNeg ≤ S.2.2.2 ∧ n.toNatClampNeg * 4 ≤ 536870912 then some (S.1 ++ [(S.2.1, .inl (G.1 t, n.toNatClampNeg, .inl (fun _ => 0)))], S.2.1 + 1, S.2.2.1 - 1, S.2.2.2 - n.toNatClampNeg) else none
section HGH
variable {X : dc_X} {l : Launch} {R : Room} {D : va_G} {G : hg_E} {cc : ByteArray} {nL pc : Nat} {own : String} {S : hg_S} {lv : List (Nat × Value)} {st : List Value}
theorem hg_getv (hC : hg_K X D G cc nL own) {index ci k a q0 : Nat} {fs : List Value} {v : Value} (hf : hg_FL own index ci k) (he : S.1[q0]? = some (a, .inr (ci, fs))) (hv : fs[k]? = some v) (d : decode cc pc = .ok (.getfield index, 3)) (kk : hg_G X l R D nL S (pc + 3) lv (v :: st)) : hg_G X l R D nL S pc lv (.ref a :: st) := by
  obtain ⟨p, e, s, m, args, below, meth, c, Q, A⟩ := X
  obtain ⟨hx, hb, hml, hown, hts, hK, hE, hA⟩ := hC
  obtain ⟨C, T, N, hc, hk, hin, hlink⟩ := hf
  intro H locs ls hh hl
  rcases hlink with h1 | ⟨host, h1⟩
  · exact va_get (D := D) hx hb hts hin hown hK hh.1 q0 he hc k hk (hts _ h1) (fun _ h9 => h9) hv d (kk H locs ls hh hl)
  · exact va_getN (D := D) (host := host) hx hb hts hin hown hK hh.1 q0 he hc k hk (va_Nw.use rfl (hE.1.1 _ h1)) (fun _ h9 => h9) hv d (kk H locs ls hh hl)
theorem hg_rgi (hC : hg_K X D G cc nL own) {index ci k : Nat} (hf : hg_FL own index ci k) {τ : Type} {E : Int32 → Option τ} {F : τ → Prop} {r : Option Nat} (d : decode cc pc = .ok (.getfield index, 3)) (h : dc_wp ((hg_gi S r ci k).bind E) F) (kk : ∀ x, dc_wp (E x) F → hg_G X l R D nL S (pc + 3) lv (.int x :: st)) : hg_G X l R D nL S pc lv (va_rf r :: st) := by
  obtain ⟨x, h1, h2⟩ := dc_bind h
  obtain ⟨a, q0, fs, rfl, he, hv⟩ := hg_fld_of (hg_gi_of h1)
  exact hg_getv hC hf he hv d (kk x h2)
theorem hg_rgr (hC : hg_K X D G cc nL own) {index ci k : Nat} (hf : hg_FL own index ci k) {τ : Type} {E : Option Nat → Option τ} {F : τ → Prop} {r : Option Nat} (d : decode cc pc = .ok (.getfield index, 3)) (h : dc_wp ((hg_gr S r ci k).bind E) F) (kk : ∀ x, dc_wp (E x) F → hg_G X l R D nL S (pc + 3) lv (va_rf x :: st)) : hg_G X l R D nL S pc lv (va_rf r :: st) := by
  obtain ⟨x, h1, h2⟩ := dc_bind h
  obtain ⟨a, q0, fs, rfl, he, hv⟩ := hg_fld_of (hg_gr_of h1)
  exact hg_getv hC hf he hv d (kk x h2)
theorem hg_rput (hC : hg_K X D G cc nL own) {index ci k : Nat} {ty : FieldType} {v : Value} (hf : hg_FP own index ci k false ty) (hn : narrow ty v = v) (hfit : fits ty v = true) {τ : Type} {E : hg_S → Option τ} {F : τ → Prop} {r : Option Nat} (d : decode cc pc = .ok (.putfield index, 3)) (h : dc_wp ((hg_pf S r ci k v).bind E) F) (kk : ∀ S1, dc_wp (E S1) F → hg_G X l R D nL S1 (pc + 3) lv st) : hg_G X l R D nL S pc lv (v :: va_rf r :: st) := by
  obtain ⟨S1, h1, h2⟩ := dc_bind h
  obtain ⟨a, q0, fs, rfl, he, hlen, rfl⟩ := hg_pf_of h1
  have kk2 := kk _ h2
  obtain ⟨p, e, s, m, args, below, meth, c, Q, A⟩ := X
  obtain ⟨hx, hb, hml, hown, hts, hK, hE, hA⟩ := hC
  obtain ⟨C, T, N, ty0, hc, hk, hin, hty, hnm, hfin, -, hd, hlink⟩ := hf
  intro H locs ls hh hl
  rcases hlink with h1 | ⟨-, host, h1⟩
  · refine va_put (D := D) hx hb hts hin ty0 hty hnm hown hK hh.1 hh.2.1 (hg_same hh) q0 he hc k hk (hts _ h1) (fun _ h9 => h9) hfin hd hn hfit hlen d (fun H1 locs1 hP1 hD1 hS1 => ?_)
    rw [hg_upd_set hh.2.1 he] at hP1 hD1
    exact hg_back hh hP1 hD1 hS1 (fun h3 => kk2 H1 locs1 ls h3 hl)
  · refine va_putN (D := D) (host := host) hx hb hts hin ty0 hty hnm hown hK hh.1 hh.2.1 (hg_same hh) q0 he hc k hk (va_Nw.use rfl (hE.1.1 _ h1)) (fun _ h9 => h9) hfin hd hn hfit hlen d (fun H1 locs1 hP1 hD1 hS1 => ?_)
    rw [hg_upd_set hh.2.1 he] at hP1 hD1
    exact hg_back hh hP1 hD1 hS1 (fun h3 => kk2 H1 locs1 ls h3 hl)
theorem hg_rputF (hC : hg_K X D G cc nL own) {S0 : hg_S} {o : hg_O} {ret : Option FieldType} (hR : hg_R X R D G "<init>" ret S0 o) {index ci k : Nat} {ty : FieldType} {v : Value} (hf : hg_FP own index ci k true ty) (hn : narrow ty v = v) (hfit : fits ty v = true) {τ : Type} {E : hg_S → Option τ} {F : τ → Prop} {r : Option Nat} (d : decode cc pc = .ok (.putfield index, 3)) (h : dc_wp ((hg_pf S r ci k v).bind E) F) (kk : ∀ S1, dc_wp (E S1) F → hg_G X l R D nL S1 (pc + 3) lv st) : hg_G X l R D nL S pc lv (v :: va_rf r :: st) := by
  obtain ⟨S1, h1, h2⟩ := dc_bind h
  obtain ⟨a, q0, fs, rfl, he, hlen, rfl⟩ := hg_pf_of h1
  have kk2 := kk _ h2
  obtain ⟨p, e, s, m, args, below, meth, c, Q, A⟩ := X
  obtain ⟨hx, hb, hml, hown, hts, hK, hE, hA⟩ := hC
  obtain ⟨C, T, N, ty0, hc, hk, hin, hty, hnm, hfin, hdecl, hd, hlink⟩ := hf
  have hmn : meth.name = "<init>" := hR.1
  intro H locs ls hh hl
  rcases hlink with h1 | ⟨h1, -⟩
  · refine va_putF (D := D) hx hb hts hin ty0 hty hnm hown hK hh.1 hh.2.1 (hg_same hh) q0 he hc k hk (hts _ h1) (fun _ h9 => h9) hfin hmn (hdecl rfl) hd hn hfit hlen d (fun H1 locs1 hP1 hD1 hS1 => ?_)
    rw [hg_upd_set hh.2.1 he] at hP1 hD1
    exact hg_back hh hP1 hD1 hS1 (fun h3 => kk2 H1 locs1 ls h3 hl)
  · cases h1
theorem hg_rnew (hC : hg_K X D G cc nL own) {index ci N : Nat} {fs : List Value} (hf : hg_NW own index ci N fs) {τ : Type} {E : hg_S → Option τ} {F : τ → Prop} (d : decode cc pc = .ok (.new index, 3)) (h : dc_wp ((hg_new S ci N fs).bind E) F) (kk : ∀ S1, dc_wp (E S1) F → hg_G X l R D nL S1 (pc + 3) lv (va_rf (some S.2.1) :: st)) : hg_G X l R D nL S pc lv st := by
  obtain ⟨S1, h1, h2⟩ := dc_bind h
  unfold hg_new at h1
  by_cases hr : 1 ≤ S.2.2.1 ∧ N ≤ S.2.2.2
  · rw [if_pos hr] at h1
    have e1 := Option.some.inj h1
    subst e1
    have kk2 := kk _ h2
    obtain ⟨p, e, s, m, args, below, meth, c, Q, A⟩ := X
    obtain ⟨hx, hb, hml, hown, hts, hK, hE, hA⟩ := hC
    obtain ⟨C, T, ty, hc, hin, hty, w1, w2, w3, hfs⟩ := hf
    intro H locs ls hh hl
    obtain ⟨hP, hD, hS, hz, hcz, hle1, hle2⟩ := hh
    have hKn := hK.1 ci _ hc
    refine W.newcK hx hb hown (hts _ w1) (hts _ w2) (hts _ w3) rfl d (by omega) (by omega) hKn.2.1 hz fun H1 kC hkC e1 z1 o1 => ?_
    have ho : ∀ q : Nat, q < H.size → H1[q]? = H[q]? := fun q hq => o1 q (by rw [← hz]; exact hq)
    have hk : ∀ (k : Nat) (x : Nat × va_E), S.1[k]? = some x → H1[x.1]? = H[x.1]? := fun k x hx => ho x.1 ((hP k x hx).lt)
    have e2 : R.cells - S.2.2.1 + 1 = R.cells - (S.2.2.1 - 1) := by omega
    have e3 : R.slots - S.2.2.2 + N = R.slots - (S.2.2.2 - N) := by omega
    rw [e2, e3]
    refine kk2 H1 locs ls ⟨(hP.kept hk).app (fun k x hx => ?_), hD.push hP hz.symm (hA _ (by rw [← hz]; exact hS.1)), ⟨Nat.le_trans hS.1 (by omega), fun x h1 h2 => (ho x (Nat.lt_of_lt_of_le h1 hS.1)).trans (hS.2.1 x h1 h2), hS.2.2⟩, z1, ?_, ?_, ?_⟩ hl
    · have hz2 : k < 1 := (List.getElem?_eq_some_iff.mp hx).1
      rw [show k = 0 by omega] at hx
      cases hx
      exact ⟨_, hc, (u_born ty hts hin hKn hkC e1 hty).to hfs⟩
    · show S.2.1 + 1 + (S.2.2.1 - 1) = _; omega
    · show S.2.2.1 - 1 ≤ _; omega
    · show S.2.2.2 - N ≤ _; omega
  · rw [if_neg hr] at h1; cases h1
theorem hg_rnewa (hC : hg_K X D G cc nL own) {t : Nat} {atype : ArrayType} {ty : FieldType} (hty : newarray.typeOf atype = ty) (ht : (hg_T G.1)[t]? = some (G.1 t, ty)) (hra : ∀ s : State, va_RA s (G.1 t) ty → s.vm.findClass ("[" ++ ty.toString) = some (G.1 t)) (hdv : defaultValue ty = .int 0) (hby : componentBytes ty ≤ 4) (harr : Cond.arrayClass ty ∈ tt) {n : Int32} {τ : Type} {E : hg_S → Option τ} {F : τ → Prop} (d : decode cc pc = .ok (.newarray atype, 2)) (h : dc_wp ((hg_newa G S t n).bind E) F) (kk : ∀ S1, dc_wp (E S1) F → hg_G X l R D nL S1 (pc + 2) lv (va_rf (some S.2.1) :: st)) : hg_G X l R D nL S pc lv (.int n :: st) := by
  obtain ⟨S1, h1, h2⟩ := dc_bind h
  unfold hg_newa at h1
  by_cases hr : ¬ n < 0 ∧ 1 ≤ S.2.2.1 ∧ n.toNatClampNeg ≤ S.2.2.2 ∧ n.toNatClampNeg * 4 ≤ 536870912
  · rw [if_pos hr] at h1
    have e1 := Option.some.inj h1
    subst e1
    have kk2 := kk _ h2
    obtain ⟨p, e, s, m, args, below, meth, c, Q, A⟩ := X
    obtain ⟨hx, hb, hml, hown, hts, hK, hE, hA⟩ := hC
    subst hty
    intro H locs ls hh hl
    obtain ⟨hP, hD, hS, hz, hcz, hle1, hle2⟩ := hh
    have hmul : n.toNatClampNeg * componentBytes (newarray.typeOf atype) ≤ 536870912 := Nat.le_trans (Nat.mul_le_mul_left _ hby) hr.2.2.2
    refine va_newaK hx hb (hts _ harr) rfl d rfl hr.1 rfl hmul (by omega) (by omega) hz fun H1 cA e1 z1 o1 hAr hNm => ?_
    have hcA : cA = G.1 t := Option.some.inj (hNm.symm.trans (hra s (hK.2 t _ ht).2))
    subst hcA
    have ho : ∀ q : Nat, q < H.size → H1[q]? = H[q]? := fun q hq => o1 q (by rw [← hz]; exact hq)
    have hk : ∀ (k : Nat) (x : Nat × va_E), S.1[k]? = some x → H1[x.1]? = H[x.1]? := fun k x hx => ho x.1 ((hP k x hx).lt)
    have e2 : R.cells - S.2.2.1 + 1 = R.cells - (S.2.2.1 - 1) := by omega
    have e3 : R.slots - S.2.2.2 + n.toNatClampNeg = R.slots - (S.2.2.2 - n.toNatClampNeg) := by omega
    rw [e2, e3]
    refine kk2 H1 locs ls ⟨(hP.kept hk).app (fun k x hx => ?_), hD.push hP hz.symm (hA _ (by rw [← hz]; exact hS.1)), ⟨Nat.le_trans hS.1 (by omega), fun x h1 h2 => (ho x (Nat.lt_of_lt_of_le h1 hS.1)).trans (hS.2.1 x h1 h2), hS.2.2⟩, z1, ?_, ?_, ?_⟩ hl
    · have hz2 : k < 1 := (List.getElem?_eq_some_iff.mp hx).1
      rw [show k = 0 by omega] at hx
      cases hx
      show H1[S.2.1]? = some (vp_cell _ _)
      rw [e1, hdv]
      rfl
    · show S.2.1 + 1 + (S.2.2.1 - 1) = _; omega
    · show S.2.2.1 - 1 ≤ _; omega
    · show S.2.2.2 - n.toNatClampNeg ≤ _; omega
  · rw [if_neg hr] at h1; cases h1
theorem hg_rlen (hC : hg_K X D G cc nL own) {t : Nat} {ty : FieldType} (ht : (hg_T G.1)[t]? = some (G.1 t, ty)) {τ : Type} {E : Int32 → Option τ} {F : τ → Prop} {r : Option Nat} (d : decode cc pc = .ok (.arraylength, 1)) (h : dc_wp ((hg_ln S r (G.1 t)).bind E) F) (kk : ∀ x, dc_wp (E x) F → hg_G X l R D nL S (pc + 1) lv (.int x :: st)) : hg_G X l R D nL S pc lv (va_rf r :: st) := by
  obtain ⟨x, h1, h2⟩ := dc_bind h
  obtain ⟨q, h3, h4⟩ := dc_bind (F := fun v => v = x) ⟨x, h1, rfl⟩
  obtain ⟨rfl, q0, he⟩ := hg_ia_of h3
  have e0 := dc_some h4
  have e1 : Int32.ofNat q.2.1 = x := e0
  have kk2 := kk _ h2
  obtain ⟨p, e, s, m, args, below, meth, c, Q, A⟩ := X
  obtain ⟨hx, hb, hml, hown, hts, hK, hE, hA⟩ := hC
  exact fun H locs ls hh hl => va_alen (D := D) hx hb hK hh.1 q0 t he ht e1 d (kk2 H locs ls hh hl)
theorem hg_riald (hC : hg_K X D G cc nL own) {τ : Type} {E : Int32 → Option τ} {F : τ → Prop} {r : Option Nat} {i : Int32} (d : decode cc pc = .ok (.iaload, 1)) (h : dc_wp ((hg_ld S r (G.1 0) i).bind E) F) (kk : ∀ x, dc_wp (E x) F → hg_G X l R D nL S (pc + 1) lv (.int x :: st)) : hg_G X l R D nL S pc lv (.int i :: va_rf r :: st) := by
  obtain ⟨x, h1, h2⟩ := dc_bind h
  obtain ⟨q, h3, h4⟩ := dc_bind (F := fun v => v = x) ⟨x, h1, rfl⟩
  obtain ⟨rfl, q0, he⟩ := hg_ia_of h3
  obtain ⟨hin, h5⟩ := dc_ix_wp (dc_bind h4)
  have e0 := dc_some h5
  have e1 : q.2.2 i.toNatClampNeg = x := e0
  have kk2 := kk _ h2
  subst e1
  obtain ⟨p, e, s, m, args, below, meth, c, Q, A⟩ := X
  obtain ⟨hx, hb, hml, hown, hts, hK, hE, hA⟩ := hC
  exact fun H locs ls hh hl => va_iald (D := D) hx hb hK hh.1 q0 0 he rfl hin d (kk2 H locs ls hh hl)
theorem hg_riast (hC : hg_K X D G cc nL own) {τ : Type} {E : hg_S → Option τ} {F : τ → Prop} {r : Option Nat} {i x : Int32} (d : decode cc pc = .ok (.iastore, 1)) (h : dc_wp ((hg_st S r (G.1 0) i x).bind E) F) (kk : ∀ S1, dc_wp (E S1) F → hg_G X l R D nL S1 (pc + 1) lv st) : hg_G X l R D nL S pc lv (.int x :: .int i :: va_rf r :: st) := by
  obtain ⟨S1, h1, h2⟩ := dc_bind h
  obtain ⟨q, h3, h4⟩ := dc_bind (F := fun v => v = S1) ⟨S1, h1, rfl⟩
  obtain ⟨rfl, q0, he⟩ := hg_ia_of h3
  obtain ⟨hin, h5⟩ := dc_ix_wp (dc_bind h4)
  have e1 := dc_some h5
  subst e1
  have kk2 := kk _ h2
  obtain ⟨p, e, s, m, args, below, meth, c, Q, A⟩ := X
  obtain ⟨hx, hb, hml, hown, hts, hK, hE, hA⟩ := hC
  intro H locs ls hh hl
  refine va_iast (D := D) hx hb hK hh.1 hh.2.1 (hg_same hh) q0 0 he rfl hin d (fun H1 locs1 hP1 hD1 hS1 => ?_)
  rw [hg_upd_set hh.2.1 he] at hP1 hD1
  exact hg_back hh hP1 hD1 hS1 (fun h3 => kk2 H1 locs1 ls h3 hl)
theorem hg_rbald (hC : hg_K X D G cc nL own) {τ : Type} {E : Int32 → Option τ} {F : τ → Prop} {r : Option Nat} {i : Int32} (d : decode cc pc = .ok (.baload, 1)) (h : dc_wp ((hg_ld S r (G.1 1) i).bind E) F) (kk : ∀ x, dc_wp (E x) F → hg_G X l R D nL S (pc + 1) lv (.int x :: st)) : hg_G X l R D nL S pc lv (.int i :: va_rf r :: st) := by
  obtain ⟨x, h1, h2⟩ := dc_bind h
  obtain ⟨q, h3, h4⟩ := dc_bind (F := fun v => v = x) ⟨x, h1, rfl⟩
  obtain ⟨rfl, q0, he⟩ := hg_ia_of h3
  obtain ⟨hin, h5⟩ := dc_ix_wp (dc_bind h4)
  have e0 := dc_some h5
  have e1 : q.2.2 i.toNatClampNeg = x := e0
  have kk2 := kk _ h2
  subst e1
  obtain ⟨p, e, s, m, args, below, meth, c, Q, A⟩ := X
  obtain ⟨hx, hb, hml, hown, hts, hK, hE, hA⟩ := hC
  exact fun H locs ls hh hl => va_bald (D := D) hx hb hK hh.1 q0 1 he rfl hin d (kk2 H locs ls hh hl)
theorem hg_rbast (hC : hg_K X D G cc nL own) {τ : Type} {E : hg_S → Option τ} {F : τ → Prop} {r : Option Nat} {i x : Int32} (d : decode cc pc = .ok (.bastore, 1)) (h : dc_wp ((hg_st S r (G.1 1) i (vp_nar .byte x)).bind E) F) (kk : ∀ S1, dc_wp (E S1) F → hg_G X l R D nL S1 (pc + 1) lv st) : hg_G X l R D nL S pc lv (.int x :: .int i :: va_rf r :: st) := by
  obtain ⟨S1, h1, h2⟩ := dc_bind h
  obtain ⟨q, h3, h4⟩ := dc_bind (F := fun v => v = S1) ⟨S1, h1, rfl⟩
  obtain ⟨rfl, q0, he⟩ := hg_ia_of h3
  obtain ⟨hin, h5⟩ := dc_ix_wp (dc_bind h4)
  have e1 := dc_some h5
  subst e1
  have kk2 := kk _ h2
  obtain ⟨p, e, s, m, args, below, meth, c, Q, A⟩ := X
  obtain ⟨hx, hb, hml, hown, hts, hK, hE, hA⟩ := hC
  intro H locs ls hh hl
  refine va_bast (D := D) hx hb hK hh.1 hh.2.1 (hg_same hh) q0 1 he rfl hin d (fun H1 locs1 hP1 hD1 hS1 => ?_)
  rw [hg_upd_set hh.2.1 he] at hP1 hD1
  exact hg_back hh hP1 hD1 hS1 (fun h3 => kk2 H1 locs1 ls h3 hl)
theorem hg_rzald (hC : hg_K X D G cc nL own) {τ : Type} {E : Int32 → Option τ} {F : τ → Prop} {r : Option Nat} {i : Int32} (d : decode cc pc = .ok (.baload, 1)) (h : dc_wp ((hg_ld S r (G.1 2) i).bind E) F) (kk : ∀ x, dc_wp (E x) F → hg_G X l R D nL S (pc + 1) lv (.int x :: st)) : hg_G X l R D nL S pc lv (.int i :: va_rf r :: st) := by
  obtain ⟨x, h1, h2⟩ := dc_bind h
  obtain ⟨q, h3, h4⟩ := dc_bind (F := fun v => v = x) ⟨x, h1, rfl⟩
  obtain ⟨rfl, q0, he⟩ := hg_ia_of h3
  obtain ⟨hin, h5⟩ := dc_ix_wp (dc_bind h4)
  have e0 := dc_some h5
  have e1 : q.2.2 i.toNatClampNeg = x := e0
  have kk2 := kk _ h2
  subst e1
  obtain ⟨p, e, s, m, args, below, meth, c, Q, A⟩ := X
  obtain ⟨hx, hb, hml, hown, hts, hK, hE, hA⟩ := hC
  exact fun H locs ls hh hl => va_zald (D := D) hx hb hK hh.1 q0 2 he rfl hin d (kk2 H locs ls hh hl)
theorem hg_rzast (hC : hg_K X D G cc nL own) {τ : Type} {E : hg_S → Option τ} {F : τ → Prop} {r : Option Nat} {i x : Int32} (hz : x = 0 ∨ x = 1) (d : decode cc pc = .ok (.bastore, 1)) (h : dc_wp ((hg_st S r (G.1 2) i x).bind E) F) (kk : ∀ S1, dc_wp (E S1) F → hg_G X l R D nL S1 (pc + 1) lv st) : hg_G X l R D nL S pc lv (.int x :: .int i :: va_rf r :: st) := by
  obtain ⟨S1, h1, h2⟩ := dc_bind h
  obtain ⟨q, h3, h4⟩ := dc_bind (F := fun v => v = S1) ⟨S1, h1, rfl⟩
  obtain ⟨rfl, q0, he⟩ := hg_ia_of h3
  obtain ⟨hin, h5⟩ := dc_ix_wp (dc_bind h4)
  have e1 := dc_some h5
  subst e1
  have kk2 := kk _ h2
  obtain ⟨p, e, s, m, args, below, meth, c, Q, A⟩ := X
  obtain ⟨hx, hb, hml, hown, hts, hK, hE, hA⟩ := hC
  intro H locs ls hh hl
  refine va_zast (D := D) hx hb hK hh.1 hh.2.1 (hg_same hh) q0 2 he rfl hin d (fun H1 locs1 hP1 hD1 hS1 => ?_)
  rw [(dc_nar hz).1] at hP1 hD1
  rw [hg_upd_set hh.2.1 he] at hP1 hD1
  exact hg_back hh hP1 hD1 hS1 (fun h3 => kk2 H1 locs1 ls h3 hl)
end HGH
