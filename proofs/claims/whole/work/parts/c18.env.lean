/-! rows for constants (Token's, texts), inherited members, arrays of references, clone, casts -/
def hg_tk (G : hg_E) (r : Option Nat) : Option Nat := (List.range 33).find? (fun j => decide (r = some (G.2.1 j)))
theorem hg_tk_of {G : hg_E} {r : Option Nat} {j : Nat} (h : hg_tk G r = some j) : j < 33 ∧ r = some (G.2.1 j) := by
  have h1 := List.find?_some h
  have h2 := List.mem_of_find?_eq_some h
  exact ⟨List.mem_range.mp h2, of_decide_eq_true h1⟩
/-- which text stands at an address; which byte array of a text -/
def hg_sk (G : hg_E) (k : Nat) (r : Option Nat) : Option Nat := (List.range 33).find? (fun j => decide (r = some (G.2.2.2 (k + j))))
theorem hg_sk_of {G : hg_E} {k : Nat} {r : Option Nat} {j : Nat} (h : hg_sk G k r = some j) : j < 33 ∧ r = some (G.2.2.2 (k + j)) := by
  have h1 := List.find?_some h
  have h2 := List.mem_of_find?_eq_some h
  exact ⟨List.mem_range.mp h2, of_decide_eq_true h1⟩
/-- arrays of references -/
def hg_oa (S : hg_S) (r : Option Nat) (c : ClassId) : Option (Nat × Nat × (Nat → Option Nat)) :=
  match r with
  | none => none
  | some a => match hg_at S.1 a with
    | some (.inl (c', n, .inr (.inr (.inr (.inr f))))) => if c' = c then some (a, n, f) else none
    | _ => none
theorem hg_oa_of {S : hg_S} {r : Option Nat} {c : ClassId} {q : Nat × Nat × (Nat → Option Nat)} (h : hg_oa S r c = some q) : r = some q.1 ∧ ∃ q0 : Nat, S.1[q0]? = some (q.1, .inl (c, q.2.1, .inr (.inr (.inr (.inr q.2.2))))) := by
  unfold hg_oa at h
  cases r with
  | none => cases h
  | some a =>
    dsimp only at h
    cases he : hg_at S.1 a with
    | none => rw [he] at h; cases h
    | some e =>
      rw [he] at h
      rcases e with ⟨c', n, f⟩ | o
      · rcases f with f | f | f | f | f
        · cases h
        · cases h
        · cases h
        · cases h
        · dsimp only at h
          by_cases hc : c' = c
          · subst hc
            rw [if_pos rfl] at h
            obtain ⟨q0, hq⟩ := hg_at_k he
            cases h
            exact ⟨rfl, q0, hq⟩
          · rw [if_neg hc] at h; cases h
      · cases h
/-- the length of a list's array: of ours, or of the empty one that all new lists have -/
def hg_oln (G : hg_E) (S : hg_S) (r : Option Nat) : Option Int32 := if r = some G.2.2.1 then some 0 else (hg_oa S r (G.1 3)).bind fun q => some (Int32.ofNat q.2.1)
def hg_old (G : hg_E) (S : hg_S) (r : Option Nat) (i : Int32) : Option (Option Nat) := (hg_oa S r (G.1 3)).bind fun q => (dc_ix i q.2.1).bind fun j => some (q.2.2 j)
/-- only objects of ours, of one class, are stored -/
def hg_ost (G : hg_E) (S : hg_S) (r : Option Nat) (i : Int32) (v : Option Nat) (ci : Nat) : Option hg_S := (hg_oa S r (G.1 3)).bind fun q => (dc_ix i q.2.1).bind fun j => (hg_chk S v ci).bind fun b => some (hg_upd S.1 q.1 (.inl (G.1 3, q.2.1, .inr (.inr (.inr (.inr (va_up q.2.2 j (some b))))))), S.2)
def hg_newo (G : hg_E) (S : hg_S) (n : Int32) : Option hg_S := if ¬ n < 0 ∧ 1 ≤ S.2.2.1 ∧ n.toNatClampNeg ≤ S.2.2.2 ∧ n.toNatClampNeg * 4 ≤ 536870912 then some (S.1 ++ [(S.2.1, .inl (G.1 3, n.toNatClampNeg, .inr (.inr (.inr (.inr (fun _ => none))))))], S.2.1 + 1, S.2.2.1 - 1, S.2.2.2 - n.toNatClampNeg) else none
def hg_ocpy (G : hg_E) (S : hg_S) (ci : Nat) (r0 : Option Nat) (sp : Int32) (r1 : Option Nat) (dp n : Int32) : Option hg_S := (hg_oa S r0 (G.1 3)).bind fun f => (hg_oa S r1 (G.1 3)).bind fun g =>
  if ¬ sp < 0 ∧ ¬ dp < 0 ∧ ¬ n < 0 ∧ sp.toNatClampNeg + n.toNatClampNeg ≤ f.2.1 ∧ dp.toNatClampNeg + n.toNatClampNeg ≤ g.2.1 ∧ (∀ i, i < n.toNatClampNeg → (hg_chk S (f.2.2 (sp.toNatClampNeg + i)) ci).isSome = true) then some (hg_upd S.1 g.1 (.inl (G.1 3, g.2.1, .inr (.inr (.inr (.inr (va_cpy f.2.2 g.2.2 sp.toNatClampNeg dp.toNatClampNeg n.toNatClampNeg)))))), S.2) else none
/-- a clone of an array of small numbers -/
def hg_cln (G : hg_E) (S : hg_S) (t : Nat) (ty : FieldType) (r : Option Nat) : Option hg_S := (hg_ia S r (G.1 t)).bind fun q =>
  if 1 ≤ S.2.2.1 ∧ q.2.1 ≤ S.2.2.2 ∧ (∀ i, i < q.2.1 → fits ty (.int (q.2.2 i)) = true) then some (S.1 ++ [(S.2.1, .inl (G.1 t, q.2.1, .inl q.2.2))], S.2.1 + 1, S.2.2.1 - 1, S.2.2.2 - q.2.1) else none
section HGE
variable {X : dc_X} {l : Launch} {R : Room} {D : va_G} {G : hg_E} {cc bytes : ByteArray} {nL pc index maxL fr lo : Nat} {own nm : String} {S S0 : hg_S} {o : hg_O} {lv : List (Nat × Value)} {rest st0 As : List Value} {y : MethodName} {ret : Option FieldType}
theorem hg_tok (hC : hg_K X D G cc nL own) {j : Nat} (hj : j < 33) {n : String} (hn : tk_nm.getD j "" = n) (w : Cond.fieldLink own index "SignalEngine$Token" n "LSignalEngine$Token;" ∈ tt) (d : decode cc pc = .ok (.getstatic index, 3)) (kk : hg_G X l R D nL S (pc + 3) lv (va_rf (some (G.2.1 j)) :: rest)) : hg_G X l R D nL S pc lv rest := by
  obtain ⟨p, e, s, m, args, below, meth, c, Q, A⟩ := X
  obtain ⟨hx, hb, hml, hown, hts, hK, hE, hA⟩ := hC
  have hj2 : j < tk_nm.length := hj
  have hz := (hE.1.2.2.1.1 j hj2).1
  rw [hn] at hz
  exact fun H locs ls hh hl => va_gets hx hb hz hh.2.2.1 hown (hts _ w) (fun _ h9 => h9) d (kk H locs ls hh hl)
/-- a static whose value the surroundings tell -/
theorem hg_gsv (hC : hg_K X D G cc nL own) {o n dd : String} {v : Value} (hZ : ∀ (A : Nat → Prop) (s : State) (H : Heap), hg_env G A s H → va_Z o n dd v A s H) (w : Cond.fieldLink own index o n dd ∈ tt) (d : decode cc pc = .ok (.getstatic index, 3)) (kk : hg_G X l R D nL S (pc + 3) lv (v :: rest)) : hg_G X l R D nL S pc lv rest := by
  obtain ⟨p, e, s, m, args, below, meth, c, Q, A⟩ := X
  obtain ⟨hx, hb, hml, hown, hts, hK, hE, hA⟩ := hC
  exact fun H locs ls hh hl => va_gets hx hb (hZ _ _ _ hE) hh.2.2.1 hown (hts _ w) (fun _ h9 => h9) d (kk H locs ls hh hl)
theorem hg_gsx (hC : hg_K X D G cc nL own) (w : Cond.fieldLink own index "jdk/internal/util/Preconditions" "SIOOBE_FORMATTER" "Ljava/util/function/BiFunction;" ∈ tt) (d : decode cc pc = .ok (.getstatic index, 3)) (kk : ∀ r : Option Nat, hg_G X l R D nL S (pc + 3) lv (va_rf r :: rest)) : hg_G X l R D nL S pc lv rest := by
  have hv : ∀ v : Value, v.isRef = true → ∃ r, v = va_rf r := by
    intro v hv
    cases v with
    | null => exact ⟨none, rfl⟩
    | ref a => exact ⟨some a, rfl⟩
    | _ => cases hv
  obtain ⟨p, e, s, m, args, below, meth, c, Q, A⟩ := X
  obtain ⟨hx, hb, hml, hown, hts, hK, hE, hA⟩ := hC
  obtain ⟨v, h1, h2⟩ := hE.2.2.2.1.2.1
  obtain ⟨r, rfl⟩ := hv v h1
  exact fun H locs ls hh hl => va_gets hx hb h2 hh.2.2.1 hown (hts _ w) (fun _ h9 => h9) d (kk r H locs ls hh hl)
/-- a field of a constant -/
theorem hg_of (hC : hg_K X D G cc nL own) {o n dd : String} {t : Nat} {v : Value} (hO : ∀ (A : Nat → Prop) (s : State) (H : Heap), hg_env G A s H → va_OF o n dd v t A s H) (w : Cond.fieldLink own index o n dd ∈ tt ∨ ∃ host, Cond.fieldLinkNest own index o n dd host ∈ nn) (d : decode cc pc = .ok (.getfield index, 3)) (kk : hg_G X l R D nL S (pc + 3) lv (v :: rest)) : hg_G X l R D nL S pc lv (va_rf (some t) :: rest) := by
  obtain ⟨p, e, s, m, args, below, meth, c, Q, A⟩ := X
  obtain ⟨hx, hb, hml, hown, hts, hK, hE, hA⟩ := hC
  intro H locs ls hh hl
  obtain ⟨cf, k, fi, f, cell, h1, h2, h3, h4, h5, h6⟩ := (hO _ _ _ hE).kept hh.2.2.1.2.1
  rcases w with w | ⟨host, w⟩
  · exact W.getf hx hb hown (hts _ w) h1 h2 h3 h4 h5 rfl rfl d (kk H locs ls hh hl)
  · exact va_Wgetf hx hb hown (va_Nw.use rfl (hE.1.1 _ w)) h1 h2 h3 h4 h5 rfl rfl d (kk H locs ls hh hl)
theorem he_starts {j : Nat} (hj : j < 33) : ∀ (A : Nat → Prop) (s : State) (H : Heap), hg_env G A s H → va_OF "SignalEngine$Token" "starts" "Z" (.int (tk_st.getD j 0)) (G.2.1 j) A s H := by
  intro A s H h
  have hj2 : j < tk_nm.length := hj
  exact (h.1.2.2.1.1 j hj2).2.2 ("SignalEngine$Token", "starts", "Z", tk_st) (by simp [tk_F])
theorem he_ord {j : Nat} (hj : j < 33) : ∀ (A : Nat → Prop) (s : State) (H : Heap), hg_env G A s H → va_OF "java/lang/Enum" "ordinal" "I" (.int (tk_or.getD j 0)) (G.2.1 j) A s H := by
  intro A s H h
  have hj2 : j < tk_nm.length := hj
  exact (h.1.2.2.1.1 j hj2).2.2 ("java/lang/Enum", "ordinal", "I", tk_or) (by simp [tk_F])
theorem he_text {j : Nat} (hj : j < 33) : ∀ (A : Nat → Prop) (s : State) (H : Heap), hg_env G A s H → va_OF "SignalEngine$Token" "text" "Ljava/lang/String;" (va_rf (some (G.2.2.2 (10 + j)))) (G.2.1 j) A s H := fun _ _ _ h => (h.2.2.2.2 j hj).1
theorem he_value {j : Nat} (hj : j < 33) : ∀ (A : Nat → Prop) (s : State) (H : Heap), hg_env G A s H → va_OF "java/lang/String" "value" "[B" (va_rf (some (G.2.2.2 (50 + j)))) (G.2.2.2 (10 + j)) A s H := fun _ _ _ h => (h.2.2.2.2 j hj).2.2.1
theorem he_coder {j : Nat} (hj : j < 33) : ∀ (A : Nat → Prop) (s : State) (H : Heap), hg_env G A s H → va_OF "java/lang/String" "coder" "B" (.int 0) (G.2.2.2 (10 + j)) A s H := fun _ _ _ h => (h.2.2.2.2 j hj).2.2.2.1
theorem he_compact : ∀ (A : Nat → Prop) (s : State) (H : Heap), hg_env G A s H → va_Z "java/lang/String" "COMPACT_STRINGS" "Z" (.int 1) A s H := fun _ _ _ h => h.2.2.2.1.1
theorem he_tokens : ∀ (A : Nat → Prop) (s : State) (H : Heap), hg_env G A s H → va_Z "SignalEngine$Lexer" "TOKENS" "[LSignalEngine$Token;" (va_rf (some (G.2.2.2 4))) A s H := fun _ _ _ h => h.2.2.1.1
theorem he_empty : ∀ (A : Nat → Prop) (s : State) (H : Heap), hg_env G A s H → va_Z "java/util/ArrayList" "DEFAULTCAPACITY_EMPTY_ELEMENTDATA" "[Ljava/lang/Object;" (va_rf (some G.2.2.1)) A s H := fun _ _ _ h => h.1.2.2.2
/-- TOKENS -/
theorem hg_tkl (hC : hg_K X D G cc nL own) (d : decode cc pc = .ok (.arraylength, 1)) (kk : hg_G X l R D nL S (pc + 1) lv (.int 33 :: rest)) : hg_G X l R D nL S pc lv (va_rf (some (G.2.2.2 4)) :: rest) := by
  obtain ⟨p, e, s, m, args, below, meth, c, Q, A⟩ := X
  obtain ⟨hx, hb, hml, hown, hts, hK, hE, hA⟩ := hC
  exact fun H locs ls hh hl => va_tlen hx hb hE.2.2.1.2 hh.2.2.1 (by decide) d (kk H locs ls hh hl)
theorem hg_tka (hC : hg_K X D G cc nL own) {i : Int32} (d : decode cc pc = .ok (.aaload, 1)) {τ : Type} {E : Nat → Option τ} {F : τ → Prop} (h : dc_wp ((dc_ix i 33).bind E) F) (kk : ∀ j, dc_wp (E j) F → hg_G X l R D nL S (pc + 1) lv (va_rf (some (G.2.1 j)) :: rest)) : hg_G X l R D nL S pc lv (.int i :: va_rf (some (G.2.2.2 4)) :: rest) := by
  obtain ⟨hin, h2⟩ := dc_ix_wp (dc_bind h)
  have kk2 := kk _ h2
  obtain ⟨p, e, s, m, args, below, meth, c, Q, A⟩ := X
  obtain ⟨hx, hb, hml, hown, hts, hK, hE, hA⟩ := hC
  exact fun H locs ls hh hl => vb_tq hx hb hE.2.2.1.2 hh.2.2.1 hin rfl d (kk2 H locs ls hh hl)
/-- a text's bytes -/
theorem hg_txl (hC : hg_K X D G cc nL own) {j : Nat} (hj : j < 33) (d : decode cc pc = .ok (.arraylength, 1)) (kk : hg_G X l R D nL S (pc + 1) lv (.int (Int32.ofNat (hk_tx.getD j []).length) :: rest)) : hg_G X l R D nL S pc lv (va_rf (some (G.2.2.2 (50 + j))) :: rest) := by
  obtain ⟨p, e, s, m, args, below, meth, c, Q, A⟩ := X
  obtain ⟨hx, hb, hml, hown, hts, hK, hE, hA⟩ := hC
  exact fun H locs ls hh hl => va_tlen hx hb (hE.2.2.2.2 j hj).2.2.2.2 hh.2.2.1 rfl d (kk H locs ls hh hl)
theorem hg_txa (hC : hg_K X D G cc nL own) {j : Nat} (hj : j < 33) {i : Int32} (d : decode cc pc = .ok (.baload, 1)) {τ : Type} {E : Int32 → Option τ} {F : τ → Prop} (h : dc_wp ((hg_cst (hk_tx.getD j []) i).bind E) F) (kk : ∀ x, dc_wp (E x) F → hg_G X l R D nL S (pc + 1) lv (.int x :: rest)) : hg_G X l R D nL S pc lv (.int i :: va_rf (some (G.2.2.2 (50 + j))) :: rest) := by
  obtain ⟨x, h1, h2⟩ := dc_bind h
  obtain ⟨hin, h5⟩ := dc_ix_wp (dc_bind (F := fun v => v = x) ⟨x, h1, rfl⟩)
  have e1 := dc_some h5
  have kk2 := kk _ h2
  subst e1
  obtain ⟨p, e, s, m, args, below, meth, c, Q, A⟩ := X
  obtain ⟨hx, hb, hml, hown, hts, hK, hE, hA⟩ := hC
  exact fun H locs ls hh hl => va_tb hx hb (hE.2.2.2.2 j hj).2.2.2.2 hh.2.2.1 hin rfl d (kk2 H locs ls hh hl)
theorem hg_i2c (hC : hg_K X D G cc nL own) {x : Int32} (d : decode cc pc = .ok (.i2c, 1)) (kk : hg_G X l R D nL S (pc + 1) lv (.int ((x.toUInt32 % 65536).toInt32) :: rest)) : hg_G X l R D nL S pc lv (.int x :: rest) := by
  obtain ⟨p, e, s, m, args, below, meth, c, Q, A⟩ := X
  obtain ⟨hx, hb, hml, hown, hts, hK, hE, hA⟩ := hC
  exact fun H locs ls hh hl => lv_i2c hx hb d rfl (kk H locs ls hh hl)
/-- an answer of a small type -/
def hg_nok (ty : FieldType) (v : Int32) : Option Unit := if narrow ty (.int v) = .int v then some () else none
theorem hg_sret (hC : hg_K X D G cc nL own) {ty : FieldType} (hR : hg_R X R D G nm (some ty) S0 o) {v : Int32} (hn : narrow ty (.int v) = .int v) (hv : (.inl (some (.int v), S) : hg_O) = o) (d : decode cc pc = .ok (.ireturn, 1)) : hg_G X l R D nL S pc lv [.int v] := by
  obtain ⟨p, e, s, m, args, below, meth, c, Q, A⟩ := X
  obtain ⟨hx, hb, hml, hown, hts, hK, hE, hA⟩ := hC
  subst hv
  obtain ⟨-, hr, hlocks, rfl, hsz, hRc, hRs, rfl⟩ := hR
  intro H locs ls hh hl
  exact hg_know fun _ hk2 => W.widen (by rw [hRc]; exact Nat.sub_le _ _) (by rw [hRs]; exact Nat.sub_le _ _) (W.zret (v := v) hx hb hr hn (fun t ht hW => ⟨rfl, hg_fin hK hsz hRc hRs hh hk2 ht hW⟩) hh.2.2.1.2.2 d)
/-- a call on a constant -/
theorem hg_cE (hC : hg_K X D G cc nL own) {v : Option Value} {u : hg_S} (hw : dc_VW own index y bytes maxL ret As.length) {b : Nat} (hM : hg_C l y bytes maxL ret fr lo D G (.ref b :: As) S (.inl (v, u))) (hR : fr + 1 ≤ R.frames ∧ 8 + (maxL + 11) + lo ≤ R.locals) (hrv : ∀ (A : Nat → Prop) (s : State) (H : Heap), hg_env G A s H → va_O y.cls b A s H) (hstack : st0 = As.reverse ++ .ref b :: rest) (hW : (rest.map fun v => v.category).sum ≤ 8) (d : decode cc pc = .ok (.invokevirtual index, 3))
    (kk : hg_G X l R D nL u (pc + 3) lv (v.toList ++ rest)) : hg_G X l R D nL S pc lv st0 := by
  obtain ⟨p, e, s, m, args, below, meth, c, Q, A⟩ := X
  obtain ⟨hx, hb, hml, hown, hts, hK, hE, hA⟩ := hC
  obtain ⟨m5, m4, m1, m2, m3, hdd⟩ := hw
  intro H locs ls hh hl
  obtain ⟨cell, h1, h2, h3, -⟩ := (hrv _ _ _ hE).kept hh.2.2.1.2.1
  exact hg_behind (G := G) hK hA hh hl (va_runV (Ts := tt) (own := own) (C := y.cls) (As := As) (rest := rest) ⟨hx, hb, hml, hown, hts⟩ hM ⟨hg_cB (p := p) (m := m) As.length hts m5 m4 m1 hdd hR, hts _ m2, hts _ m3⟩ ⟨hg_blind, ⟨cell, h1, h2, h3⟩, hg_pcall hh.2.2.2.1 hh.1 hK hh.2.1 hE hh.2.2.1 (hg_in (G := G) hA hh)⟩ rfl rfl hl.1 hstack (lv_room hW) d ⟨by have := hh.2.2.2.2.2.1; omega, by have := hh.2.2.2.2.2.2; omega⟩) kk
theorem hg_kEi (hC : hg_K X D G cc nL own) (hw : dc_VW own index y bytes maxL ret As.length) {b : Nat} {r : Option Nat} {ρ : Type} {Ec : Option ρ} {vo : ρ → Int32} {so : ρ → hg_S} (hM : ∀ q, Ec = some q → hg_C l y bytes maxL ret fr lo D G (.ref b :: As) S (.inl (some (.int (vo q)), so q))) (hfr : fr + 1 ≤ R.frames) (hlo : 8 + (maxL + 11) + lo ≤ R.locals) (hrb : r = some b) (hrv : ∀ (A : Nat → Prop) (s : State) (H : Heap), hg_env G A s H → va_O y.cls b A s H) (hstack : st0 = As.reverse ++ va_rf r :: rest) (hW : (rest.map fun v => v.category).sum ≤ 8) (d : decode cc pc = .ok (.invokevirtual index, 3)) {τ : Type} {E : ρ → Option τ} {F : τ → Prop} (h : dc_wp (Ec.bind E) F) (kk : ∀ q, dc_wp (E q) F → hg_G X l R D nL (so q) (pc + 3) lv (.int (vo q) :: rest)) : hg_G X l R D nL S pc lv st0 := by
  obtain ⟨q, h1, h2⟩ := dc_bind h
  subst hrb
  exact hg_cE hC hw (hM q h1) ⟨hfr, hlo⟩ hrv hstack hW d (kk q h2)
theorem he_str {j : Nat} (hj : j < 33) : ∀ (A : Nat → Prop) (s : State) (H : Heap), hg_env G A s H → va_O "java/lang/String" (G.2.2.2 (10 + j)) A s H := fun _ _ _ h => (h.2.2.2.2 j hj).2.1
theorem he_tokO {j : Nat} (hj : j < 33) : ∀ (A : Nat → Prop) (s : State) (H : Heap), hg_env G A s H → va_O "SignalEngine$Token" (G.2.1 j) A s H := by
  intro A s H h
  have hj2 : j < tk_nm.length := hj
  exact (h.1.2.2.1.1 j hj2).2.1
/-- ordinal(), which Token has of Enum -/
theorem hg_kU (hC : hg_K X D G cc nL own) {x : MethodName} {owner : String} (hG : GoodIn tt (va_wsU own index x.cls owner x y (tw y bytes maxL ret))) (hyx : y = ⟨owner, x.name, x.desc⟩) (hd : owner ≠ "java/lang/invoke/MethodHandle" ∧ owner ≠ "java/lang/invoke/VarHandle" ∧ (parseMethodDescriptor x.desc).map (fun d => d.parameters.length) = some 0) {b : Nat} {r : Option Nat} {ρ : Type} {Ec : Option ρ} {vo : ρ → Int32} {so : ρ → hg_S} (hM : ∀ q, Ec = some q → hg_C l y bytes maxL ret fr lo D G [.ref b] S (.inl (some (.int (vo q)), so q))) (hfr : fr + 1 ≤ R.frames) (hlo : 8 + (maxL + 11) + lo ≤ R.locals) (hrb : r = some b) (hrv : ∀ (A : Nat → Prop) (s : State) (H : Heap), hg_env G A s H → va_O x.cls b A s H) (hstack : st0 = va_rf r :: rest) (hW : (rest.map fun v => v.category).sum ≤ 8) (d : decode cc pc = .ok (.invokevirtual index, 3)) {τ : Type} {E : ρ → Option τ} {F : τ → Prop} (h : dc_wp (Ec.bind E) F) (kk : ∀ q, dc_wp (E q) F → hg_G X l R D nL (so q) (pc + 3) lv (.int (vo q) :: rest)) : hg_G X l R D nL S pc lv st0 := by
  obtain ⟨q, h1, h2⟩ := dc_bind h
  subst hrb
  have hM1 := hM q h1
  have kk2 := kk q h2
  obtain ⟨p, e, s, m, args, below, meth, c, Q, A⟩ := X
  obtain ⟨hx, hb, hml, hown, hts, hK, hE, hA⟩ := hC
  intro H locs ls hh hl
  obtain ⟨cell, g1, g2, g3, -⟩ := (hrv _ _ _ hE).kept hh.2.2.1.2.1
  exact hg_behind (G := G) hK hA hh hl (va_runU (Ts := tt) (own := own) (C := x.cls) (owner := owner) (As := []) (rest := rest) ⟨hx, hb, hml, hown, hts⟩ hM1 (va_cwU (rm := hg_rm fr lo S) 0 hts hG rfl rfl rfl hyx hd ⟨hfr, hlo⟩) ⟨hg_blind, ⟨cell, g1, g2, g3⟩, hg_pcall hh.2.2.2.1 hh.1 hK hh.2.1 hE hh.2.2.1 (hg_in (G := G) hA hh)⟩ rfl rfl hl.1 hstack (lv_room hW) d ⟨by have := hh.2.2.2.2.2.1; omega, by have := hh.2.2.2.2.2.2; omega⟩) kk2
/-- a field that a class has of its superclass, by a link to the class -/
theorem hg_rgi2 (hC : hg_K X D G cc nL own) {ref C : String} {T : u_T} {N ci k : Nat} (hc : cl[ci]? = some (C, T, N)) (hk : k < N) (hin : ∀ w ∈ u_ws C T N, w ∈ tt) (w : Cond.fieldLink own index ref (T k).2.1 (T k).2.2.1 ∈ tt) (ws : Cond.sameField ref (T k).1 (T k).2.1 (T k).2.2.1 ∈ tt) {τ : Type} {E : Int32 → Option τ} {F : τ → Prop} {r : Option Nat} (d : decode cc pc = .ok (.getfield index, 3)) (h : dc_wp ((hg_gi S r ci k).bind E) F) (kk : ∀ x, dc_wp (E x) F → hg_G X l R D nL S (pc + 3) lv (.int x :: rest)) : hg_G X l R D nL S pc lv (va_rf r :: rest) := by
  obtain ⟨x, h1, h2⟩ := dc_bind h
  obtain ⟨a, q0, fs, rfl, he, hv⟩ := hg_fld_of (hg_gi_of h1)
  have kk2 := kk x h2
  obtain ⟨p, e, s, m, args, below, meth, c, Q, A⟩ := X
  obtain ⟨hx, hb, hml, hown, hts, hK, hE, hA⟩ := hC
  exact fun H locs ls hh hl => va_get (D := D) hx hb hts hin hown hK hh.1 q0 he hc k hk (hts _ w) (fun x h9 => u_same (hts _ ws) x h9) hv d (kk2 H locs ls hh hl)
theorem hg_rput2 (hC : hg_K X D G cc nL own) {ref C : String} {T : u_T} {N ci k : Nat} {ty0 : Nat → FieldType} {ty : FieldType} {v : Value} (hc : cl[ci]? = some (C, T, N)) (hk : k < N) (hin : ∀ w ∈ u_ws C T N, w ∈ tt) (hty : ∀ k, k < N → parseFieldDescriptor (T k).2.2.1 = some (ty0 k)) (hnm : ∀ a, a < N → ∀ b, b < N → a ≠ b → (T a).2.1 ≠ (T b).2.1) (hfin : (T k).2.2.2 = false) (hd : parseFieldDescriptor (T k).2.2.1 = some ty) (w : Cond.fieldLink own index ref (T k).2.1 (T k).2.2.1 ∈ tt) (ws : Cond.sameField ref (T k).1 (T k).2.1 (T k).2.2.1 ∈ tt) (hn : narrow ty v = v) (hfit : fits ty v = true) {τ : Type} {E : hg_S → Option τ} {F : τ → Prop} {r : Option Nat} (d : decode cc pc = .ok (.putfield index, 3)) (h : dc_wp ((hg_pf S r ci k v).bind E) F) (kk : ∀ S1, dc_wp (E S1) F → hg_G X l R D nL S1 (pc + 3) lv rest) : hg_G X l R D nL S pc lv (v :: va_rf r :: rest) := by
  obtain ⟨S1, h1, h2⟩ := dc_bind h
  obtain ⟨a, q0, fs, rfl, he, hlen, rfl⟩ := hg_pf_of h1
  have kk2 := kk _ h2
  obtain ⟨p, e, s, m, args, below, meth, c, Q, A⟩ := X
  obtain ⟨hx, hb, hml, hown, hts, hK, hE, hA⟩ := hC
  intro H locs ls hh hl
  refine va_put (D := D) hx hb hts hin ty0 hty hnm hown hK hh.1 hh.2.1 (hg_same hh) q0 he hc k hk (hts _ w) (fun x h9 => u_same (hts _ ws) x h9) hfin hd hn hfit hlen d (fun H1 locs1 hP1 hD1 hS1 => ?_)
  rw [hg_upd_set hh.2.1 he] at hP1 hD1
  exact hg_back hh hP1 hD1 hS1 (fun h3 => kk2 H1 locs1 ls h3 hl)
theorem hg_roln (hC : hg_K X D G cc nL own) {τ : Type} {E : Int32 → Option τ} {F : τ → Prop} {r : Option Nat} (d : decode cc pc = .ok (.arraylength, 1)) (h : dc_wp ((hg_oln G S r).bind E) F) (kk : ∀ x, dc_wp (E x) F → hg_G X l R D nL S (pc + 1) lv (.int x :: rest)) : hg_G X l R D nL S pc lv (va_rf r :: rest) := by
  obtain ⟨x, h1, h2⟩ := dc_bind h
  have kk2 := kk _ h2
  unfold hg_oln at h1
  by_cases hr : r = some G.2.2.1
  · rw [if_pos hr] at h1
    subst hr
    have e1 : (0 : Int32) = x := Option.some.inj h1
    obtain ⟨p, e, s, m, args, below, meth, c, Q, A⟩ := X
    obtain ⟨hx, hb, hml, hown, hts, hK, hE, hA⟩ := hC
    exact fun H locs ls hh hl => va_tlen hx hb hE.2.2.2.1.2.2.1 hh.2.2.1 (by rw [← e1]; rfl) d (kk2 H locs ls hh hl)
  · rw [if_neg hr] at h1
    obtain ⟨q, h3, h4⟩ := dc_bind (F := fun v => v = x) ⟨x, h1, rfl⟩
    obtain ⟨rfl, q0, he⟩ := hg_oa_of h3
    have e0 := dc_some h4
    have e1 : Int32.ofNat q.2.1 = x := e0
    obtain ⟨p, e, s, m, args, below, meth, c, Q, A⟩ := X
    obtain ⟨hx, hb, hml, hown, hts, hK, hE, hA⟩ := hC
    exact fun H locs ls hh hl => va_alen (D := D) hx hb hK hh.1 q0 3 he rfl e1 d (kk2 H locs ls hh hl)
theorem hg_rold (hC : hg_K X D G cc nL own) {τ : Type} {E : Option Nat → Option τ} {F : τ → Prop} {r : Option Nat} {i : Int32} (d : decode cc pc = .ok (.aaload, 1)) (h : dc_wp ((hg_old G S r i).bind E) F) (kk : ∀ x, dc_wp (E x) F → hg_G X l R D nL S (pc + 1) lv (va_rf x :: rest)) : hg_G X l R D nL S pc lv (.int i :: va_rf r :: rest) := by
  obtain ⟨x, h1, h2⟩ := dc_bind h
  obtain ⟨q, h3, h4⟩ := dc_bind (F := fun v => v = x) ⟨x, h1, rfl⟩
  obtain ⟨rfl, q0, he⟩ := hg_oa_of h3
  obtain ⟨hin, h5⟩ := dc_ix_wp (dc_bind h4)
  have e0 := dc_some h5
  have e1 : q.2.2 i.toNatClampNeg = x := e0
  have kk2 := kk _ h2
  subst e1
  obtain ⟨p, e, s, m, args, below, meth, c, Q, A⟩ := X
  obtain ⟨hx, hb, hml, hown, hts, hK, hE, hA⟩ := hC
  exact fun H locs ls hh hl => va_aldq (D := D) (C := "java/lang/Object") hx hb hK hh.1 q0 3 he rfl hin d (kk2 H locs ls hh hl)
theorem hg_rost (hC : hg_K X D G cc nL own) {ci : Nat} {C : String} {T : u_T} {N : Nat} (hc : cl[ci]? = some (C, T, N)) (w : Cond.castable C "java/lang/Object" ∈ nn) {τ : Type} {E : hg_S → Option τ} {F : τ → Prop} {r v : Option Nat} {i : Int32} (d : decode cc pc = .ok (.aastore, 1)) (h : dc_wp ((hg_ost G S r i v ci).bind E) F) (kk : ∀ S1, dc_wp (E S1) F → hg_G X l R D nL S1 (pc + 1) lv rest) : hg_G X l R D nL S pc lv (va_rf v :: .int i :: va_rf r :: rest) := by
  obtain ⟨S1, h1, h2⟩ := dc_bind h
  obtain ⟨q, h3, h4⟩ := dc_bind (F := fun v => v = S1) ⟨S1, h1, rfl⟩
  obtain ⟨rfl, q0, he⟩ := hg_oa_of h3
  obtain ⟨hin, h5⟩ := dc_ix_wp (dc_bind h4)
  obtain ⟨b, h6, h7⟩ := dc_bind h5
  have e1 := dc_some h7
  subst e1
  have kk2 := kk _ h2
  obtain ⟨rfl, qk, ci2, r2, vs, g1, g2, g3⟩ := hg_chk_of hc h6
  obtain ⟨p, e, s, m, args, below, meth, c, Q, A⟩ := X
  obtain ⟨hx, hb, hml, hown, hts, hK, hE, hA⟩ := hC
  intro H locs ls hh hl
  refine va_astqO (D := D) (E := "java/lang/Object") hx hb hK hh.1 hh.2.1 (hg_same hh) q0 3 qk ci2 he rfl (by rw [g3]; exact hE.1.1 _ w) g2 g1 hin d (fun H1 locs1 hP1 hD1 hS1 => ?_)
  rw [hg_upd_set hh.2.1 he] at hP1 hD1
  exact hg_back hh hP1 hD1 hS1 (fun h3 => kk2 H1 locs1 ls h3 hl)
theorem hg_rnewo (hC : hg_K X D G cc nL own) (w1 : Cond.classLink own index "java/lang/Object" ∈ tt) {n : Int32} {τ : Type} {E : hg_S → Option τ} {F : τ → Prop} (d : decode cc pc = .ok (.anewarray index, 3)) (h : dc_wp ((hg_newo G S n).bind E) F) (kk : ∀ S1, dc_wp (E S1) F → hg_G X l R D nL S1 (pc + 3) lv (va_rf (some S.2.1) :: rest)) : hg_G X l R D nL S pc lv (.int n :: rest) := by
  obtain ⟨S1, h1, h2⟩ := dc_bind h
  unfold hg_newo at h1
  by_cases hr : ¬ n < 0 ∧ 1 ≤ S.2.2.1 ∧ n.toNatClampNeg ≤ S.2.2.2 ∧ n.toNatClampNeg * 4 ≤ 536870912
  · rw [if_pos hr] at h1
    have e1 := Option.some.inj h1
    subst e1
    have kk2 := kk _ h2
    obtain ⟨p, e, s, m, args, below, meth, c, Q, A⟩ := X
    obtain ⟨hx, hb, hml, hown, hts, hK, hE, hA⟩ := hC
    intro H locs ls hh hl
    obtain ⟨hP, hD, hS, hz, hcz, hle1, hle2⟩ := hh
    refine W.anew hx hb hown (hts _ w1) (va_AO.use hE.2.2.2.1.2.2.2.2) rfl d rfl hr.1 hr.2.2.2 (by omega) (by omega) fun cA kA comp f1 f2 f3 f4 => ?_
    have hra : va_RA s (G.1 3) (.object "java/lang/Object") := (hK.2 3 _ rfl).2
    obtain ⟨kA2, comp2, r1, r2, r3, r4⟩ := hra
    have hcA : cA = G.1 3 := Option.some.inj (f1.symm.trans r4)
    subst hcA
    generalize hH1 : H.push ({ cls := G.1 3, slots := Array.replicate n.toNatClampNeg .null, vm := .none } : Cell) = H1
    have z1 : H1.size = H.size + 1 := by rw [← hH1, Array.size_push]
    have e1 : H1[H.size]? = some (arrV (G.1 3) n.toNatClampNeg (fun _ => .null)) := by rw [← hH1, Array.getElem?_push_size, ← arrV_new]
    have ho : ∀ q : Nat, q < H.size → H1[q]? = H[q]? := fun q hq => by rw [← hH1, Array.getElem?_push, if_neg (Nat.ne_of_lt hq)]
    have hk : ∀ (k : Nat) (x : Nat × va_E), S.1[k]? = some x → H1[x.1]? = H[x.1]? := fun k x hx => ho x.1 ((hP k x hx).lt)
    have e2 : R.cells - S.2.2.1 + 1 = R.cells - (S.2.2.1 - 1) := by omega
    have e3 : R.slots - S.2.2.2 + n.toNatClampNeg = R.slots - (S.2.2.2 - n.toNatClampNeg) := by omega
    rw [e2, e3]
    have kk3 := kk2 H1 locs ls ⟨(hP.kept hk).app (fun k x hx => by
        have hz2 : k < 1 := (List.getElem?_eq_some_iff.mp hx).1
        rw [show k = 0 by omega] at hx
        cases hx
        show H1[S.2.1]? = some (vp_cell _ _)
        rw [← hz, e1]
        rfl), hD.push hP hz.symm (hA _ (by rw [← hz]; exact hS.1)), ⟨Nat.le_trans hS.1 (by omega), fun x h1 h2 => (ho x (Nat.lt_of_lt_of_le h1 hS.1)).trans (hS.2.1 x h1 h2), hS.2.2⟩, by rw [z1, hz], by show S.2.1 + 1 + (S.2.2.1 - 1) = _; omega, by show S.2.2.1 - 1 ≤ _; omega, by show S.2.2.2 - n.toNatClampNeg ≤ _; omega⟩ hl
    rw [hz]
    exact kk3
  · rw [if_neg hr] at h1; cases h1
theorem hg_rocpy (hC : hg_K X D G cc nL own) {ci : Nat} {C : String} {T : u_T} {N : Nat} (hc : cl[ci]? = some (C, T, N)) (w : Cond.castable C "java/lang/Object" ∈ nn) (w1 : Cond.methodLink own index arraycopyName ∈ tt) (w2 : Cond.native arraycopyName ∈ tt) (w3 : Cond.static arraycopyName ∈ tt) (w4 : Cond.initialized "java/lang/System" ∈ tt) {r0 r1 : Option Nat} {sp dp n : Int32} (hfr : 1 ≤ R.frames) (hlo : (rest.map fun v => v.category).sum + (nativeFrameWords "java/lang/System" "arraycopy" 5 + 11) ≤ R.locals) (d : decode cc pc = .ok (.invokestatic index, 3)) {τ : Type} {E : hg_S → Option τ} {F : τ → Prop} (h : dc_wp ((hg_ocpy G S ci r0 sp r1 dp n).bind E) F) (kk : ∀ S1, dc_wp (E S1) F → hg_G X l R D nL S1 (pc + 3) lv rest) : hg_G X l R D nL S pc lv (.int n :: .int dp :: va_rf r1 :: .int sp :: va_rf r0 :: rest) := by
  obtain ⟨S1, h1, h2⟩ := dc_bind h
  obtain ⟨f, h3, h4⟩ := dc_bind (F := fun v => v = S1) ⟨S1, h1, rfl⟩
  obtain ⟨g, h5, h6⟩ := dc_bind h4
  obtain ⟨rfl, q0, he0⟩ := hg_oa_of h3
  obtain ⟨rfl, q1, he1⟩ := hg_oa_of h5
  rcases dc_ite h6 with ⟨hr, h7⟩ | ⟨_, h7⟩
  · have e1 := dc_some h7
    subst e1
    have kk2 := kk _ h2
    obtain ⟨p, e, s, m, args, below, meth, c, Q, A⟩ := X
    obtain ⟨hx, hb, hml, hown, hts, hK, hE, hA⟩ := hC
    intro H locs ls hh hl
    refine va_copyq (D := D) (C := C) (E0 := "java/lang/Object") (E1 := "java/lang/Object") hx hb (hml.trans hl.1.symm) hown (hts _ w1) (hts _ w2) (hts _ w3) (hts _ w4) hK hh.1 hh.2.1 (hg_same hh) q0 q1 3 3 he0 he1 rfl rfl hr.1 hr.2.1 hr.2.2.1 hr.2.2.2.1 hr.2.2.2.2.1 ?_ ?_ hfr hlo d (fun H1 locs1 hP1 hD1 hS1 => ?_)
    · intro i hi y hy
      have h8 := hr.2.2.2.2.2 i hi
      rw [hy] at h8
      obtain ⟨b, hb8⟩ := Option.isSome_iff_exists.mp h8
      obtain ⟨e8, qk, ci2, r2, vs, g1, g2, g3⟩ := hg_chk_of hc hb8
      cases e8
      have hv := va_recv hK hh.1 g1 g2
      rw [g3] at hv
      exact hv
    · intro comp c0 f1 f2
      obtain ⟨c1, t1, k1, k2, k3⟩ := Cond.castable_spec (va_Nw.use (A := args) rfl (hE.1.1 _ w))
      cases k1.symm.trans f2
      cases k2.symm.trans f1
      exact k3
    · rw [hg_upd_set hh.2.1 he1] at hP1 hD1
      exact hg_back hh hP1 hD1 hS1 (fun h3 => kk2 H1 locs1 ls h3 hl)
  · exact (dc_not h7).elim
/-- getClass() of a list's array, and Object[].class: the same -/
theorem hg_getC (hC : hg_K X D G cc nL own) (w1 : Cond.methodLink own index ⟨"java/lang/Object", "getClass", "()Ljava/lang/Class;"⟩ ∈ tt) (w2 : Cond.declares ⟨"java/lang/Object", "getClass", "()Ljava/lang/Class;"⟩ ∈ nn) (w3 : Cond.selects "[Ljava/lang/Object;" ⟨"java/lang/Object", "getClass", "()Ljava/lang/Class;"⟩ ⟨"java/lang/Object", "getClass", "()Ljava/lang/Class;"⟩ ∈ tt) (w4 : Cond.instanceMethod ⟨"java/lang/Object", "getClass", "()Ljava/lang/Class;"⟩ ∈ tt) (w5 : Cond.native ⟨"java/lang/Object", "getClass", "()Ljava/lang/Class;"⟩ ∈ tt) (hfr : 1 ≤ R.frames) (hlo : (rest.map fun v => v.category).sum + 14 ≤ R.locals) {r : Option Nat} (d : decode cc pc = .ok (.invokevirtual index, 3)) {τ : Type} {E : (Nat × Nat × (Nat → Option Nat)) → Option τ} {F : τ → Prop} (h : dc_wp ((hg_oa S r (G.1 3)).bind E) F) (kk : ∀ q, dc_wp (E q) F → hg_G X l R D nL S (pc + 3) lv (va_rf (some (G.2.2.2 5)) :: rest)) : hg_G X l R D nL S pc lv (va_rf r :: rest) := by
  obtain ⟨q, h1, h2⟩ := dc_bind h
  obtain ⟨rfl, q0, he⟩ := hg_oa_of h1
  have kk2 := kk _ h2
  obtain ⟨p, e, s, m, args, below, meth, c, Q, A⟩ := X
  obtain ⟨hx, hb, hml, hown, hts, hK, hE, hA⟩ := hC
  intro H locs ls hh hl
  have hra : va_RA s (G.1 3) (.object "java/lang/Object") := (hK.2 3 _ rfl).2
  obtain ⟨kA2, comp2, r1, r2, r3, r4⟩ := hra
  exact va_getC hx hb (hml.trans hl.1.symm) hown (hts _ w1) (va_Nw.use rfl (hE.1.1 _ w2)) (hts _ w3) (hts _ w4) (hts _ w5) hE.2.2.2.1.2.2.2.1 ⟨_, hh.1 q0 _ he, rfl, r4⟩ hfr hlo d (kk2 H locs ls hh hl)
theorem hg_ldcM (hC : hg_K X D G cc nL own) (w : Cond.classLink own index "[Ljava/lang/Object;" ∈ tt) (d : decode cc pc = .ok (.ldc index, 2)) (kk : hg_G X l R D nL S (pc + 2) lv (va_rf (some (G.2.2.2 5)) :: rest)) : hg_G X l R D nL S pc lv rest := by
  obtain ⟨p, e, s, m, args, below, meth, c, Q, A⟩ := X
  obtain ⟨hx, hb, hml, hown, hts, hK, hE, hA⟩ := hC
  exact fun H locs ls hh hl => va_ldcM hx hb hown (hts _ w) hE.2.2.2.1.2.2.2.1 d (kk H locs ls hh hl)
/-- a cast of an object of ours to its own class, or of null -/
def hg_cst2 (S : hg_S) (r : Option Nat) (ci : Nat) : Option Unit := match r with
  | none => some ()
  | some a => (hg_chk S (some a) ci).bind fun _ => some ()
theorem hg_rcast (hC : hg_K X D G cc nL own) {ci : Nat} {C : String} {T : u_T} {N : Nat} (hc : cl[ci]? = some (C, T, N)) (w1 : Cond.classLink own index C ∈ tt) (w2 : Cond.castable C C ∈ nn) {r : Option Nat} (d : decode cc pc = .ok (.checkcast index, 3)) {τ : Type} {E : Nat → Option τ} {F : τ → Prop} (h : dc_wp ((hg_chk S r ci).bind E) F) (kk : ∀ q, dc_wp (E q) F → hg_G X l R D nL S (pc + 3) lv (va_rf r :: rest)) : hg_G X l R D nL S pc lv (va_rf r :: rest) := by
  obtain ⟨b, h1, h2⟩ := dc_bind h
  obtain ⟨rfl, qk, ci2, r2, vs, g1, g2, g3⟩ := hg_chk_of hc h1
  have kk2 := kk _ h2
  obtain ⟨p, e, s, m, args, below, meth, c, Q, A⟩ := X
  obtain ⟨hx, hb, hml, hown, hts, hK, hE, hA⟩ := hC
  intro H locs ls hh hl
  have hv := va_recv hK hh.1 g1 g2
  rw [g3] at hv
  exact va_castY hx hb hown (hts _ w1) (hE.1.1 _ w2) hv d (kk2 H locs ls hh hl)
theorem hg_rcastA (hC : hg_K X D G cc nL own) {t : Nat} {ty : FieldType} (ht : (hg_T G.1)[t]? = some (G.1 t, ty)) {nma : String} (hra : ∀ s : State, va_RA s (G.1 t) ty → s.vm.findClass nma = some (G.1 t)) (w1 : Cond.classLink own index nma ∈ tt) {r : Option Nat} (d : decode cc pc = .ok (.checkcast index, 3)) {τ : Type} {E : (Nat × Nat × (Nat → Int32)) → Option τ} {F : τ → Prop} (h : dc_wp ((hg_ia S r (G.1 t)).bind E) F) (kk : ∀ q, dc_wp (E q) F → hg_G X l R D nL S (pc + 3) lv (va_rf r :: rest)) : hg_G X l R D nL S pc lv (va_rf r :: rest) := by
  obtain ⟨q, h1, h2⟩ := dc_bind h
  obtain ⟨rfl, q0, he⟩ := hg_ia_of h1
  have kk2 := kk _ h2
  obtain ⟨p, e, s, m, args, below, meth, c, Q, A⟩ := X
  obtain ⟨hx, hb, hml, hown, hts, hK, hE, hA⟩ := hC
  exact fun H locs ls hh hl => va_castA (D := D) hx hb hown (hts _ w1) hh.1 q0 he (hra s (hK.2 t _ ht).2) d (kk2 H locs ls hh hl)
end HGE
