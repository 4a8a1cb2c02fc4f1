/-! calls in step with told programs; throws -/
theorem hg_cti (x : Int32) : (Value.int x).category = 1 := rfl
theorem hg_ctr (x : Nat) : (Value.ref x).category = 1 := rfl
theorem va_rf_some (a : Nat) : va_rf (some a) = .ref a := rfl
theorem hg_start {ρ : Type} {E : Option ρ} {q : ρ} {cv : ρ → hg_O} {P : Prop} (hq : E = some q) (k : ∀ F : ρ → Prop, (∀ z, F z → cv z = cv q) → dc_wp E F → P) : P := k (fun z => cv z = cv q) (fun _ h => h) ⟨q, hq, rfl⟩
def hg_chk (S : hg_S) (r : Option Nat) (ci : Nat) : Option Nat :=
  match r with
  | none => none
  | some a => match hg_at S.1 a with
    | some (.inr (c, _)) => if c = ci then some a else none
    | _ => none
theorem hg_chk_of {S : hg_S} {r : Option Nat} {ci b : Nat} {C : String} {T : u_T} {N : Nat} (hc : cl[ci]? = some (C, T, N)) (h : hg_chk S r ci = some b) : r = some b ∧ hg_is S b C := by
  unfold hg_chk at h
  cases r with
  | none => cases h
  | some a =>
    dsimp only at h
    cases he : hg_at S.1 a with
    | none => rw [he] at h; cases h
    | some e =>
      rw [he] at h
      rcases e with x | ⟨c, fs⟩
      · cases h
      · dsimp only at h
        by_cases hc2 : c = ci
        · subst hc2
          rw [if_pos rfl] at h
          cases h
          obtain ⟨q0, hq⟩ := hg_at_k he
          exact ⟨rfl, q0, c, _, fs, hc, hq, rfl⟩
        · rw [if_neg hc2] at h; cases h
/-- what a throw is told as: the world, the object, whether it is an IllegalArgumentException (else an IllegalStateException) -/
abbrev hg_X : Type := hg_S × Nat × Bool
def hg_xc (b : Bool) : String := if b then "java/lang/IllegalArgumentException" else "java/lang/IllegalStateException"
def hg_ox (z : hg_X) : hg_O := .inr (hg_xc z.2.2, z.2.1, z.1)
section HGP2
variable {p : Program} {l : Launch} {e : Env} {R : Room} {s : State} {m : MethodId} {args : Array Value} {below : List Frame} {meth : Method} {c : Code} {H : Heap} {locs : List Loc} {Q : State → Prop} {D : va_G} {G : hg_E} {S S0 u : hg_S} {pc nL : Nat} {ls : Array Slot} {rest st0 : List Value} {a : Array Value} {C : String} {x : Nat} {nm : String} {ret : Option FieldType}
/-- a throw passes -/
theorem hg_pass {A : Nat → Prop} (hK : va_K D cl (hg_T G.1) s) (hA : ∀ q, s.heap.size ≤ q → A q) (hR : hg_R (p, e, s, m, args, below, meth, c, Q, A) R D G nm ret S0 (.inr (C, x, u))) (hh : hg_H (p, e, s, m, args, below, meth, c, Q, A) R D S H locs)
    (hr : xc_Run p l e R s m args below meth c H locs (R.cells - S.2.2.1) (R.slots - S.2.2.2) S.2.2.1 S.2.2.2 (F0 m pc ls st0) rest (hg_Qt D G S C x u a) (va_A S.1 S.2.1)) : W p l e R s m args below meth c H locs (R.cells - S.2.2.1) (R.slots - S.2.2.2) Q (F0 m pc ls st0) := by
  refine hg_know fun hk1 hk2 => ?_
  have hin := hg_in (G := G) hA hh
  obtain ⟨hP, hD, hS, hz, hc, h1, h2⟩ := hh
  obtain ⟨-, hret, hlocks, rfl, hsz, hRc, hRs, rfl, hout⟩ := hR
  intro T hT Y
  obtain ⟨x', st₀, t, T', L, h0, Y', hL, e1, e2, ⟨rfl, hob, ⟨hP1, hK1, hD1⟩, hz1, hc1, hr1, hs1, ht1, hF⟩, st⟩ := hr T hT Y
  rw [h0] at ht1
  have ec : R.cells - S.2.2.1 + S.2.2.1 = S0.2.2.1 := by omega
  have es : R.slots - S.2.2.2 + S.2.2.2 = S0.2.2.2 := by omega
  rw [ec, es] at Y'
  obtain ⟨w1, w2, w3, w4, w5⟩ := Y'.leaveThrown x' (g := F0 m pc ls rest) rfl rfl rfl (fun y hy => hout y hy pc) hlocks
  have hal : s.vm.Alike t.vm := by rw [← e2]; exact Y'.warmed.alike
  have hz2 : H.size ≤ T'.heap.size := by rw [e1, ← h0]; exact hF.1
  have hk3 : ∀ q : Nat, q < H.size → ¬ va_A S.1 S.2.1 q → T'.heap[q]? = H[q]? := fun q h3 h4 => by rw [e1]; rw [← h0] at h3 ⊢; exact hF.2 q h3 h4
  obtain ⟨cell, o1, o2, o3⟩ := hob
  refine ⟨_, st _ w1, x', w2, w3, ⟨rfl, ⟨cell, ?_, o2, ?_⟩, ⟨?_, va_K.moved w4.alike hK, hD1.weaken (fun _ _ _ h => hin _ h)⟩, ?_, by omega, by omega, by omega, ?_, ?_, ?_⟩, locs ++ L, ⟨w4, w5⟩, ?_⟩
  · show T'.heap[x']? = _; rw [e1]; exact o1
  · rw [w4.alike.findClass, ← hal.findClass]; exact o3
  · show va_P D cl u.1 T'.heap; rw [e1]; exact hP1
  · show T'.heap.size = _; rw [e1]; exact hz1
  · show hg_tot T'.heap + _ ≤ _; rw [e1]; omega
  · show s.heap.size ≤ T'.heap.size; exact Nat.le_trans hS.1 hz2
  · intro q h3 h4
    exact (hk3 q (Nat.lt_of_lt_of_le h3 hS.1) (fun z => h4 (hin q z))).trans (hS.2.1 q h3 h4)
  · intro q hq
    rcases List.mem_append.mp hq with h | h
    · exact hS.2.2 q h
    · exact hin _ (hL q h)
end HGP2
section HGC4
variable {X : dc_X} {l : Launch} {R : Room} {D : va_G} {G : hg_E} {cc bytes : ByteArray} {nL pc maxL fr lo index : Nat} {own nm : String} {S S0 : hg_S} {o : hg_O} {lv : List (Nat × Value)} {st0 As rest : List Value} {y : MethodName} {ret ret0 : Option FieldType}
theorem hg_cVT (hC : hg_K X D G cc nL own) {C : String} {x : Nat} {u : hg_S} (hR0 : hg_R X R D G nm ret0 S0 (.inr (C, x, u))) (hw : dc_VW own index y bytes maxL ret As.length) {b : Nat} (hM : hg_C l y bytes maxL ret fr lo D G (.ref b :: As) S (.inr (C, x, u))) (hR : fr + 1 ≤ R.frames ∧ 8 + (maxL + 11) + lo ≤ R.locals) (hrv : hg_is S b y.cls) (hstack : st0 = As.reverse ++ .ref b :: rest) (hW : (rest.map fun v => v.category).sum ≤ 8) (d : decode cc pc = .ok (.invokevirtual index, 3)) : hg_G X l R D nL S pc lv st0 := by
  obtain ⟨p, e, s, m, args, below, meth, c, Q, A⟩ := X
  obtain ⟨hx, hb, hml, hown, hts, hK, hE, hA⟩ := hC
  obtain ⟨m5, m4, m1, m2, m3, hdd⟩ := hw
  obtain ⟨q0, ci, q, fs, h1, h2, h3⟩ := hrv
  intro H locs ls hh hl
  refine hg_pass (G := G) hK hA hR0 hh (xc_runV (Ts := tt) (own := own) (C := y.cls) (As := As) (rest := rest) ⟨hx, hb, hml, hown, hts⟩ hM ⟨hg_cB (p := p) (m := m) As.length hts m5 m4 m1 hdd hR, hts _ m2, hts _ m3⟩ ⟨hg_blind, ?_, hg_pcall hh.2.2.2.1 hh.1 hK hh.2.1 hE hh.2.2.1 (hg_in (G := G) hA hh)⟩ rfl rfl hl.1 hstack (lv_room hW) d ⟨by have := hh.2.2.2.2.2.1; omega, by have := hh.2.2.2.2.2.2; omega⟩)
  have hv := va_recv hK hh.1 h1 h2
  rw [h3] at hv
  exact hv
theorem hg_R.out {S0 : hg_S} {z : hg_X} (h : hg_ox z = o) (hR : hg_R X R D G nm ret0 S0 o) : hg_R X R D G nm ret0 S0 (.inr (hg_xc z.2.2, z.2.1, z.1)) := by
  subst h; exact hR
/-- new X(); throw -/
theorem hg_raise (hC : hg_K X D G cc nL own) (hlt : l.stackTraces = false) (hR0 : hg_R X R D G nm ret0 S0 o) (b : Bool) {ia ic : Nat} (hat : ∀ w ∈ xc_ws own ia ic (hg_xc b) ex_up, w ∈ tt ∨ w ∈ nn) (htwo : xc_two own ic (hg_xc b) ex_up)
    (hd0 : decode cc pc = .ok (.new ia, 3)) (hd3 : decode cc (pc + 3) = .ok (.dup, 1)) (hd4 : decode cc (pc + 4) = .ok (.invokespecial ic, 3)) (hd7 : decode cc (pc + 7) = .ok (.athrow, 1))
    (hrm : 1 ≤ S.2.2.1 ∧ 6 ≤ S.2.2.2) (hfr : 5 < R.frames) (hlo : 90 + (rest.map fun v => v.category).sum ≤ R.locals) (ho : hg_ox ((S.1, S.2.1 + 1, S.2.2.1 - 1, S.2.2.2 - 6), S.2.1, b) = o) : hg_G X l R D nL S pc lv rest := by
  have hR1 := hg_R.out ho hR0
  obtain ⟨p, e, s, m, args, below, meth, c, Q, A⟩ := X
  obtain ⟨hx, hb, hml, hown, hts, hK, hE, hA⟩ := hC
  obtain ⟨-, hret, hlocks, rfl, hsz, hRc, hRs, rfl, hout⟩ := hR1
  intro H locs ls hh hl
  obtain ⟨hP, hD, hS, hz, hc, h1, h2⟩ := hh
  intro T hT Y
  have h0 : s.slotsTrue = true := by
    have h := Y.room
    simp only [State.hasRoom, Bool.and_eq_true] at h
    exact h.2
  obtain ⟨t, st, x, r1, r2, ⟨rfl, q1, q2, q3⟩, L, ⟨hW, hsame⟩, hL⟩ := xc_raise (Qc := fun _ _ x t => x = H.size ∧ H.size ≤ t.heap.size ∧ (∀ q : Nat, q < H.size → t.heap[q]? = H[q]?) ∧ xc_Ob (hg_xc b) H.size t t.heap) (free := va_A S0.1 S0.2.1) (own := own) (cls := hg_xc b) (names := ex_up) (ia := ia) (ic := ic) (rest := rest) hx hb hlt hown (by cases b <;> decide +kernel) (by decide +kernel) (fun w h => xn_at (hat w h) hts hE.1.1) htwo (hE.1.2.1.kept hS.2.1) (hl.1.trans hml.symm) hd0 hd3 hd4 hd7 (fun x h => hout x h _) (cells := R.cells - S.2.2.1) (slots := R.slots - S.2.2.2) (by omega) (by omega) (by show 2 + 3 < _; omega) (by rw [List.map_cons, List.sum_cons]; show 1 + _ + (13 * (2 + 1) + 41) ≤ _; omega) hS.2.2 (fun t a b c d => ⟨rfl, a, b, c⟩) hlocks T hT Y
  have e0 : s.slotsUsed = hg_tot s.heap := by simpa [State.slotsTrue, hg_tot] using h0
  have e1 : t.slotsUsed = hg_tot t.heap := by
    have h5 := State.slotsTrue_of_sameButNew h0 hsame
    simpa [State.slotsTrue, hg_tot] using h5
  have b1 : t.heap.size ≤ s.heap.size + (R.cells - S.2.2.1 + 1) := hsame.2.2.1
  have b2 : t.slotsUsed = s.slotsUsed + (((t.heap.toList.drop s.heap.size).map (·.slots.size)).sum) := hsame.2.2.2.1
  have b3 : ((t.heap.toList.drop s.heap.size).map (·.slots.size)).sum ≤ R.slots - S.2.2.2 + 6 := hsame.2.2.2.2.1
  have b4 : H.size < t.heap.size := by
    obtain ⟨cell, o1, -⟩ := q3
    exact (Array.getElem?_eq_some_iff.mp o1).1
  refine ⟨t, st, H.size, r1, r2, ⟨hz, by rw [← hz]; exact q3, ⟨hP.kept (fun k q hq => q2 q.1 ((hP k q hq).lt)), va_K.moved hW.alike hK, hD⟩, ?_, ?_, ?_, ?_, ?_, ?_, ?_⟩, L, ⟨hW, hsame.mono (by omega) (by omega)⟩, hL⟩
  · show t.heap.size = S.2.1 + 1; omega
  · show S.2.1 + 1 + (S.2.2.1 - 1) = _; omega
  · show S.2.2.1 - 1 ≤ _; omega
  · show S.2.2.2 - 6 ≤ _; omega
  · show hg_tot t.heap + (S.2.2.2 - 6) ≤ _; omega
  · exact Nat.le_trans hS.1 q1
  · intro q h3 h4
    exact (q2 q (Nat.lt_of_lt_of_le h3 hS.1)).trans (hS.2.1 q h3 h4)
/-- a nest mate's private static method, constructor -/
def hg_NSW (own : String) (index : Nat) (y : MethodName) (cc : ByteArray) (nL : Nat) (ret : Option FieldType) (na : Nat) : Prop := Cond.code y cc nL ret ∈ tt ∧ Cond.initialized y.cls ∈ tt ∧ (∃ host, Cond.methodLinkNest own index y host ∈ nn) ∧ Cond.static y ∈ tt ∧ (y.cls ≠ "java/lang/invoke/MethodHandle" ∧ y.cls ≠ "java/lang/invoke/VarHandle" ∧ (parseMethodDescriptor y.desc).map (fun d => d.parameters.length) = some na)
def hg_NIW (own : String) (index : Nat) (y : MethodName) (cc : ByteArray) (nL : Nat) (na : Nat) : Prop := Cond.code y cc nL none ∈ tt ∧ Cond.initialized y.cls ∈ tt ∧ (∃ host, Cond.methodLinkNest own index y host ∈ nn) ∧ Cond.instanceMethod y ∈ tt ∧ y.name = "<init>" ∧ (y.cls ≠ "java/lang/invoke/MethodHandle" ∧ y.cls ≠ "java/lang/invoke/VarHandle" ∧ (parseMethodDescriptor y.desc).map (fun d => d.parameters.length) = some na)
theorem hg_cN (hC : hg_K X D G cc nL own) {v : Option Value} {u : hg_S} (hw : hg_NSW own index y bytes maxL ret As.length) (hM : hg_C l y bytes maxL ret fr lo D G As S (.inl (v, u))) (hR : fr + 1 ≤ R.frames ∧ 8 + (maxL + 11) + lo ≤ R.locals) (hstack : st0 = As.reverse ++ rest) (hW : (rest.map fun v => v.category).sum ≤ 8) (d : decode cc pc = .ok (.invokestatic index, 3))
    (kk : hg_G X l R D nL u (pc + 3) lv (v.toList ++ rest)) : hg_G X l R D nL S pc lv st0 := by
  obtain ⟨p, e, s, m, args, below, meth, c, Q, A⟩ := X
  obtain ⟨hx, hb, hml, hown, hts, hK, hE, hA⟩ := hC
  obtain ⟨m5, m4, ⟨host, m1⟩, m2, hdd⟩ := hw
  intro H locs ls hh hl
  exact hg_behind (G := G) hK hA hh hl (va_runSN (Ts := tt) (own := own) (host := host) (As := As) (rest := rest) ⟨hx, hb, hml, hown, hts⟩ hM ⟨va_cnB (rm := hg_rm fr lo S) As.length hts (tw_goodL m5) rfl rfl rfl (hE.1.1 _ m1) (hts _ m4) hdd hR, hts _ m2, trivial⟩ ⟨hg_blind, hg_pcall hh.2.2.2.1 hh.1 hK hh.2.1 hE hh.2.2.1 (hg_in (G := G) hA hh)⟩ rfl rfl hl.1 hstack (lv_room hW) d ⟨by have := hh.2.2.2.2.2.1; omega, by have := hh.2.2.2.2.2.2; omega⟩) kk
theorem hg_cJ (hC : hg_K X D G cc nL own) {v : Option Value} {u : hg_S} (hw : hg_NIW own index y bytes maxL As.length) {b : Nat} (hM : hg_C l y bytes maxL none fr lo D G (.ref b :: As) S (.inl (v, u))) (hR : fr + 1 ≤ R.frames ∧ 8 + (maxL + 11) + lo ≤ R.locals) (hstack : st0 = As.reverse ++ .ref b :: rest) (hW : (rest.map fun v => v.category).sum ≤ 8) (d : decode cc pc = .ok (.invokespecial index, 3))
    (kk : hg_G X l R D nL u (pc + 3) lv (v.toList ++ rest)) : hg_G X l R D nL S pc lv st0 := by
  obtain ⟨p, e, s, m, args, below, meth, c, Q, A⟩ := X
  obtain ⟨hx, hb, hml, hown, hts, hK, hE, hA⟩ := hC
  obtain ⟨m5, m4, ⟨host, m1⟩, m2, hy1, hdd⟩ := hw
  intro H locs ls hh hl
  exact hg_behind (G := G) hK hA hh hl (va_runIN (Ts := tt) (own := own) (host := host) (As := As) (rest := rest) ⟨hx, hb, hml, hown, hts⟩ hM ⟨va_cnB (rm := hg_rm fr lo S) As.length hts (tw_goodL m5) rfl rfl rfl (hE.1.1 _ m1) (hts _ m4) hdd hR, hy1, hts _ m2⟩ ⟨hg_blind, hg_pcall hh.2.2.2.1 hh.1 hK hh.2.1 hE hh.2.2.1 (hg_in (G := G) hA hh)⟩ rfl rfl hl.1 hstack (lv_room hW) d ⟨by have := hh.2.2.2.2.2.1; omega, by have := hh.2.2.2.2.2.2; omega⟩) kk
/-- Object's constructor, Math's max and min, arraycopy -/
theorem hg_oi (hC : hg_K X D G cc nL own) {idx : Nat} (w1 : Cond.methodLink own idx Lib.objectInit ∈ tt) (w2 : Cond.instanceMethod Lib.objectInit ∈ tt) (w3 : Cond.code Lib.objectInit ⟨#[0xb1]⟩ 1 none ∈ tt) {a : Nat} (d : decode cc pc = .ok (.invokespecial idx, 3)) (hfr : 1 ≤ R.frames) (hlo : (rest.map fun v => v.category).sum + 12 ≤ R.locals) (kk : hg_G X l R D nL S (pc + 3) lv rest) : hg_G X l R D nL S pc lv (va_rf (some a) :: rest) := by
  obtain ⟨p, e, s, m, args, below, meth, c, Q, A⟩ := X
  obtain ⟨hx, hb, hml, hown, hts, hK, hE, hA⟩ := hC
  exact fun H locs ls hh hl => W.objInit hx hb hown (hts _ w1) (hts _ w2) (hts _ w3) (g := F0 m pc ls (va_rf (some a) :: rest)) rfl (hl.1.trans hml.symm) (a := a) (rest := rest) rfl d hfr (by show 2 * 0 + _ + 12 ≤ _; omega) (kk H locs ls hh hl)
theorem hg_mmax (hC : hg_K X D G cc nL own) {index : Nat} (w1 : Cond.methodLink own index Lib.Math.max.name ∈ tt) (w2 : Cond.static Lib.Math.max.name ∈ tt) (w3 : Cond.initialized "java/lang/Math" ∈ tt) (w4 : Cond.code Lib.Math.max.name Lib.Math.max.code 2 (some .int) ∈ tt) {x y : Int32} (hfr : 1 ≤ R.frames) (hlo : (rest.map fun v => v.category).sum + 13 ≤ R.locals) (d : decode cc pc = .ok (.invokestatic index, 3)) (kk : hg_G X l R D nL S (pc + 3) lv (.int (dc_max x y) :: rest)) : hg_G X l R D nL S pc lv (.int y :: .int x :: rest) := by
  obtain ⟨p, e, s, m, args, below, meth, c, Q, A⟩ := X
  obtain ⟨hx, hb, hml, hown, hts, hK, hE, hA⟩ := hC
  exact fun H locs ls hh hl => va_mmax hx hb (hml.trans hl.1.symm) hown (hts _ w1) (hts _ w2) (hts _ w3) (hts _ w4) hfr hlo (Nat.sub_le _ _) (Nat.sub_le _ _) d (kk H locs ls hh hl)
def hg_min (x y : Int32) : Int32 := if y < x then y else x
theorem hg_mmin (hC : hg_K X D G cc nL own) {index : Nat} (w1 : Cond.methodLink own index Lib.Math.min.name ∈ tt) (w2 : Cond.static Lib.Math.min.name ∈ tt) (w3 : Cond.initialized "java/lang/Math" ∈ tt) (w4 : Cond.code Lib.Math.min.name Lib.Math.min.code 2 (some .int) ∈ tt) {x y : Int32} (hfr : 1 ≤ R.frames) (hlo : (rest.map fun v => v.category).sum + 13 ≤ R.locals) (d : decode cc pc = .ok (.invokestatic index, 3)) (kk : hg_G X l R D nL S (pc + 3) lv (.int (hg_min x y) :: rest)) : hg_G X l R D nL S pc lv (.int y :: .int x :: rest) := by
  obtain ⟨p, e, s, m, args, below, meth, c, Q, A⟩ := X
  obtain ⟨hx, hb, hml, hown, hts, hK, hE, hA⟩ := hC
  exact fun H locs ls hh hl => va_mmin hx hb (hml.trans hl.1.symm) hown (hts _ w1) (hts _ w2) (hts _ w3) (hts _ w4) hfr hlo (Nat.sub_le _ _) (Nat.sub_le _ _) d (kk H locs ls hh hl)
def hg_cpy (G : hg_E) (S : hg_S) (t : Nat) (ty : FieldType) (r0 : Option Nat) (sp : Int32) (r1 : Option Nat) (dp n : Int32) : Option hg_S := (hg_ia S r0 (G.1 t)).bind fun f => (hg_ia S r1 (G.1 t)).bind fun g =>
  if ¬ sp < 0 ∧ ¬ dp < 0 ∧ ¬ n < 0 ∧ sp.toNatClampNeg + n.toNatClampNeg ≤ f.2.1 ∧ dp.toNatClampNeg + n.toNatClampNeg ≤ g.2.1 ∧ (∀ i, i < n.toNatClampNeg → fits ty (.int (f.2.2 (sp.toNatClampNeg + i))) = true) then some (hg_upd S.1 g.1 (.inl (G.1 t, g.2.1, .inl (va_cpy f.2.2 g.2.2 sp.toNatClampNeg dp.toNatClampNeg n.toNatClampNeg))), S.2) else none
theorem hg_rcpy (hC : hg_K X D G cc nL own) {t : Nat} {ty : FieldType} (ht : (hg_T G.1)[t]? = some (G.1 t, ty)) (hprim : refKind ty = false) {index : Nat} (w1 : Cond.methodLink own index arraycopyName ∈ tt) (w2 : Cond.native arraycopyName ∈ tt) (w3 : Cond.static arraycopyName ∈ tt) (w4 : Cond.initialized "java/lang/System" ∈ tt) {r0 r1 : Option Nat} {sp dp n : Int32} (hfr : 1 ≤ R.frames) (hlo : (rest.map fun v => v.category).sum + (nativeFrameWords "java/lang/System" "arraycopy" 5 + 11) ≤ R.locals) (d : decode cc pc = .ok (.invokestatic index, 3)) {τ : Type} {E : hg_S → Option τ} {F : τ → Prop} (h : dc_wp ((hg_cpy G S t ty r0 sp r1 dp n).bind E) F) (kk : ∀ S1, dc_wp (E S1) F → hg_G X l R D nL S1 (pc + 3) lv rest) : hg_G X l R D nL S pc lv (.int n :: .int dp :: va_rf r1 :: .int sp :: va_rf r0 :: rest) := by
  obtain ⟨S1, h1, h2⟩ := dc_bind h
  obtain ⟨f, h3, h4⟩ := dc_bind (F := fun v => v = S1) ⟨S1, h1, rfl⟩
  obtain ⟨g, h5, h6⟩ := dc_bind h4
  obtain ⟨rfl, q0, he0⟩ := hg_ia_of h3
  obtain ⟨rfl, q1, he1⟩ := hg_ia_of h5
  rcases dc_ite h6 with ⟨hr, h7⟩ | ⟨_, h7⟩
  · have e1 := dc_some h7
    subst e1
    have kk2 := kk _ h2
    obtain ⟨p, e, s, m, args, below, meth, c, Q, A⟩ := X
    obtain ⟨hx, hb, hml, hown, hts, hK, hE, hA⟩ := hC
    intro H locs ls hh hl
    refine va_copyi (D := D) hx hb (hml.trans hl.1.symm) hown (hts _ w1) (hts _ w2) (hts _ w3) (hts _ w4) hK hh.1 hh.2.1 (hg_same hh) q0 q1 t t he0 he1 ht ht hprim hr.1 hr.2.1 hr.2.2.1 hr.2.2.2.1 hr.2.2.2.2.1 hr.2.2.2.2.2 hfr hlo d (fun H1 locs1 hP1 hD1 hS1 => ?_)
    rw [hg_upd_set hh.2.1 he1] at hP1 hD1
    exact hg_back hh hP1 hD1 hS1 (fun h3 => kk2 H1 locs1 ls h3 hl)
  · exact (dc_not h7).elim
theorem hg_gst (hC : hg_K X D G cc nL own) {j : Nat} (hj : j < 4) (w : Cond.fieldLink own index (hk_sn j).1 (hk_sn j).2 "[I" ∈ tt) (d : decode cc pc = .ok (.getstatic index, 3)) (kk : hg_G X l R D nL S (pc + 3) lv (va_rf (some (G.2.2.2 j)) :: rest)) : hg_G X l R D nL S pc lv rest := by
  obtain ⟨p, e, s, m, args, below, meth, c, Q, A⟩ := X
  obtain ⟨hx, hb, hml, hown, hts, hK, hE, hA⟩ := hC
  exact fun H locs ls hh hl => va_gets hx hb (hE.2.1 j hj).1 hh.2.2.1 hown (hts _ w) (fun _ h9 => h9) d (kk H locs ls hh hl)
def hg_cst (v : List Int32) (i : Int32) : Option Int32 := (dc_ix i v.length).bind fun j => some (v.getD j 0)
theorem hg_rcst (hC : hg_K X D G cc nL own) {j : Nat} (hj : j < 4) {i : Int32} (d : decode cc pc = .ok (.iaload, 1)) {τ : Type} {E : Int32 → Option τ} {F : τ → Prop} (h : dc_wp ((hg_cst (hk_sv j) i).bind E) F) (kk : ∀ x, dc_wp (E x) F → hg_G X l R D nL S (pc + 1) lv (.int x :: rest)) : hg_G X l R D nL S pc lv (.int i :: va_rf (some (G.2.2.2 j)) :: rest) := by
  obtain ⟨x, h1, h2⟩ := dc_bind h
  obtain ⟨hin, h5⟩ := dc_ix_wp (dc_bind (F := fun v => v = x) ⟨x, h1, rfl⟩)
  have e1 := dc_some h5
  have kk2 := kk _ h2
  subst e1
  obtain ⟨p, e, s, m, args, below, meth, c, Q, A⟩ := X
  obtain ⟨hx, hb, hml, hown, hts, hK, hE, hA⟩ := hC
  exact fun H locs ls hh hl => va_ti hx hb (hE.2.1 j hj).2 hh.2.2.1 hin rfl d (kk2 H locs ls hh hl)
theorem hg_kVi (hC : hg_K X D G cc nL own) (hw : dc_VW own index y bytes maxL ret As.length) {b : Nat} {r : Option Nat} {ρ : Type} {Ec : Option ρ} {vo : ρ → Int32} {so : ρ → hg_S} (hM : ∀ q, Ec = some q → hg_C l y bytes maxL ret fr lo D G (.ref b :: As) S (.inl ((some (.int (vo q))), so q))) (hfr : fr + 1 ≤ R.frames) (hlo : 8 + (maxL + 11) + lo ≤ R.locals) (hrb : r = some b) (hrv : hg_is S b y.cls) (hstack : st0 = As.reverse ++ va_rf r :: rest) (hW : (rest.map fun v => v.category).sum ≤ 8) (d : decode cc pc = .ok (.invokevirtual index, 3)) {τ : Type} {E : ρ → Option τ} {F : τ → Prop} (h : dc_wp (Ec.bind E) F) (kk : ∀ q, dc_wp (E q) F → hg_G X l R D nL (so q) (pc + 3) lv (.int (vo q) :: rest)) : hg_G X l R D nL S pc lv st0 := by
  obtain ⟨q, h1, h2⟩ := dc_bind h
  subst hrb
  exact hg_cV hC hw (hM q h1) ⟨hfr, hlo⟩ hrv hstack hW d (kk q h2)
theorem hg_kVl (hC : hg_K X D G cc nL own) (hw : dc_VW own index y bytes maxL ret As.length) {b : Nat} {r : Option Nat} {ρ : Type} {Ec : Option ρ} {vo : ρ → Int64} {so : ρ → hg_S} (hM : ∀ q, Ec = some q → hg_C l y bytes maxL ret fr lo D G (.ref b :: As) S (.inl ((some (.long (vo q))), so q))) (hfr : fr + 1 ≤ R.frames) (hlo : 8 + (maxL + 11) + lo ≤ R.locals) (hrb : r = some b) (hrv : hg_is S b y.cls) (hstack : st0 = As.reverse ++ va_rf r :: rest) (hW : (rest.map fun v => v.category).sum ≤ 8) (d : decode cc pc = .ok (.invokevirtual index, 3)) {τ : Type} {E : ρ → Option τ} {F : τ → Prop} (h : dc_wp (Ec.bind E) F) (kk : ∀ q, dc_wp (E q) F → hg_G X l R D nL (so q) (pc + 3) lv (.long (vo q) :: rest)) : hg_G X l R D nL S pc lv st0 := by
  obtain ⟨q, h1, h2⟩ := dc_bind h
  subst hrb
  exact hg_cV hC hw (hM q h1) ⟨hfr, hlo⟩ hrv hstack hW d (kk q h2)
theorem hg_kVr (hC : hg_K X D G cc nL own) (hw : dc_VW own index y bytes maxL ret As.length) {b : Nat} {r : Option Nat} {ρ : Type} {Ec : Option ρ} {vo : ρ → Option Nat} {so : ρ → hg_S} (hM : ∀ q, Ec = some q → hg_C l y bytes maxL ret fr lo D G (.ref b :: As) S (.inl ((some (va_rf (vo q))), so q))) (hfr : fr + 1 ≤ R.frames) (hlo : 8 + (maxL + 11) + lo ≤ R.locals) (hrb : r = some b) (hrv : hg_is S b y.cls) (hstack : st0 = As.reverse ++ va_rf r :: rest) (hW : (rest.map fun v => v.category).sum ≤ 8) (d : decode cc pc = .ok (.invokevirtual index, 3)) {τ : Type} {E : ρ → Option τ} {F : τ → Prop} (h : dc_wp (Ec.bind E) F) (kk : ∀ q, dc_wp (E q) F → hg_G X l R D nL (so q) (pc + 3) lv (va_rf (vo q) :: rest)) : hg_G X l R D nL S pc lv st0 := by
  obtain ⟨q, h1, h2⟩ := dc_bind h
  subst hrb
  exact hg_cV hC hw (hM q h1) ⟨hfr, hlo⟩ hrv hstack hW d (kk q h2)
theorem hg_kVv (hC : hg_K X D G cc nL own) (hw : dc_VW own index y bytes maxL ret As.length) {b : Nat} {r : Option Nat} {ρ : Type} {Ec : Option ρ} {so : ρ → hg_S} (hM : ∀ q, Ec = some q → hg_C l y bytes maxL ret fr lo D G (.ref b :: As) S (.inl (none, so q))) (hfr : fr + 1 ≤ R.frames) (hlo : 8 + (maxL + 11) + lo ≤ R.locals) (hrb : r = some b) (hrv : hg_is S b y.cls) (hstack : st0 = As.reverse ++ va_rf r :: rest) (hW : (rest.map fun v => v.category).sum ≤ 8) (d : decode cc pc = .ok (.invokevirtual index, 3)) {τ : Type} {E : ρ → Option τ} {F : τ → Prop} (h : dc_wp (Ec.bind E) F) (kk : ∀ q, dc_wp (E q) F → hg_G X l R D nL (so q) (pc + 3) lv (rest)) : hg_G X l R D nL S pc lv st0 := by
  obtain ⟨q, h1, h2⟩ := dc_bind h
  subst hrb
  exact hg_cV hC hw (hM q h1) ⟨hfr, hlo⟩ hrv hstack hW d (kk q h2)
theorem hg_kVTi (hC : hg_K X D G cc nL own) (hR0 : hg_R X R D G nm ret0 S0 o) (hw : dc_VW own index y bytes maxL ret As.length) {b : Nat} {r : Option Nat} {ρ : Type} {Ec : Option (ρ ⊕ hg_X)} {vo : ρ → Int32} {so : ρ → hg_S} (hM : ∀ q, Ec = some q → hg_C l y bytes maxL ret fr lo D G (.ref b :: As) S (Sum.elim (fun q => .inl ((some (.int (vo q))), so q)) hg_ox q)) (hfr : fr + 1 ≤ R.frames) (hlo : 8 + (maxL + 11) + lo ≤ R.locals) (hrb : r = some b) (hrv : hg_is S b y.cls) (hstack : st0 = As.reverse ++ va_rf r :: rest) (hW : (rest.map fun v => v.category).sum ≤ 8) (d : decode cc pc = .ok (.invokevirtual index, 3)) {τ : Type} {E : ρ → Option τ} {E2 : hg_X → Option τ} {F : τ → Prop} (h : dc_wp (Ec.bind (Sum.elim E E2)) F) (kt : ∀ z, dc_wp (E2 z) F → hg_ox z = o) (kk : ∀ q, dc_wp (E q) F → hg_G X l R D nL (so q) (pc + 3) lv (.int (vo q) :: rest)) : hg_G X l R D nL S pc lv st0 := by
  obtain ⟨q, h1, h2⟩ := dc_bind h
  subst hrb
  rcases q with q | z
  · exact hg_cV hC hw (hM _ h1) ⟨hfr, hlo⟩ hrv hstack hW d (kk q h2)
  · exact hg_cVT hC (hg_R.out (kt z h2) hR0) hw (hM _ h1) ⟨hfr, hlo⟩ hrv hstack hW d
theorem hg_kVTl (hC : hg_K X D G cc nL own) (hR0 : hg_R X R D G nm ret0 S0 o) (hw : dc_VW own index y bytes maxL ret As.length) {b : Nat} {r : Option Nat} {ρ : Type} {Ec : Option (ρ ⊕ hg_X)} {vo : ρ → Int64} {so : ρ → hg_S} (hM : ∀ q, Ec = some q → hg_C l y bytes maxL ret fr lo D G (.ref b :: As) S (Sum.elim (fun q => .inl ((some (.long (vo q))), so q)) hg_ox q)) (hfr : fr + 1 ≤ R.frames) (hlo : 8 + (maxL + 11) + lo ≤ R.locals) (hrb : r = some b) (hrv : hg_is S b y.cls) (hstack : st0 = As.reverse ++ va_rf r :: rest) (hW : (rest.map fun v => v.category).sum ≤ 8) (d : decode cc pc = .ok (.invokevirtual index, 3)) {τ : Type} {E : ρ → Option τ} {E2 : hg_X → Option τ} {F : τ → Prop} (h : dc_wp (Ec.bind (Sum.elim E E2)) F) (kt : ∀ z, dc_wp (E2 z) F → hg_ox z = o) (kk : ∀ q, dc_wp (E q) F → hg_G X l R D nL (so q) (pc + 3) lv (.long (vo q) :: rest)) : hg_G X l R D nL S pc lv st0 := by
  obtain ⟨q, h1, h2⟩ := dc_bind h
  subst hrb
  rcases q with q | z
  · exact hg_cV hC hw (hM _ h1) ⟨hfr, hlo⟩ hrv hstack hW d (kk q h2)
  · exact hg_cVT hC (hg_R.out (kt z h2) hR0) hw (hM _ h1) ⟨hfr, hlo⟩ hrv hstack hW d
theorem hg_kVTr (hC : hg_K X D G cc nL own) (hR0 : hg_R X R D G nm ret0 S0 o) (hw : dc_VW own index y bytes maxL ret As.length) {b : Nat} {r : Option Nat} {ρ : Type} {Ec : Option (ρ ⊕ hg_X)} {vo : ρ → Option Nat} {so : ρ → hg_S} (hM : ∀ q, Ec = some q → hg_C l y bytes maxL ret fr lo D G (.ref b :: As) S (Sum.elim (fun q => .inl ((some (va_rf (vo q))), so q)) hg_ox q)) (hfr : fr + 1 ≤ R.frames) (hlo : 8 + (maxL + 11) + lo ≤ R.locals) (hrb : r = some b) (hrv : hg_is S b y.cls) (hstack : st0 = As.reverse ++ va_rf r :: rest) (hW : (rest.map fun v => v.category).sum ≤ 8) (d : decode cc pc = .ok (.invokevirtual index, 3)) {τ : Type} {E : ρ → Option τ} {E2 : hg_X → Option τ} {F : τ → Prop} (h : dc_wp (Ec.bind (Sum.elim E E2)) F) (kt : ∀ z, dc_wp (E2 z) F → hg_ox z = o) (kk : ∀ q, dc_wp (E q) F → hg_G X l R D nL (so q) (pc + 3) lv (va_rf (vo q) :: rest)) : hg_G X l R D nL S pc lv st0 := by
  obtain ⟨q, h1, h2⟩ := dc_bind h
  subst hrb
  rcases q with q | z
  · exact hg_cV hC hw (hM _ h1) ⟨hfr, hlo⟩ hrv hstack hW d (kk q h2)
  · exact hg_cVT hC (hg_R.out (kt z h2) hR0) hw (hM _ h1) ⟨hfr, hlo⟩ hrv hstack hW d
theorem hg_kVTv (hC : hg_K X D G cc nL own) (hR0 : hg_R X R D G nm ret0 S0 o) (hw : dc_VW own index y bytes maxL ret As.length) {b : Nat} {r : Option Nat} {ρ : Type} {Ec : Option (ρ ⊕ hg_X)} {so : ρ → hg_S} (hM : ∀ q, Ec = some q → hg_C l y bytes maxL ret fr lo D G (.ref b :: As) S (Sum.elim (fun q => .inl (none, so q)) hg_ox q)) (hfr : fr + 1 ≤ R.frames) (hlo : 8 + (maxL + 11) + lo ≤ R.locals) (hrb : r = some b) (hrv : hg_is S b y.cls) (hstack : st0 = As.reverse ++ va_rf r :: rest) (hW : (rest.map fun v => v.category).sum ≤ 8) (d : decode cc pc = .ok (.invokevirtual index, 3)) {τ : Type} {E : ρ → Option τ} {E2 : hg_X → Option τ} {F : τ → Prop} (h : dc_wp (Ec.bind (Sum.elim E E2)) F) (kt : ∀ z, dc_wp (E2 z) F → hg_ox z = o) (kk : ∀ q, dc_wp (E q) F → hg_G X l R D nL (so q) (pc + 3) lv (rest)) : hg_G X l R D nL S pc lv st0 := by
  obtain ⟨q, h1, h2⟩ := dc_bind h
  subst hrb
  rcases q with q | z
  · exact hg_cV hC hw (hM _ h1) ⟨hfr, hlo⟩ hrv hstack hW d (kk q h2)
  · exact hg_cVT hC (hg_R.out (kt z h2) hR0) hw (hM _ h1) ⟨hfr, hlo⟩ hrv hstack hW d
theorem hg_kSi (hC : hg_K X D G cc nL own) (hw : dc_SW own index y bytes maxL ret As.length) {ρ : Type} {Ec : Option ρ} {vo : ρ → Int32} {so : ρ → hg_S} (hM : ∀ q, Ec = some q → hg_C l y bytes maxL ret fr lo D G As S (.inl ((some (.int (vo q))), so q))) (hfr : fr + 1 ≤ R.frames) (hlo : 8 + (maxL + 11) + lo ≤ R.locals) (hstack : st0 = As.reverse ++ rest) (hW : (rest.map fun v => v.category).sum ≤ 8) (d : decode cc pc = .ok (.invokestatic index, 3)) {τ : Type} {E : ρ → Option τ} {F : τ → Prop} (h : dc_wp (Ec.bind E) F) (kk : ∀ q, dc_wp (E q) F → hg_G X l R D nL (so q) (pc + 3) lv (.int (vo q) :: rest)) : hg_G X l R D nL S pc lv st0 := by
  obtain ⟨q, h1, h2⟩ := dc_bind h
  exact hg_cS hC hw (hM q h1) ⟨hfr, hlo⟩ hstack hW d (kk q h2)
theorem hg_kSr (hC : hg_K X D G cc nL own) (hw : dc_SW own index y bytes maxL ret As.length) {ρ : Type} {Ec : Option ρ} {vo : ρ → Option Nat} {so : ρ → hg_S} (hM : ∀ q, Ec = some q → hg_C l y bytes maxL ret fr lo D G As S (.inl ((some (va_rf (vo q))), so q))) (hfr : fr + 1 ≤ R.frames) (hlo : 8 + (maxL + 11) + lo ≤ R.locals) (hstack : st0 = As.reverse ++ rest) (hW : (rest.map fun v => v.category).sum ≤ 8) (d : decode cc pc = .ok (.invokestatic index, 3)) {τ : Type} {E : ρ → Option τ} {F : τ → Prop} (h : dc_wp (Ec.bind E) F) (kk : ∀ q, dc_wp (E q) F → hg_G X l R D nL (so q) (pc + 3) lv (va_rf (vo q) :: rest)) : hg_G X l R D nL S pc lv st0 := by
  obtain ⟨q, h1, h2⟩ := dc_bind h
  exact hg_cS hC hw (hM q h1) ⟨hfr, hlo⟩ hstack hW d (kk q h2)
theorem hg_kSv (hC : hg_K X D G cc nL own) (hw : dc_SW own index y bytes maxL ret As.length) {ρ : Type} {Ec : Option ρ} {so : ρ → hg_S} (hM : ∀ q, Ec = some q → hg_C l y bytes maxL ret fr lo D G As S (.inl (none, so q))) (hfr : fr + 1 ≤ R.frames) (hlo : 8 + (maxL + 11) + lo ≤ R.locals) (hstack : st0 = As.reverse ++ rest) (hW : (rest.map fun v => v.category).sum ≤ 8) (d : decode cc pc = .ok (.invokestatic index, 3)) {τ : Type} {E : ρ → Option τ} {F : τ → Prop} (h : dc_wp (Ec.bind E) F) (kk : ∀ q, dc_wp (E q) F → hg_G X l R D nL (so q) (pc + 3) lv (rest)) : hg_G X l R D nL S pc lv st0 := by
  obtain ⟨q, h1, h2⟩ := dc_bind h
  exact hg_cS hC hw (hM q h1) ⟨hfr, hlo⟩ hstack hW d (kk q h2)
theorem hg_kNi (hC : hg_K X D G cc nL own) (hw : hg_NSW own index y bytes maxL ret As.length) {ρ : Type} {Ec : Option ρ} {vo : ρ → Int32} {so : ρ → hg_S} (hM : ∀ q, Ec = some q → hg_C l y bytes maxL ret fr lo D G As S (.inl ((some (.int (vo q))), so q))) (hfr : fr + 1 ≤ R.frames) (hlo : 8 + (maxL + 11) + lo ≤ R.locals) (hstack : st0 = As.reverse ++ rest) (hW : (rest.map fun v => v.category).sum ≤ 8) (d : decode cc pc = .ok (.invokestatic index, 3)) {τ : Type} {E : ρ → Option τ} {F : τ → Prop} (h : dc_wp (Ec.bind E) F) (kk : ∀ q, dc_wp (E q) F → hg_G X l R D nL (so q) (pc + 3) lv (.int (vo q) :: rest)) : hg_G X l R D nL S pc lv st0 := by
  obtain ⟨q, h1, h2⟩ := dc_bind h
  exact hg_cN hC hw (hM q h1) ⟨hfr, hlo⟩ hstack hW d (kk q h2)
theorem hg_kIv (hC : hg_K X D G cc nL own) (hw : hg_IW own index y bytes maxL As.length) {b : Nat} {r : Option Nat} {ρ : Type} {Ec : Option ρ} {so : ρ → hg_S} (hM : ∀ q, Ec = some q → hg_C l y bytes maxL none fr lo D G (.ref b :: As) S (.inl (none, so q))) (hfr : fr + 1 ≤ R.frames) (hlo : 8 + (maxL + 11) + lo ≤ R.locals) (hrb : r = some b) (hstack : st0 = As.reverse ++ va_rf r :: rest) (hW : (rest.map fun v => v.category).sum ≤ 8) (d : decode cc pc = .ok (.invokespecial index, 3)) {τ : Type} {E : ρ → Option τ} {F : τ → Prop} (h : dc_wp (Ec.bind E) F) (kk : ∀ q, dc_wp (E q) F → hg_G X l R D nL (so q) (pc + 3) lv (rest)) : hg_G X l R D nL S pc lv st0 := by
  obtain ⟨q, h1, h2⟩ := dc_bind h
  subst hrb
  exact hg_cI hC hw (hM q h1) ⟨hfr, hlo⟩ hstack hW d (kk q h2)
theorem hg_kJv (hC : hg_K X D G cc nL own) (hw : hg_NIW own index y bytes maxL As.length) {b : Nat} {r : Option Nat} {ρ : Type} {Ec : Option ρ} {so : ρ → hg_S} (hM : ∀ q, Ec = some q → hg_C l y bytes maxL none fr lo D G (.ref b :: As) S (.inl (none, so q))) (hfr : fr + 1 ≤ R.frames) (hlo : 8 + (maxL + 11) + lo ≤ R.locals) (hrb : r = some b) (hstack : st0 = As.reverse ++ va_rf r :: rest) (hW : (rest.map fun v => v.category).sum ≤ 8) (d : decode cc pc = .ok (.invokespecial index, 3)) {τ : Type} {E : ρ → Option τ} {F : τ → Prop} (h : dc_wp (Ec.bind E) F) (kk : ∀ q, dc_wp (E q) F → hg_G X l R D nL (so q) (pc + 3) lv (rest)) : hg_G X l R D nL S pc lv st0 := by
  obtain ⟨q, h1, h2⟩ := dc_bind h
  subst hrb
  exact hg_cJ hC hw (hM q h1) ⟨hfr, hlo⟩ hstack hW d (kk q h2)
end HGC4
