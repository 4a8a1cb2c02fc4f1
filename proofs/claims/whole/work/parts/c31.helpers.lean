/-! the law's helpers: two handlers, calls with the answers' array beside -/
def hl_N (X : dc_X) : Prop :=
  match X with
  | (_, _, s, _, _, _, _, _, _, _) => va_Nc "java/lang/IllegalArgumentException" "java/lang/IllegalStateException" s
def hl_P (G : hg_E) (D : va_G) (S : hg_S) (U : State) : Prop := hg_P G D S U ∧ va_Nc "java/lang/IllegalArgumentException" "java/lang/IllegalStateException" U
theorem hl_blind {G : hg_E} {D : va_G} {S : hg_S} {av : List Value} : FrameBlind (va_Pc av (hl_P G D S)) := by
  intro a U g mk h
  obtain ⟨h0, h1, h2⟩ := h
  exact ⟨h0, (hg_blind (av := av) a U g mk ⟨h0, h1⟩).2, va_Nc.moved (u := U) (U := U.calling g mk a) (Vm.Alike.refl U.vm) h2⟩
def hl_CH (l : Launch) (y : MethodName) (cc : ByteArray) (nL : Nat) (ret : Option FieldType) (hd : List (Nat × Nat × Nat × Nat)) (fr lo : Nat) (D : va_G) (G : hg_E) (av : List Value) (S : hg_S) (v : Option Value) (u : hg_S) : Prop :=
  Met l y (.codeWith y cc nL ret hd :: tt) (hg_rm fr lo S) (va_Pc av (hl_P G D S)) (hg_Qr D G S v u) S.2.2.1 S.2.2.2 (va_A S.1 S.2.1)
theorem hl_enterH {l : Launch} {y : MethodName} {cc : ByteArray} {nL : Nat} {ret : Option FieldType} {hd : List (Nat × Nat × Nat × Nat)} {fr lo : Nat} {D : va_G} {G : hg_E} {av : List Value} {S : hg_S} {v : Option Value} {u : hg_S} {lv : List (Nat × Value)} (hy : plainName y.cls = true) (hav : (lg_sl av).length ≤ nL) (hlv : lv_args 0 av = lv)
    (body : ∀ X : dc_X, hg_K X D G cc nL y.cls → hg_tab X hd → hl_N X → hg_R X (hg_rm fr lo S) D G y.name ret S (.inl (v, u)) → hg_G X l (hg_rm fr lo S) D nL S 0 lv []) : hl_CH l y cc nL ret hd fr lo D G av S v u := by
  subst hlv
  refine xc_MetW (cc := cc) (maxL := nL) (ret := ret) (hh := hd) hy rfl ?_
  intro p e s m args below meth c s₁ B hml htab hv
  obtain ⟨rfl, ⟨hsz, hP, hK, hD, hE⟩, hN⟩ := hv
  have hts := atoms_spec (ws := .codeWith y cc nL ret hd :: tt) B.pre
  rw [lg_entry_eq]
  have hb := body (p, e, s, m, av.toArray, below, meth, c, MQ below (hg_Qr D G S v u) av.toArray s S.2.2.1 S.2.2.2 (va_A S.1 S.2.1), va_A S.1 S.2.1)
    ⟨B.exec, B.bytes, hml, findClass_of_methodNamed B.named, fun w h => hts w (tw_mem h), hK, hE, fun q h => Or.inr (by rw [← hsz]; exact h)⟩ htab hN
    ⟨(name_of_methodNamed B.named B.method).1, B.returns, B.notSynchronized, rfl, hsz, rfl, rfl, rfl⟩ s.heap [] _ ⟨hP, hD.self, va_S.rf, hsz, by rw [hsz]; rfl, Nat.le_refl _, Nat.le_refl _⟩ (lv_entry av hav)
  have e1 : (hg_rm fr lo S).cells - S.2.2.1 = 0 := Nat.sub_self _
  have e2 : (hg_rm fr lo S).slots - S.2.2.2 = 0 := Nat.sub_self _
  rw [e1, e2] at hb
  exact hb
section HLX
variable {p : Program} {l : Launch} {e : Env} {R : Room} {s : State} {m : MethodId} {args : Array Value} {below : List Frame} {meth : Method} {c : Code} {Q : State → Prop} {A : Nat → Prop}
/-- the second row of a table, where the first one's class isn't the object's -/
theorem xc_find2 {own C1 C2 : String} {x : Addr} {T' : State} {Lc : List Loc} {k n pc : Nat} {ls : Array Slot} {rest : List Value} (X' : Stand p l e R s m args below meth c T' Lc k n) (hown : s.vm.findClass own = some m.cls) {sp ep hpc ct sp2 ep2 hpc2 ct2 : Nat} {more : List ExceptionTableEntry} (htab : c.exceptionTable.toList = ⟨sp, ep, hpc, ct⟩ :: ⟨sp2, ep2, hpc2, ct2⟩ :: more)
    (hcov : sp ≤ pc ∧ pc < ep) (hcov2 : sp2 ≤ pc ∧ pc < ep2) (hct : ct ≠ 0) (hct2 : ct2 ≠ 0) (hcl1 : (Cond.classLink own ct C1).before args s = true) (hcl2 : (Cond.classLink own ct2 C2).before args s = true) (hob : xc_Ob C2 x s T'.heap) (hN : va_Nc C2 C1 s) :
    ∃ vm', s.WarmedH vm' ∧ ∀ (Qh : Handler → Pre) (E : CtlPost) (d : Bool) (acts : List Action), wp (findHandler (F0 m pc ls rest) x) Qh E e d acts ((T'.setTop (F0 m pc ls rest)).pushFrame (.throwing x)) ↔ Qh (.found hpc2) d acts (((T'.setVm vm').setTop (F0 m pc ls rest)).pushFrame (.throwing x)) := by
  have hpl : e.platform.magicAccessors = ({} : Platform).magicAccessors := by rw [X'.admits.platform]
  obtain ⟨cC1, hfc1, hlk1⟩ := Cond.classLink_spec hown hcl1 e.platform hpl
  obtain ⟨hg₁, hwarm₁, hready₁⟩ := State.classEntry (e := e) X'.warmed hlk1
  obtain ⟨cC2, hfc2, hlk2⟩ := Cond.classLink_spec hown hcl2 e.platform hpl
  obtain ⟨hg₂, hwarm₂, hready₂⟩ := State.classEntry (e := e) hwarm₁ hlk2
  obtain ⟨cell, o1, o2, o3⟩ := hob
  have hcc : cell.cls = cC2 := Option.some.inj (o3.symm.trans hfc2)
  obtain ⟨d2, d1, n1, n2, n3⟩ : ∃ c t : ClassId, (T'.vm.noted m.cls ct (.cls cC1)).findClass C2 = some c ∧ (T'.vm.noted m.cls ct (.cls cC1)).findClass C1 = some t ∧ (T'.vm.noted m.cls ct (.cls cC1)).assignable c t = false := va_Nc.moved (U := T'.setVm (T'.vm.noted m.cls ct (.cls cC1))) hwarm₁.alike hN
  have hd2 : d2 = cC2 := by
    have h := n1
    rw [hwarm₁.alike.findClass, hfc2] at h
    exact (Option.some.inj h).symm
  have hd1 : d1 = cC1 := by
    have h := n2
    rw [hwarm₁.alike.findClass, hfc1] at h
    exact (Option.some.inj h).symm
  subst hd2; subst hd1
  refine ⟨_, hwarm₂, ?_⟩
  intro Qh E d acts
  have hvm : ((T'.setTop (F0 m pc ls rest)).pushFrame (.throwing x)).vm = T'.vm := Stand.throwing_vm _ _ _
  have hhp : ((T'.setTop (F0 m pc ls rest)).pushFrame (.throwing x)).heap = T'.heap := Stand.throwing_heap _ _ _
  rw [W.findHandler_eq (meth := meth) (code := c) (by rw [hvm]; exact X'.method') X'.code, htab]
  obtain ⟨ha, ht⟩ := hg₁.op (op := VmOp.resolveClass m.cls ct) rfl
  obtain ⟨ha2, ht2⟩ := hg₂.op (op := VmOp.resolveClass m.cls ct2) rfl
  have hcl3 : ((T'.vm.noted m.cls ct (.cls d1)).noted m.cls ct2 (.cls d2)).assignable cell.cls d2 = true := by
    rw [hcc]
    show Vm.assignableAux _ (255 + 1) d2 d2 = true
    rw [Vm.assignableAux]
    simp
  have hkc1 : ∃ k, (T'.vm.noted m.cls ct (.cls d1)).classes[d2]? = some k := Vm.classAt_of_findClass (name := C2) n1
  have hkc3 : ∃ k, (T'.vm.noted m.cls ct (.cls d1)).classes[d1]? = some k := Vm.classAt_of_findClass (name := C1) n2
  have hkc2 : ∃ k, ((T'.vm.noted m.cls ct (.cls d1)).noted m.cls ct2 (.cls d2)).classes[d2]? = some k := Vm.classAt_of_findClass (name := C2) (by rw [hwarm₂.alike.findClass]; exact hfc2)
  have hnst : ∀ k, cell.vm ≠ .statics k := fun k h => by rw [o2] at h; cases h
  have hcz : covers ⟨sp, ep, hpc, ct⟩ pc = true := by simp [covers, hcov.1, hcov.2]
  have hcz2 : covers ⟨sp2, ep2, hpc2, ct2⟩ pc = true := by simp [covers, hcov2.1, hcov2.2]
  have hcell : T'.heap[x]? = some cell := o1
  simp only [covers] at hcz hcz2
  subst hcc
  simp [findHandler.go, hcz, hct, hcz2, hct2, hvm, hhp, ha, ht, ha2, ht2, hcell, hnst, hkc1, hkc2, hkc3, hcl3, n3, VmOp.dirties, VmOp.acts]
  exact Iff.rfl
variable {D : va_G} {G : hg_E} {cc bytes : ByteArray} {nL pc index maxL fr lo : Nat} {own : String} {S u : hg_S} {F : va_W} {lv : List (Nat × Value)} {rest st0 As : List Value} {y : MethodName} {ret : Option FieldType} {H : Heap} {locs : List Loc} {ls : Array Slot}
/-- into a handler, however it was found -/
theorem hl_catchW {C : String} {x hpc b : Nat} (hx : p.tables.exec = Jvm.exec) (hb : c.code = cc) (hml : c.maxLocals = nL) (hown : s.vm.findClass own = some m.cls) (hts : ∀ w ∈ tt, w.before args s = true) (hK : va_K D cl (hg_T G.1) s) (hE : hg_env G A s s.heap) (hA : ∀ q, s.heap.size ≤ q → A q) (hw : dc_VW own index y bytes maxL ret As.length) (hM : hg_C l y bytes maxL ret fr lo D G (.ref b :: As) S (.inr (C, x, u))) (hR : fr + 1 ≤ R.frames ∧ 8 + (maxL + 11) + lo ≤ R.locals) (hrv : hg_is S b y.cls) (hstack : st0 = As.reverse ++ .ref b :: rest) (hW : (rest.map fun v => v.category).sum ≤ 8) (d : decode cc pc = .ok (.invokevirtual index, 3))
    (hfd : ∀ (T' : State) (Lc : List Loc) (k n : Nat), Stand p l e R s m args below meth c T' Lc k n → xc_Ob C x s T'.heap → ∃ vm', s.WarmedH vm' ∧ ∀ (Qh : Handler → Pre) (E : CtlPost) (d : Bool) (acts : List Action), wp (findHandler (F0 m pc ls rest) x) Qh E e d acts ((T'.setTop (F0 m pc ls rest)).pushFrame (.throwing x)) ↔ Qh (.found hpc) d acts (((T'.setVm vm').setTop (F0 m pc ls rest)).pushFrame (.throwing x)))
    (hh : hg_H (p, e, s, m, args, below, meth, c, Q, A) R D (S.1 ++ F, S.2) H locs) (hl : lv_has ls nL lv) (kk : hg_G (p, e, s, m, args, below, meth, c, Q, A) l R D nL (u.1 ++ F, u.2) hpc lv [va_rf (some x)]) : W p l e R s m args below meth c H locs (R.cells - S.2.2.1) (R.slots - S.2.2.2) Q (F0 m pc ls st0) := by
  obtain ⟨m5, m4, m1, m2, m3, hdd⟩ := hw
  obtain ⟨q0, ci, q, fs, h1, h2, h3⟩ := hrv
  have hs := hl_sub hh
  have hv := va_recv hK hs.1 h1 h2
  rw [h3] at hv
  have hr := xc_runV (Ts := tt) (own := own) (C := y.cls) (As := As) (rest := rest) (locs := locs) (below := below) (e := e) (R := R) (meth := meth) (cells := R.cells - S.2.2.1) (slots := R.slots - S.2.2.2) (g := F0 m pc ls st0) ⟨hx, hb, hml, hown, hts⟩ hM ⟨hg_cB (p := p) (m := m) As.length hts m5 m4 m1 hdd hR, hts _ m2, hts _ m3⟩ ⟨hg_blind, hv, hg_pcall hs.2.2.2.1 hs.1 hK hs.2.1 hE hs.2.2.1 (hg_in (G := G) hA hs)⟩ rfl rfl hl.1 hstack (lv_room hW) d ⟨by have := hs.2.2.2.2.2.1; omega, by have := hs.2.2.2.2.2.2; omega⟩
  refine hg_know fun hk1 hk2 => ?_
  have hin := hg_in (G := G) hA hs
  obtain ⟨hP, hD, hS, hz, hc, g1, g2⟩ := hh
  have hz : H.size = S.2.1 := hz
  have hc : S.2.1 + S.2.2.1 = s.heap.size + R.cells := hc
  have g1 : S.2.2.1 ≤ R.cells := g1
  have g2 : S.2.2.2 ≤ R.slots := g2
  intro T hT Y
  obtain ⟨x', st₀, t, T', L, h0, Y', hL, e1, e2, ⟨rfl, hob, ⟨hP1, hK1, hD1⟩, hz1, hc1, hr1, hs1, ht1, hF⟩, st⟩ := hr T hT Y
  rw [h0] at ht1
  have hal : s.vm.Alike t.vm := by rw [← e2]; exact Y'.warmed.alike
  obtain ⟨cell, o1, o2, o3⟩ := hob
  have hob2 : xc_Ob C x' s T'.heap := ⟨cell, by rw [e1]; exact o1, o2, by rw [← hal.findClass]; exact o3⟩
  obtain ⟨vm', hW', hfind⟩ := hfd T' _ _ _ Y' hob2
  have hz2 : H.size ≤ T'.heap.size := by rw [e1, ← h0]; exact hF.1
  have hk3 : ∀ q : Nat, q < H.size → ¬ va_A S.1 S.2.1 q → T'.heap[q]? = H[q]? := fun q h3 h4 => by rw [e1]; rw [← h0] at h3 ⊢; exact hF.2 q h3 h4
  have Y2 := hg_tight (k := R.cells - u.2.2.1) (n := R.slots - u.2.2.2) Y' (by rw [e1, hz1]; omega) (by rw [e1]; omega)
  obtain ⟨hP2, hD2⟩ := hl_frame (wl := []) (wm := S.1) (wr := F) (w1 := u.1) hP hD hz (fun q h => hA q (Nat.le_trans hS.1 (by rw [hz]; exact h))) hk3 (by rw [e1]; exact hP1) hD1
  obtain ⟨t2, a1, b1⟩ := kk T'.heap (locs ++ L) ls ⟨hP2, hD2, ⟨Nat.le_trans hS.1 hz2, fun q h3 h4 => (hk3 q (Nat.lt_of_lt_of_le h3 hS.1) (fun z => h4 (hin q z))).trans (hS.2.1 q h3 h4), fun q hq => by
      rcases List.mem_append.mp hq with h | h
      · exact hS.2.2 q h
      · exact hin _ (hL q h)⟩, by rw [e1]; exact hz1, by show u.2.1 + u.2.2.1 = _; omega, by show u.2.2.1 ≤ _; omega, by show u.2.2.2 ≤ _; omega⟩ hl (T'.setVm vm') rfl (Y2.noted hW')
  refine ⟨t2, st _ ?_, b1⟩
  have h : At T' m c below := Y'.here
  obtain ⟨hgo, hw⟩ := At.throwing (g := F0 m pc ls rest) h x'
  refine Steps.head hgo hw ?_
  rw [stepThread_throwing (frames_entered h.top _), (xc_stepCatch hfind).1]
  obtain ⟨g₀, hg⟩ := Option.isSome_iff_exists.mp h.top
  obtain ⟨r, hr2⟩ := State.topJava?_eq_some.mp hg
  have hr3 : (T'.setVm vm').frames = .java g₀ :: r := hr2
  rw [State.pushFrame, State.setFrames_setFrames, State.setTop_of_frames _ hr3, State.setFrames_setFrames]
  rw [State.setTop_of_frames _ hr3] at a1
  rw [hr2]
  exact a1
end HLX
section HLY
variable {X : dc_X} {l : Launch} {R : Room} {D : va_G} {G : hg_E} {cc bytes : ByteArray} {nL pc index maxL fr lo : Nat} {own : String} {S u : hg_S} {F : va_W} {lv : List (Nat × Value)} {rest st0 As : List Value} {y : MethodName} {ret : Option FieldType}
theorem hl_catch1 (hC : hg_K X D G cc nL own) {sp ep hpc ct : Nat} {more : List (Nat × Nat × Nat × Nat)} (htab : hg_tab X ((sp, ep, hpc, ct) :: more)) (hcov : sp ≤ pc ∧ pc < ep) (hct : ct ≠ 0) {C : String} (hcl : Cond.classLink own ct C ∈ tt) {x : Nat} (hw : dc_VW own index y bytes maxL ret As.length) {b : Nat} (hM : hg_C l y bytes maxL ret fr lo D G (.ref b :: As) S (.inr (C, x, u))) (hR : fr + 1 ≤ R.frames ∧ 8 + (maxL + 11) + lo ≤ R.locals) (hrv : hg_is S b y.cls) (hstack : st0 = As.reverse ++ .ref b :: rest) (hW : (rest.map fun v => v.category).sum ≤ 8) (d : decode cc pc = .ok (.invokevirtual index, 3))
    (kk : hg_G X l R D nL (u.1 ++ F, u.2) hpc lv [va_rf (some x)]) : hg_G X l R D nL (S.1 ++ F, S.2) pc lv st0 := by
  obtain ⟨p, e, s, m, args, below, meth, c, Q, A⟩ := X
  obtain ⟨hx, hb, hml, hown, hts, hK, hE, hA⟩ := hC
  intro H locs ls hh hl
  exact hl_catchW (S := S) (F := F) hx hb hml hown hts hK hE hA hw hM hR hrv hstack hW d (fun T' Lc k n Y' hob => xc_find (ls := ls) (rest := rest) Y' hown htab hcov hct (hts _ hcl) hob) hh hl kk
theorem hl_catch2 (hC : hg_K X D G cc nL own) (hN : hl_N X) {sp ep hpc ct sp2 ep2 hpc2 ct2 : Nat} {more : List (Nat × Nat × Nat × Nat)} (htab : hg_tab X ((sp, ep, hpc, ct) :: (sp2, ep2, hpc2, ct2) :: more)) (hcov : sp ≤ pc ∧ pc < ep) (hcov2 : sp2 ≤ pc ∧ pc < ep2) (hct : ct ≠ 0) (hct2 : ct2 ≠ 0) (hcl1 : Cond.classLink own ct "java/lang/IllegalStateException" ∈ tt) (hcl2 : Cond.classLink own ct2 "java/lang/IllegalArgumentException" ∈ tt) {x : Nat} (hw : dc_VW own index y bytes maxL ret As.length) {b : Nat} (hM : hg_C l y bytes maxL ret fr lo D G (.ref b :: As) S (.inr ("java/lang/IllegalArgumentException", x, u))) (hR : fr + 1 ≤ R.frames ∧ 8 + (maxL + 11) + lo ≤ R.locals) (hrv : hg_is S b y.cls) (hstack : st0 = As.reverse ++ .ref b :: rest) (hW : (rest.map fun v => v.category).sum ≤ 8) (d : decode cc pc = .ok (.invokevirtual index, 3))
    (kk : hg_G X l R D nL (u.1 ++ F, u.2) hpc2 lv [va_rf (some x)]) : hg_G X l R D nL (S.1 ++ F, S.2) pc lv st0 := by
  obtain ⟨p, e, s, m, args, below, meth, c, Q, A⟩ := X
  obtain ⟨hx, hb, hml, hown, hts, hK, hE, hA⟩ := hC
  intro H locs ls hh hl
  exact hl_catchW (S := S) (F := F) hx hb hml hown hts hK hE hA hw hM hR hrv hstack hW d (fun T' Lc k n Y' hob => xc_find2 (ls := ls) (rest := rest) Y' hown htab hcov hcov2 hct hct2 (hts _ hcl1) (hts _ hcl2) hob hN) hh hl kk
def hl_SHW (own : String) (index : Nat) (y : MethodName) (cc : ByteArray) (nL : Nat) (ret : Option FieldType) (hd : List (Nat × Nat × Nat × Nat)) (na : Nat) : Prop := Cond.codeWith y cc nL ret hd ∈ tt ∧ Cond.initialized y.cls ∈ tt ∧ Cond.methodLink own index y ∈ tt ∧ Cond.static y ∈ tt ∧ (y.cls ≠ "java/lang/invoke/MethodHandle" ∧ y.cls ≠ "java/lang/invoke/VarHandle" ∧ (parseMethodDescriptor y.desc).map (fun d => d.parameters.length) = some na)
/-- a call of a helper -/
theorem hl_kS (hC : hg_K X D G cc nL own) (hN : hl_N X) {hd : List (Nat × Nat × Nat × Nat)} (hw : hl_SHW own index y bytes maxL ret hd As.length) {k : Int32} (hM : hl_CH l y bytes maxL ret hd fr lo D G As S (some (.int k)) u) (hfr : fr + 1 ≤ R.frames) (hlo : 8 + (maxL + 11) + lo ≤ R.locals) (hstack : st0 = As.reverse ++ rest) (hW : (rest.map fun v => v.category).sum ≤ 8) (d : decode cc pc = .ok (.invokestatic index, 3)) (kk : hg_G X l R D nL (u.1 ++ F, u.2) (pc + 3) lv (.int k :: rest)) : hg_G X l R D nL (S.1 ++ F, S.2) pc lv st0 := by
  obtain ⟨p, e, s, m, args, below, meth, c, Q, A⟩ := X
  obtain ⟨hx, hb, hml, hown, hts, hK, hE, hA⟩ := hC
  obtain ⟨m5, m4, m1, m2, hdd⟩ := hw
  intro H locs ls hh hl
  have hs := hl_sub hh
  refine hl_behind (S := S) (F := F) (G := G) (v := some (.int k)) (rest := rest) (a := As.toArray) hA hh hl ?_ kk
  have hB : Back l R p e below s args y 3 8 (PreOf R S.2.2.1 S.2.2.2 (va_Pc As (hl_P G D S))) (PostOf (hg_Qr D G S (some (.int k)) u) S.2.2.1 S.2.2.2 (va_A S.1 S.2.1)) :=
    va_backW (hh := hd) (bytes := bytes) (maxL := maxL) (ret := ret) hM hl_blind rfl rfl hfr hlo (pay_in hts (tw_goodT m5)) List.mem_cons_self (fun a' U hW => word_at hW (good_of_word (tt_good _ m4)) (hts _ m4))
  obtain ⟨mk, methM, cM, hnamed, hmethM, -, -, -, -, -, -, hsigM⟩ := Cond.codeWith_spec (hts _ m5)
  have hstatic : methM.isStatic = true := Cond.static_spec hnamed hmethM (hts _ m2)
  obtain ⟨kP, hkP, -⟩ := className_of_methodNamed hnamed
  have hinitP : kP.init = .initialized := Cond.initialized_spec (findClass_of_methodNamed hnamed) hkP (hts _ m4)
  have hlen : As.length = methM.sig.parameters.length := by
    have h2 := hdd.2.2
    rw [hsigM] at h2
    exact (Option.some.inj h2).symm
  intro T hT Y
  obtain ⟨vm₁, Y₁, hstep₁⟩ := Y.invokestatic hx hown (hts _ m1) hnamed hmethM hstatic hkP hinitP ⟨hdd.1, hdd.2.1⟩ (g := F0 m pc ls st0) rfl (argsL := As) (rest := rest) hlen hstack (by rw [hb]; exact d)
  obtain ⟨v, ⟨U', l2, c2, s2⟩, Y', ⟨g', mk', t, L, e1, e2, hq, h1, hL, h2, h3⟩, hsteps⟩ := hB m meth c ⟨T.setVm vm₁, locs, R.cells - S.2.2.1, R.slots - S.2.2.2⟩ (F0 m pc ls rest) (.invokestatic index) mk As.toArray Y₁ rfl (hl.1.trans hml.symm) (by rw [hb]; exact d) (lv_room hW) (Y₁.named hnamed)
    ⟨by have := hs.2.2.2.2.2.1; show R.cells - S.2.2.1 + S.2.2.1 ≤ _; omega, by have := hs.2.2.2.2.2.2; show R.slots - S.2.2.2 + S.2.2.2 ≤ _; omega, rfl, (hg_pcall (av := As) hs.2.2.2.1 hs.1 hK hs.2.1 hE hs.2.2.1 (hg_in (G := G) hA hs) (T.setVm vm₁) hT Y₁.warmed).2, va_Nc.moved Y₁.warmed.alike hN⟩
  dsimp only [Pt.U, Pt.locs, Pt.cells, Pt.slots] at Y' e1 e2 h1 h2 h3 hsteps
  subst h1; subst h2; subst h3
  exact ⟨v, (T.setVm vm₁).calling g' mk' As.toArray, t, U', L, hT, Y', hL, e1, e2, hq, fun target h => hstep₁ _ fun acts => by rw [doInvoke_state]; exact hsteps.trans h⟩
end HLY
