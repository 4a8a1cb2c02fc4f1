/-! what stays all along (nest words, the constants of Token, statics that are read), and rows for a contract's beginning and for calls -/
def tk_nm : List String := ["IN", "OUT", "NOTHING", "PAUSE", "HALT", "EMIT", "SUSTAIN", "EXIT", "PRESENT", "THEN", "ELSE", "END", "SUSPEND", "WHEN", "LOOP", "EACH", "TRAP", "SIGNAL", "NOT", "AND", "OR", "AWAIT", "ABORT", "WEAK", "EVERY", "DO", "SEMICOLON", "COMMA", "OPEN", "CLOSE", "BARS", "NAME", "STOP"]
def tk_st : List Int32 := [0, 0, 1, 1, 1, 1, 1, 1, 1, 0, 0, 0, 1, 0, 1, 0, 1, 1, 0, 0, 0, 1, 1, 1, 1, 0, 0, 0, 1, 0, 0, 0, 0]
def tk_or : List Int32 := [0, 1, 2, 3, 4, 5, 6, 7, 8, 9, 10, 11, 12, 13, 14, 15, 16, 17, 18, 19, 20, 21, 22, 23, 24, 25, 26, 27, 28, 29, 30, 31, 32]
def tk_F : List (String × String × String × List Int32) := [("java/lang/Enum", "ordinal", "I", tk_or), ("SignalEngine$Token", "starts", "Z", tk_st)]
def xn_is : Cond → Bool
  | .fieldLinkNest _ _ _ _ _ _ => true
  | .methodLinkNest _ _ _ _ => true
  | .declares _ => true
  | .castable _ _ => true
  | _ => false
def nn : List Cond := tables_1.filter xn_is
theorem nn_of {w : Cond} (i : Nat) (h : tables_1[i]? = some w) (hg : xn_is w = true) : w ∈ nn := List.mem_filter.mpr ⟨List.mem_of_getElem? h, hg⟩
def xn (U : State) : Prop := ∀ w ∈ nn, va_Nw w U
theorem xn.warm {s U : State} (hW : s.WarmedH U.vm) (h : xn s) : xn U := by
  intro w hw
  have h1 := h w hw
  have h2 := (List.mem_filter.mp hw).2
  cases w <;> first | exact va_Nw.warmF hW h1 | exact va_Nw.warmM hW h1 | exact xc_at hW rfl h1 | (simp [xn_is] at h2)
theorem xn.same {u U : State} (h : u.vm = U.vm) (hZ : xn u) : xn U := by
  intro w hw
  have h1 := hZ w hw
  have h2 := (List.mem_filter.mp hw).2
  cases w <;> first | exact va_Nw.same rfl h h1 | (simp [xn_is] at h2)
theorem xn_at {w : Cond} {a : Array Value} {s : State} (h : w ∈ tt ∨ w ∈ nn) (hts : ∀ w ∈ tt, w.before a s = true) (hn : xn s) : w.before a s = true := by
  rcases h with h | h
  · exact hts w h
  · have h2 := (List.mem_filter.mp h).2
    have h1 := hn w h
    cases w <;> first | exact va_Nw.use rfl h1 | (simp [xn_is] at h2)
def xe (ad : Nat → Nat) (de : Nat) (A : Nat → Prop) (U : State) (H : Heap) : Prop :=
  xn U ∧ xc_Zt A U H ∧ va_En "SignalEngine$Token" "LSignalEngine$Token;" tk_nm tk_F ad A U H ∧ va_Z "java/util/ArrayList" "DEFAULTCAPACITY_EMPTY_ELEMENTDATA" "[Ljava/lang/Object;" (.ref de) A U H
theorem xe.warm {ad : Nat → Nat} {de : Nat} {A : Nat → Prop} {s U : State} {H : Heap} (hW : s.WarmedH U.vm) (h : xe ad de A s H) : xe ad de A U H :=
  ⟨xn.warm hW h.1, xc_Zt.moved hW.alike h.2.1, va_En.moved hW.alike h.2.2.1, va_Z.moved hW.alike h.2.2.2⟩
theorem xe.kept {ad : Nat → Nat} {de : Nat} {A : Nat → Prop} {U : State} {H H1 : Heap} (h : xe ad de A U H) (hq : ∀ a : Nat, a < H.size → ¬ A a → H1[a]? = H[a]?) : xe ad de A U H1 :=
  ⟨h.1, h.2.1.kept hq, h.2.2.1.kept hq, h.2.2.2.kept hq⟩
theorem xe.narrow {ad : Nat → Nat} {de : Nat} {A B : Nat → Prop} {U : State} {H : Heap} (h : xe ad de A U H) (hAB : ∀ q, B q → A q) : xe ad de B U H :=
  ⟨h.1, h.2.1.narrow hAB, h.2.2.1.narrow hAB, h.2.2.2.narrow hAB⟩
theorem xe.same {ad : Nat → Nat} {de : Nat} {A : Nat → Prop} {u U : State} {H : Heap} (h : u.vm = U.vm) (hE : xe ad de A u H) : xe ad de A U H := by
  have ha : u.vm.Alike U.vm := by rw [h]; exact Vm.Alike.refl _
  exact ⟨xn.same h hE.1, xc_Zt.moved ha hE.2.1, va_En.moved ha hE.2.2.1, va_Z.moved ha hE.2.2.2⟩
/-- a contract's start and its world behind -/
def xp (ad : Nat → Nat) (de : Nat) (D : va_G) (ws : va_W) (tys : List (ClassId × FieldType)) (sz : Nat) (U : State) : Prop := U.heap.size = sz ∧ va_P D cl ws U.heap ∧ va_K D cl tys U ∧ va_D (fun _ => True) ws ∧ xe ad de (va_A ws sz) U U.heap
def xq (D : va_G) (A : Nat → Prop) (ws : va_W) (tys : List (ClassId × FieldType)) (t : State) : Prop := va_P D cl ws t.heap ∧ va_K D cl tys t ∧ va_D A ws
theorem xp_blind {ad : Nat → Nat} {de : Nat} {D : va_G} {ws : va_W} {tys : List (ClassId × FieldType)} {sz : Nat} {av : List Value} : FrameBlind (va_Pc av (xp ad de D ws tys sz)) := by
  intro a U g mk h
  obtain ⟨h0, h1, h2, h3, h4, h5⟩ := h
  exact ⟨h0, h1, h2, va_K.moved (u := U) (U := U.calling g mk a) (Vm.Alike.refl U.vm) h3, h4, xe.same (u := U) (U := U.calling g mk a) rfl h5⟩
theorem xp_call {ad : Nat → Nat} {de : Nat} {D : va_G} {wc : va_W} {tc : List (ClassId × FieldType)} {A : Nat → Prop} {s : State} {H : Heap} {locs : List Loc} (hPc : va_P D cl wc H) (hKc : va_K D cl tc s) (hDc : va_D A wc) (hE : xe ad de A s s.heap) (hS : va_S A s.heap H locs) (hFc : ∀ q, va_A wc H.size q → A q)
    {av : List Value} : ∀ U : State, U.heap = H → s.WarmedH U.vm → va_Pc av (xp ad de D wc tc H.size) av.toArray U := by
  intro U hU hW
  refine ⟨rfl, by rw [hU], by rw [hU]; exact hPc, va_K.moved hW.alike hKc, hDc.weaken (fun _ _ _ _ => trivial), ?_⟩
  have h1 : xe ad de A s H := hE.kept hS.2.1
  rw [hU]
  exact (h1.narrow hFc).warm hW
section XMET
variable {l : Launch} {y : MethodName} {cc : ByteArray} {maxL : Nat} {ret : Option FieldType} {rm : Room} {av : List Value} {W0 : va_W} {T0 : List (ClassId × FieldType)} {ad : Nat → Nat} {de : Nat} {D : va_G} {sz mc ms : Nat} {free : Addr → Prop}
theorem xMet {Qc : Array Value → State → Outcome → State → Prop} (hy : plainName y.cls = true) (hav : (lg_sl av).length ≤ maxL)
    (body : ∀ (p : Program) (e : Env) (s : State) (m : MethodId) (below : List Frame) (meth : Method) (c : Code), p.tables.exec = Jvm.exec → c.code = cc → meth.sig.returnType = ret → meth.locks = false → meth.name = y.name → c.maxLocals = maxL → s.vm.findClass y.cls = some m.cls → (∀ w ∈ tt, w.before av.toArray s = true) →
      s.heap.size = sz → va_P D cl W0 s.heap → va_K D cl T0 s → va_D (va_A W0 sz) W0 → xe ad de (va_A W0 sz) s s.heap → (∀ q : Nat, s.heap.size ≤ q → va_A W0 sz q) → ∀ ls : Array Slot, lv_has ls maxL (lv_args 0 av) →
      W p l e rm s m av.toArray below meth c s.heap [] 0 0 (MQ below Qc av.toArray s mc ms free) (F0 m 0 ls [])) : Met l y (tw y cc maxL ret) rm (va_Pc av (xp ad de D W0 T0 sz)) Qc mc ms free := by
  refine Met.ofW (cc := cc) (maxL := maxL) (ret := ret) hy rfl ?_
  intro p e s m args below meth c s₁ B hml hv
  obtain ⟨rfl, hsz, hP, hK, hD, hE⟩ := hv
  have hts := atoms_spec (ws := tw y cc maxL ret) B.pre
  rw [lg_entry_eq]
  exact body p e s m below meth c B.exec B.bytes B.returns B.notSynchronized (name_of_methodNamed B.named B.method).1 hml (findClass_of_methodNamed B.named) (fun w h => hts w (tw_mem h)) hsz hP hK hD.self hE (fun q h => Or.inr (by rw [← hsz]; exact h)) _ (lv_entry av hav)
theorem xMetT {Qc : Array Value → State → Addr → State → Prop} (hy : plainName y.cls = true) (hav : (lg_sl av).length ≤ maxL)
    (body : ∀ (p : Program) (e : Env) (s : State) (m : MethodId) (below : List Frame) (meth : Method) (c : Code), p.tables.exec = Jvm.exec → c.code = cc → meth.sig.returnType = ret → meth.locks = false → (∀ x ∈ c.exceptionTable.toList, ∀ pc, covers x pc = false) → c.maxLocals = maxL → s.vm.findClass y.cls = some m.cls → (∀ w ∈ tt, w.before av.toArray s = true) →
      s.heap.size = sz → va_P D cl W0 s.heap → va_K D cl T0 s → va_D (va_A W0 sz) W0 → xe ad de (va_A W0 sz) s s.heap → (∀ q : Nat, s.heap.size ≤ q → va_A W0 sz q) → ∀ ls : Array Slot, lv_has ls maxL (lv_args 0 av) →
      W p l e rm s m av.toArray below meth c s.heap [] 0 0 (xc_MQ below Qc av.toArray s mc ms free) (F0 m 0 ls [])) : xc_Met l y (tw y cc maxL ret) rm (va_Pc av (xp ad de D W0 T0 sz)) Qc mc ms free := by
  refine xc_ofW (cc := cc) (maxL := maxL) (ret := ret) hy rfl ?_
  intro p e s m args below meth c s₁ B hml htab hv
  obtain ⟨rfl, hsz, hP, hK, hD, hE⟩ := hv
  have hts := atoms_spec (ws := tw y cc maxL ret) B.pre
  rw [lg_entry_eq]
  exact body p e s m below meth c B.exec B.bytes B.returns B.notSynchronized (fun x hx => by rw [htab] at hx; cases hx) hml (findClass_of_methodNamed B.named) (fun w h => hts w (tw_mem h)) hsz hP hK hD.self hE (fun q h => Or.inr (by rw [← hsz]; exact h)) _ (lv_entry av hav)
theorem xMetH {Qc : Array Value → State → Outcome → State → Prop} {hh : List (Nat × Nat × Nat × Nat)} (hy : plainName y.cls = true) (hav : (lg_sl av).length ≤ maxL)
    (body : ∀ (p : Program) (e : Env) (s : State) (m : MethodId) (below : List Frame) (meth : Method) (c : Code), p.tables.exec = Jvm.exec → c.code = cc → meth.sig.returnType = ret → meth.locks = false → c.exceptionTable.toList = tableOf hh → c.maxLocals = maxL → s.vm.findClass y.cls = some m.cls → (∀ w ∈ tt, w.before av.toArray s = true) →
      s.heap.size = sz → va_P D cl W0 s.heap → va_K D cl T0 s → va_D (va_A W0 sz) W0 → xe ad de (va_A W0 sz) s s.heap → (∀ q : Nat, s.heap.size ≤ q → va_A W0 sz q) → ∀ ls : Array Slot, lv_has ls maxL (lv_args 0 av) →
      W p l e rm s m av.toArray below meth c s.heap [] 0 0 (MQ below Qc av.toArray s mc ms free) (F0 m 0 ls [])) : Met l y (.codeWith y cc maxL ret hh :: tt) rm (va_Pc av (xp ad de D W0 T0 sz)) Qc mc ms free := by
  refine xc_MetW (cc := cc) (maxL := maxL) (ret := ret) (hh := hh) hy rfl ?_
  intro p e s m args below meth c s₁ B hml htab hv
  obtain ⟨rfl, hsz, hP, hK, hD, hE⟩ := hv
  have hts := atoms_spec (ws := .codeWith y cc maxL ret hh :: tt) B.pre
  rw [lg_entry_eq]
  exact body p e s m below meth c B.exec B.bytes B.returns B.notSynchronized htab hml (findClass_of_methodNamed B.named) (fun w h => hts w (tw_mem h)) hsz hP hK hD.self hE (fun q h => Or.inr (by rw [← hsz]; exact h)) _ (lv_entry av hav)
end XMET
theorem xfm {ws wc : va_W} {is : List Nat} (h : is.map (fun i => ws[i]?) = wc.map some) : is.filterMap (fun i => ws[i]?) = wc := by
  have h1 := congrArg (List.filterMap id) h
  simpa [List.filterMap_map] using h1
section XRUN
variable {p : Program} {l : Launch} {e : Env} {R : Room} {s : State} {m : MethodId} {args : Array Value} {below : List Frame} {meth : Method} {c : Code} {H : Heap} {locs : List Loc} {cells slots : Nat} {Q : State → Prop}
variable {y : MethodName} {bytes cc : ByteArray} {maxL nL mc ms n index pc : Nat} {ret : Option FieldType} {rm : Room} {own : String} {b : Addr} {As rest st0 : List Value} {ls : Array Slot} {ad : Nat → Nat} {de : Nat} {D : va_G} {ws wc : va_W} {tys tc : List (ClassId × FieldType)} {A : Nat → Prop} {free : Addr → Prop}
/-- what a walk knows of itself -/
abbrev xf (p : Program) (s : State) (m : MethodId) (args : Array Value) (c : Code) (cc : ByteArray) (nL : Nat) (own : String) : Prop := CallFix p m c cc nL s args tt own
theorem xcB (n : Nat) (hts : ∀ w ∈ tt, w.before args s = true) (m5 : Cond.code y bytes maxL ret ∈ tt) (m4 : Cond.initialized y.cls ∈ tt) (m1 : Cond.methodLink own index y ∈ tt) (hrc : rm.cells = mc) (hrs : rm.slots = ms)
    (hd : y.cls ≠ "java/lang/invoke/MethodHandle" ∧ y.cls ≠ "java/lang/invoke/VarHandle" ∧ (parseMethodDescriptor y.desc).map (fun d => d.parameters.length) = some n) (hR : rm.frames + 1 ≤ R.frames ∧ 8 + (maxL + 11) + rm.locals ≤ R.locals) :
    CallB R s args own index y bytes maxL ret (tw y bytes maxL ret) rm mc ms n := callB_of n hts (tw_goodL m5) rfl hrc hrs (hts _ m4) (hts _ m1) hd hR
/-- a virtual call -/
theorem xrV {Qc : Array Value → State → Outcome → State → Prop} (S : CallFix p m c cc nL s args tt own) (hM : Met l y (tw y bytes maxL ret) rm (va_Pc (.ref b :: As) (xp ad de D wc tc H.size)) Qc mc ms free)
    (m5 : Cond.code y bytes maxL ret ∈ tt) (m4 : Cond.initialized y.cls ∈ tt) (m1 : Cond.methodLink own index y ∈ tt) (m2 : Cond.instanceMethod y ∈ tt) (m3 : Cond.selects y.cls y y ∈ tt)
    (hrc : rm.cells = mc) (hrs : rm.slots = ms) (hd : y.cls ≠ "java/lang/invoke/MethodHandle" ∧ y.cls ≠ "java/lang/invoke/VarHandle" ∧ (parseMethodDescriptor y.desc).map (fun d => d.parameters.length) = some As.length) (hR : rm.frames + 1 ≤ R.frames ∧ 8 + (maxL + 11) + rm.locals ≤ R.locals)
    (hP : va_P D cl ws H) (hK : va_K D cl tys s) (hD : va_D A ws) (hE : xe ad de A s s.heap) (hS : va_S A s.heap H locs) (hA : ∀ q, s.heap.size ≤ q → A q) (isC kt : List Nat) (hC : isC.map (fun i => ws[i]?) = wc.map some) (hn : va_nd isC = true) (ht : kt.filterMap (fun i => tys[i]?) = tc)
    (hrv : ∃ (q0 ci : Nat) (q : vw_C) (fs : List Value), cl[ci]? = some q ∧ ws[q0]? = some (b, .inr (ci, fs)) ∧ q.1 = y.cls)
    (hsize : ls.size = nL) (hstack : st0 = As.reverse ++ .ref b :: rest) (hW : (rest.map fun v => v.category).sum ≤ 8) (hdg : decode cc pc = .ok (.invokevirtual index, 3)) (hf : cells + mc ≤ R.cells ∧ slots + ms ≤ R.slots) :
    va_Run p l e R s m args below meth c H locs cells slots mc ms (F0 m pc ls st0) rest (Qc (Value.ref b :: As).toArray) free := by
  obtain ⟨q0, ci, q, fs, h1, h2, h3⟩ := hrv
  refine va_runV (Ts := tt) (own := own) (C := y.cls) (As := As) (rest := rest) S hM ⟨xcB As.length S.2.2.2.2 m5 m4 m1 hrc hrs hd hR, S.2.2.2.2 _ m2, S.2.2.2.2 _ m3⟩ ⟨xp_blind, ?_, xp_call (hP.sub isC (xfm hC)) (hK.sub kt ht) (hD.sub isC hn hC) hE hS (va_free hD hS hA isC hC)⟩ rfl rfl hsize hstack (lv_room hW) hdg hf
  have hv := va_recv hK hP h1 h2
  rw [h3] at hv
  exact hv
/-- a constructor of ours -/
theorem xrI {Qc : Array Value → State → Outcome → State → Prop} (S : CallFix p m c cc nL s args tt own) (hM : Met l y (tw y bytes maxL none) rm (va_Pc (.ref b :: As) (xp ad de D wc tc H.size)) Qc mc ms free)
    (m5 : Cond.code y bytes maxL none ∈ tt) (m4 : Cond.initialized y.cls ∈ tt) (m1 : Cond.methodLink own index y ∈ tt) (m2 : Cond.instanceMethod y ∈ tt) (hy1 : y.name = "<init>")
    (hrc : rm.cells = mc) (hrs : rm.slots = ms) (hd : y.cls ≠ "java/lang/invoke/MethodHandle" ∧ y.cls ≠ "java/lang/invoke/VarHandle" ∧ (parseMethodDescriptor y.desc).map (fun d => d.parameters.length) = some As.length) (hR : rm.frames + 1 ≤ R.frames ∧ 8 + (maxL + 11) + rm.locals ≤ R.locals)
    (hP : va_P D cl ws H) (hK : va_K D cl tys s) (hD : va_D A ws) (hE : xe ad de A s s.heap) (hS : va_S A s.heap H locs) (hA : ∀ q, s.heap.size ≤ q → A q) (isC kt : List Nat) (hC : isC.map (fun i => ws[i]?) = wc.map some) (hn : va_nd isC = true) (ht : kt.filterMap (fun i => tys[i]?) = tc)
    (hsize : ls.size = nL) (hstack : st0 = As.reverse ++ .ref b :: rest) (hW : (rest.map fun v => v.category).sum ≤ 8) (hdg : decode cc pc = .ok (.invokespecial index, 3)) (hf : cells + mc ≤ R.cells ∧ slots + ms ≤ R.slots) :
    va_Run p l e R s m args below meth c H locs cells slots mc ms (F0 m pc ls st0) rest (Qc (Value.ref b :: As).toArray) free :=
  va_runI (Ts := tt) (own := own) (As := As) (rest := rest) S hM ⟨xcB As.length S.2.2.2.2 m5 m4 m1 hrc hrs hd hR, hy1, S.2.2.2.2 _ m2⟩ ⟨xp_blind, xp_call (hP.sub isC (xfm hC)) (hK.sub kt ht) (hD.sub isC hn hC) hE hS (va_free hD hS hA isC hC)⟩ rfl rfl hsize hstack (lv_room hW) hdg hf
/-- a static method -/
theorem xrS {Qc : Array Value → State → Outcome → State → Prop} (S : CallFix p m c cc nL s args tt own) (hM : Met l y (tw y bytes maxL ret) rm (va_Pc As (xp ad de D wc tc H.size)) Qc mc ms free)
    (m5 : Cond.code y bytes maxL ret ∈ tt) (m4 : Cond.initialized y.cls ∈ tt) (m1 : Cond.methodLink own index y ∈ tt) (m2 : Cond.static y ∈ tt)
    (hrc : rm.cells = mc) (hrs : rm.slots = ms) (hd : y.cls ≠ "java/lang/invoke/MethodHandle" ∧ y.cls ≠ "java/lang/invoke/VarHandle" ∧ (parseMethodDescriptor y.desc).map (fun d => d.parameters.length) = some As.length) (hR : rm.frames + 1 ≤ R.frames ∧ 8 + (maxL + 11) + rm.locals ≤ R.locals)
    (hP : va_P D cl ws H) (hK : va_K D cl tys s) (hD : va_D A ws) (hE : xe ad de A s s.heap) (hS : va_S A s.heap H locs) (hA : ∀ q, s.heap.size ≤ q → A q) (isC kt : List Nat) (hC : isC.map (fun i => ws[i]?) = wc.map some) (hn : va_nd isC = true) (ht : kt.filterMap (fun i => tys[i]?) = tc)
    (hsize : ls.size = nL) (hstack : st0 = As.reverse ++ rest) (hW : (rest.map fun v => v.category).sum ≤ 8) (hdg : decode cc pc = .ok (.invokestatic index, 3)) (hf : cells + mc ≤ R.cells ∧ slots + ms ≤ R.slots) :
    va_Run p l e R s m args below meth c H locs cells slots mc ms (F0 m pc ls st0) rest (Qc As.toArray) free :=
  va_runS (Ts := tt) (own := own) (As := As) (rest := rest) S hM ⟨xcB As.length S.2.2.2.2 m5 m4 m1 hrc hrs hd hR, S.2.2.2.2 _ m2⟩ ⟨xp_blind, xp_call (hP.sub isC (xfm hC)) (hK.sub kt ht) (hD.sub isC hn hC) hE hS (va_free hD hS hA isC hC)⟩ rfl rfl hsize hstack (lv_room hW) hdg hf
/-- a virtual call that throws -/
theorem xrT {Qc : Array Value → State → Addr → State → Prop} (S : CallFix p m c cc nL s args tt own) (hM : xc_Met l y (tw y bytes maxL ret) rm (va_Pc (.ref b :: As) (xp ad de D wc tc H.size)) Qc mc ms free)
    (m5 : Cond.code y bytes maxL ret ∈ tt) (m4 : Cond.initialized y.cls ∈ tt) (m1 : Cond.methodLink own index y ∈ tt) (m2 : Cond.instanceMethod y ∈ tt) (m3 : Cond.selects y.cls y y ∈ tt)
    (hrc : rm.cells = mc) (hrs : rm.slots = ms) (hd : y.cls ≠ "java/lang/invoke/MethodHandle" ∧ y.cls ≠ "java/lang/invoke/VarHandle" ∧ (parseMethodDescriptor y.desc).map (fun d => d.parameters.length) = some As.length) (hR : rm.frames + 1 ≤ R.frames ∧ 8 + (maxL + 11) + rm.locals ≤ R.locals)
    (hP : va_P D cl ws H) (hK : va_K D cl tys s) (hD : va_D A ws) (hE : xe ad de A s s.heap) (hS : va_S A s.heap H locs) (hA : ∀ q, s.heap.size ≤ q → A q) (isC kt : List Nat) (hC : isC.map (fun i => ws[i]?) = wc.map some) (hn : va_nd isC = true) (ht : kt.filterMap (fun i => tys[i]?) = tc)
    (hrv : ∃ (q0 ci : Nat) (q : vw_C) (fs : List Value), cl[ci]? = some q ∧ ws[q0]? = some (b, .inr (ci, fs)) ∧ q.1 = y.cls)
    (hsize : ls.size = nL) (hstack : st0 = As.reverse ++ .ref b :: rest) (hW : (rest.map fun v => v.category).sum ≤ 8) (hdg : decode cc pc = .ok (.invokevirtual index, 3)) (hf : cells + mc ≤ R.cells ∧ slots + ms ≤ R.slots) :
    xc_Run p l e R s m args below meth c H locs cells slots mc ms (F0 m pc ls st0) rest (Qc (Value.ref b :: As).toArray) free := by
  obtain ⟨q0, ci, q, fs, h1, h2, h3⟩ := hrv
  refine xc_runV (Ts := tt) (own := own) (C := y.cls) (As := As) (rest := rest) S hM ⟨xcB As.length S.2.2.2.2 m5 m4 m1 hrc hrs hd hR, S.2.2.2.2 _ m2, S.2.2.2.2 _ m3⟩ ⟨xp_blind, ?_, xp_call (hP.sub isC (xfm hC)) (hK.sub kt ht) (hD.sub isC hn hC) hE hS (va_free hD hS hA isC hC)⟩ rfl rfl hsize hstack (lv_room hW) hdg hf
  have hv := va_recv hK hP h1 h2
  rw [h3] at hv
  exact hv
variable {wr : va_W} {a : Array Value}
/-- behind a call: an int -/
theorem xki {S : Type} {post : Int32 → S → Prop} {w1 : S → va_W} {t1 : S → List (ClassId × FieldType)} (hr : va_Run p l e R s m args below meth c H locs cells slots mc ms (F0 m pc ls st0) rest (va_Qi post (fun u t => xq D (va_A wc H.size) (w1 u) (t1 u) t) (va_A wc H.size) a) (va_A wc H.size))
    (hP : va_P D cl ws H) (hK : va_K D cl tys s) (hD : va_D A ws) (hS : va_S A s.heap H locs) (hA : ∀ q, s.heap.size ≤ q → A q) (isC isR : List Nat) (hC : isC.map (fun i => ws[i]?) = wc.map some) (hR : isR.map (fun i => ws[i]?) = wr.map some) (hn : va_nd isR = true) (hdis : ∀ i ∈ isR, i ∉ isC)
    (kk : ∀ (r : Int32) (u : S) (H1 : Heap) (locs1 : List Loc), post r u → va_P D cl (wr ++ w1 u) H1 → va_K D cl (tys ++ t1 u) s → va_D A (wr ++ w1 u) → va_S A s.heap H1 locs1 → W p l e R s m args below meth c H1 locs1 (cells + mc) (slots + ms) Q (F0 m (pc + 3) ls (.int r :: rest))) :
    W p l e R s m args below meth c H locs cells slots Q (F0 m pc ls st0) := by
  have hFc := va_free hD hS hA isC hC
  refine va_calli hr hS (fun q _ h => hFc q h) hFc (fun r u t H1 locs1 ht hvm hw hB hz1 hk1 hS1 => ?_)
  obtain ⟨hP1, hK1, hD1⟩ := hB
  rw [ht] at hP1
  obtain ⟨hP2, hD2⟩ := va_join hP hD isC isR hC hR hn hdis hk1 hFc hP1 hD1
  exact kk r u H1 locs1 hw hP2 (hK.app (va_K.moved hvm.symm hK1)) hD2 hS1
/-- nothing -/
theorem xkv {S : Type} {post : S → Prop} {w1 : S → va_W} {t1 : S → List (ClassId × FieldType)} (hr : va_Run p l e R s m args below meth c H locs cells slots mc ms (F0 m pc ls st0) rest (va_Qv post (fun u t => xq D (va_A wc H.size) (w1 u) (t1 u) t) (va_A wc H.size) a) (va_A wc H.size))
    (hP : va_P D cl ws H) (hK : va_K D cl tys s) (hD : va_D A ws) (hS : va_S A s.heap H locs) (hA : ∀ q, s.heap.size ≤ q → A q) (isC isR : List Nat) (hC : isC.map (fun i => ws[i]?) = wc.map some) (hR : isR.map (fun i => ws[i]?) = wr.map some) (hn : va_nd isR = true) (hdis : ∀ i ∈ isR, i ∉ isC)
    (kk : ∀ (u : S) (H1 : Heap) (locs1 : List Loc), post u → va_P D cl (wr ++ w1 u) H1 → va_K D cl (tys ++ t1 u) s → va_D A (wr ++ w1 u) → va_S A s.heap H1 locs1 → W p l e R s m args below meth c H1 locs1 (cells + mc) (slots + ms) Q (F0 m (pc + 3) ls rest)) :
    W p l e R s m args below meth c H locs cells slots Q (F0 m pc ls st0) := by
  have hFc := va_free hD hS hA isC hC
  refine va_callv hr hS (fun q _ h => hFc q h) hFc (fun u t H1 locs1 ht hvm hw hB hz1 hk1 hS1 => ?_)
  obtain ⟨hP1, hK1, hD1⟩ := hB
  rw [ht] at hP1
  obtain ⟨hP2, hD2⟩ := va_join hP hD isC isR hC hR hn hdis hk1 hFc hP1 hD1
  exact kk u H1 locs1 hw hP2 (hK.app (va_K.moved hvm.symm hK1)) hD2 hS1
/-- a long -/
theorem xkl {S : Type} {post : Int64 → S → Prop} {w1 : S → va_W} {t1 : S → List (ClassId × FieldType)} (hr : va_Run p l e R s m args below meth c H locs cells slots mc ms (F0 m pc ls st0) rest (va_Ql post (fun u t => xq D (va_A wc H.size) (w1 u) (t1 u) t) (va_A wc H.size) a) (va_A wc H.size))
    (hP : va_P D cl ws H) (hK : va_K D cl tys s) (hD : va_D A ws) (hS : va_S A s.heap H locs) (hA : ∀ q, s.heap.size ≤ q → A q) (isC isR : List Nat) (hC : isC.map (fun i => ws[i]?) = wc.map some) (hR : isR.map (fun i => ws[i]?) = wr.map some) (hn : va_nd isR = true) (hdis : ∀ i ∈ isR, i ∉ isC)
    (kk : ∀ (r : Int64) (u : S) (H1 : Heap) (locs1 : List Loc), post r u → va_P D cl (wr ++ w1 u) H1 → va_K D cl (tys ++ t1 u) s → va_D A (wr ++ w1 u) → va_S A s.heap H1 locs1 → W p l e R s m args below meth c H1 locs1 (cells + mc) (slots + ms) Q (F0 m (pc + 3) ls (.long r :: rest))) :
    W p l e R s m args below meth c H locs cells slots Q (F0 m pc ls st0) := by
  have hFc := va_free hD hS hA isC hC
  refine va_calll hr hS (fun q _ h => hFc q h) hFc (fun r u t H1 locs1 ht hvm hw hB hz1 hk1 hS1 => ?_)
  obtain ⟨hP1, hK1, hD1⟩ := hB
  rw [ht] at hP1
  obtain ⟨hP2, hD2⟩ := va_join hP hD isC isR hC hR hn hdis hk1 hFc hP1 hD1
  exact kk r u H1 locs1 hw hP2 (hK.app (va_K.moved hvm.symm hK1)) hD2 hS1
/-- a throw that passes -/
theorem xkp {S : Type} {C : String} {post : S → Prop} {w1 : S → va_W} {t1 : S → List (ClassId × FieldType)} {Qc : Array Value → State → Addr → State → Prop} {free' : Addr → Prop} (hr : xc_Run p l e R s m args below meth c H locs cells slots mc ms (F0 m pc ls st0) rest (xc_Q C post (fun u t => xq D (va_A wc H.size) (w1 u) (t1 u) t) (va_A wc H.size) a) (va_A wc H.size))
    (hP : va_P D cl ws H) (hK : va_K D cl tys s) (hD : va_D A ws) (hS : va_S A s.heap H locs) (hA : ∀ q, s.heap.size ≤ q → A q) (isC isR : List Nat) (hC : isC.map (fun i => ws[i]?) = wc.map some) (hR : isR.map (fun i => ws[i]?) = wr.map some) (hn : va_nd isR = true) (hdis : ∀ i ∈ isR, i ∉ isC)
    (hout : ∀ x ∈ c.exceptionTable.toList, ∀ pc, covers x pc = false) (hlocks : meth.locks = false)
    (kk : ∀ (u : S) (x : Nat) (H1 : Heap) (locs1 : List Loc), xc_Ob C x s H1 → post u → va_P D cl (wr ++ w1 u) H1 → va_K D cl (tys ++ t1 u) s → va_D A (wr ++ w1 u) → va_S A s.heap H1 locs1 → (∀ q ∈ locs1, free' q.base) ∧ ∀ t2 : State, t2.heap = H1 → s.WarmedH t2.vm → Qc args s x t2) :
    W p l e R s m args below meth c H locs cells slots (xc_MQ below Qc args s (cells + mc) (slots + ms) free') (F0 m pc ls st0) := by
  have hFc := va_free hD hS hA isC hC
  refine xc_callPass hr hS (fun q _ h => hFc q h) hFc (fun x hx => hout x hx pc) hlocks (fun u x t H1 locs1 ht hvm hob hw hB hz1 hk1 hS1 => ?_)
  obtain ⟨hP1, hK1, hD1⟩ := hB
  rw [ht] at hP1
  obtain ⟨hP2, hD2⟩ := va_join hP hD isC isR hC hR hn hdis hk1 hFc hP1 hD1
  exact kk u x H1 locs1 hob hw hP2 (hK.app (va_K.moved hvm.symm hK1)) hD2 hS1
/-- a throw that is caught -/
theorem xkc {S : Type} {C : String} {post : S → Prop} {w1 : S → va_W} {t1 : S → List (ClassId × FieldType)} (hr : xc_Run p l e R s m args below meth c H locs cells slots mc ms (F0 m pc ls st0) rest (xc_Q C post (fun u t => xq D (va_A wc H.size) (w1 u) (t1 u) t) (va_A wc H.size) a) (va_A wc H.size))
    (hP : va_P D cl ws H) (hK : va_K D cl tys s) (hD : va_D A ws) (hS : va_S A s.heap H locs) (hA : ∀ q, s.heap.size ≤ q → A q) (isC isR : List Nat) (hC : isC.map (fun i => ws[i]?) = wc.map some) (hR : isR.map (fun i => ws[i]?) = wr.map some) (hn : va_nd isR = true) (hdis : ∀ i ∈ isR, i ∉ isC)
    (hown : s.vm.findClass own = some m.cls) {sp ep hpc ct : Nat} {more : List ExceptionTableEntry} (htab : c.exceptionTable.toList = ⟨sp, ep, hpc, ct⟩ :: more) (hcov : sp ≤ pc ∧ pc < ep) (hct : ct ≠ 0) (hcl : (Cond.classLink own ct C).before args s = true)
    (kk : ∀ (u : S) (x : Nat) (H1 : Heap) (locs1 : List Loc), xc_Ob C x s H1 → post u → va_P D cl (wr ++ w1 u) H1 → va_K D cl (tys ++ t1 u) s → va_D A (wr ++ w1 u) → va_S A s.heap H1 locs1 → W p l e R s m args below meth c H1 locs1 (cells + mc) (slots + ms) Q (F0 m hpc ls [.ref x])) :
    W p l e R s m args below meth c H locs cells slots Q (F0 m pc ls st0) := by
  have hFc := va_free hD hS hA isC hC
  refine xc_callCatch hr hS (fun q _ h => hFc q h) hFc hown htab hcov hct hcl (fun u x t H1 locs1 ht hvm hob hw hB hz1 hk1 hS1 => ?_)
  obtain ⟨hP1, hK1, hD1⟩ := hB
  rw [ht] at hP1
  obtain ⟨hP2, hD2⟩ := va_join hP hD isC isR hC hR hn hdis hk1 hFc hP1 hD1
  exact kk u x H1 locs1 hob hw hP2 (hK.app (va_K.moved hvm.symm hK1)) hD2 hS1
end XRUN
