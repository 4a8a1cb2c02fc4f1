/-! small rows: a computed top by its number; how a throwing method ends; empty objects -/
section XS5
variable {p : Program} {l : Launch} {e : Env} {R : Room} {s : State} {m : MethodId} {args : Array Value} {below : List Frame} {meth : Method} {c : Code} {H : Heap} {locs : List Loc} {cells slots : Nat} {Q : State → Prop} {pc : Nat} {ls : Array Slot} {rest : List Value}
theorem xtopi {x v : Int32} (h : x = v) (k : W p l e R s m args below meth c H locs cells slots Q (F0 m pc ls (.int v :: rest))) : W p l e R s m args below meth c H locs cells slots Q (F0 m pc ls (.int x :: rest)) := by
  subst h; exact k
theorem xtopl {x v : Int64} (h : x = v) (k : W p l e R s m args below meth c H locs cells slots Q (F0 m pc ls (.long v :: rest))) : W p l e R s m args below meth c H locs cells slots Q (F0 m pc ls (.long x :: rest)) := by
  subst h; exact k
end XS5
abbrev xfa (fs : List Value) (k : Nat) (v : Value) : Prop := fs[k]? = some v
theorem xg_ne {fs : List Value} {k j : Nat} {v w : Value} (h : k ≠ j) (hf : fs[j]? = some w) : (fs.set k v)[j]? = some w := by rw [List.getElem?_set_ne h]; exact hf
theorem xg_eq {fs : List Value} {k : Nat} {v : Value} (h : k < fs.length) : (fs.set k v)[k]? = some v := by rw [List.getElem?_set_self h]
theorem xc_fin {C : String} {D : va_G} {A : Nat → Prop} {ws : va_W} {tys : List (ClassId × FieldType)} {s t : State} {H : Heap} {locs : List Loc} {x : Nat} {a : Array Value} (hP : va_P D cl ws H) (hK : va_K D cl tys s) (hD : va_D A ws) (hS : va_S A s.heap H locs) (hz : H.size ≤ t.heap.size) (hk : ∀ q : Nat, q < H.size → t.heap[q]? = H[q]?) (hob : xc_Ob C x t t.heap) (hW : s.WarmedH t.vm) :
    xc_Q C (fun (_ : Unit) => True) (fun (_ : Unit) t => xq D A ws tys t) A a s x t :=
  ⟨⟨(), hob, trivial, hP.kept (fun k q hq => hk q.1 ((hP k q hq).lt)), va_K.moved hW.alike hK, hD⟩, Nat.le_trans hS.1 hz, fun q h1 h2 => (hk q (Nat.lt_of_lt_of_le h1 hS.1)).trans (hS.2.1 q h1 h2)⟩
theorem xc_fin2 {C : String} {D : va_G} {A : Nat → Prop} {ws : va_W} {tys : List (ClassId × FieldType)} {s t : State} {H : Heap} {locs : List Loc} {x : Nat} {a : Array Value} (hP : va_P D cl ws H) (hK : va_K D cl tys s) (hD : va_D A ws) (hS : va_S A s.heap H locs) (ht : t.heap = H) (hob : xc_Ob C x s H) (hW : s.WarmedH t.vm) :
    xc_Q C (fun (_ : Unit) => True) (fun (_ : Unit) t => xq D A ws tys t) A a s x t := by
  obtain ⟨cell, o1, o2, o3⟩ := hob
  exact ⟨⟨(), ⟨cell, by rw [ht]; exact o1, o2, by rw [hW.alike.findClass]; exact o3⟩, trivial, by rw [ht]; exact hP, va_K.moved hW.alike hK, hD⟩, hS.F ht⟩
def ex_up : List String := ["java/lang/RuntimeException", "java/lang/Exception"]
section XRUNH
variable {p : Program} {l : Launch} {e : Env} {R : Room} {s : State} {m : MethodId} {args : Array Value} {below : List Frame} {meth : Method} {c : Code} {H : Heap} {locs : List Loc} {cells slots : Nat} {Q : State → Prop}
variable {y : MethodName} {bytes cc : ByteArray} {maxL nL mc ms n index pc : Nat} {ret : Option FieldType} {rm : Room} {own : String} {b : Addr} {As rest st0 : List Value} {ls : Array Slot} {ad : Nat → Nat} {de : Nat} {D : va_G} {ws wc : va_W} {tys tc : List (ClassId × FieldType)} {A : Nat → Prop} {free : Addr → Prop} {hh : List (Nat × Nat × Nat × Nat)}
/-- a static method with an exception table -/
theorem xrSH {Qc : Array Value → State → Outcome → State → Prop} (S : CallFix p m c cc nL s args tt own) (hM : Met l y (.codeWith y bytes maxL ret hh :: tt) rm (va_Pc As (xp ad de D wc tc H.size)) Qc mc ms free)
    (m5 : Cond.codeWith y bytes maxL ret hh ∈ tt) (m4 : Cond.initialized y.cls ∈ tt) (m1 : Cond.methodLink own index y ∈ tt) (m2 : Cond.static y ∈ tt)
    (hrc : rm.cells = mc) (hrs : rm.slots = ms) (hd : y.cls ≠ "java/lang/invoke/MethodHandle" ∧ y.cls ≠ "java/lang/invoke/VarHandle" ∧ (parseMethodDescriptor y.desc).map (fun d => d.parameters.length) = some As.length) (hR : rm.frames + 1 ≤ R.frames ∧ 8 + (maxL + 11) + rm.locals ≤ R.locals)
    (hP : va_P D cl ws H) (hK : va_K D cl tys s) (hD : va_D A ws) (hE : xe ad de A s s.heap) (hS : va_S A s.heap H locs) (hA : ∀ q, s.heap.size ≤ q → A q) (isC kt : List Nat) (hC : isC.map (fun i => ws[i]?) = wc.map some) (hn : va_nd isC = true) (ht : kt.filterMap (fun i => tys[i]?) = tc)
    (hsize : ls.size = nL) (hstack : st0 = As.reverse ++ rest) (hW : (rest.map fun v => v.category).sum ≤ 8) (hdg : decode cc pc = .ok (.invokestatic index, 3)) (hf : cells + mc ≤ R.cells ∧ slots + ms ≤ R.slots) :
    va_Run p l e R s m args below meth c H locs cells slots mc ms (F0 m pc ls st0) rest (Qc As.toArray) free := by
  obtain ⟨hx, hb, hml, ho, hts⟩ := S
  have hB : Back l R p e below s args y 3 8 (PreOf R mc ms (va_Pc As (xp ad de D wc tc H.size))) (PostOf Qc mc ms free) :=
    va_backW (hh := hh) (bytes := bytes) (maxL := maxL) (ret := ret) hM xp_blind hrc hrs hR.1 hR.2 (pay_in hts (tw_goodT m5)) List.mem_cons_self (fun a' U hW => word_at hW (good_of_word (tt_good _ m4)) (hts _ m4))
  obtain ⟨mk, methM, cM, hnamed, hmethM, -, -, -, -, -, -, hsigM⟩ := Cond.codeWith_spec (hts _ m5)
  have hstatic : methM.isStatic = true := Cond.static_spec hnamed hmethM (hts _ m2)
  obtain ⟨kP, hkP, -⟩ := className_of_methodNamed hnamed
  have hinitP : kP.init = .initialized := Cond.initialized_spec (findClass_of_methodNamed hnamed) hkP (hts _ m4)
  have hlen : As.length = methM.sig.parameters.length := by
    have h2 := hd.2.2
    rw [hsigM] at h2
    exact (Option.some.inj h2).symm
  intro T hT X
  obtain ⟨vm₁, X₁, hstep₁⟩ := X.invokestatic hx ho (hts _ m1) hnamed hmethM hstatic hkP hinitP ⟨hd.1, hd.2.1⟩ (g := F0 m pc ls st0) rfl (argsL := As) (rest := rest) hlen hstack (by rw [hb]; exact hdg)
  obtain ⟨v, ⟨U', l2, c2, s2⟩, X', ⟨g', mk', t, L, e1, e2, hq, h1, hL, h2, h3⟩, hsteps⟩ := hB m meth c ⟨T.setVm vm₁, locs, cells, slots⟩ (F0 m pc ls rest) (.invokestatic index) mk As.toArray X₁ rfl (hsize.trans hml.symm) (by rw [hb]; exact hdg) (lv_room hW) (X₁.named hnamed)
    ⟨hf.1, hf.2, xp_call (hP.sub isC (xfm hC)) (hK.sub kt ht) (hD.sub isC hn hC) hE hS (va_free hD hS hA isC hC) (T.setVm vm₁) hT X₁.warmed⟩
  dsimp only [Pt.U, Pt.locs, Pt.cells, Pt.slots] at X' e1 e2 h1 h2 h3 hsteps
  subst h1; subst h2; subst h3
  exact ⟨v, (T.setVm vm₁).calling g' mk' As.toArray, t, U', L, hT, X', hL, e1, e2, hq, fun target h => hstep₁ _ fun acts => by rw [doInvoke_state]; exact hsteps.trans h⟩
/-- a virtual method with an exception table -/
theorem xrVH {Qc : Array Value → State → Outcome → State → Prop} (S : CallFix p m c cc nL s args tt own) (hM : Met l y (.codeWith y bytes maxL ret hh :: tt) rm (va_Pc (.ref b :: As) (xp ad de D wc tc H.size)) Qc mc ms free)
    (m5 : Cond.codeWith y bytes maxL ret hh ∈ tt) (m4 : Cond.initialized y.cls ∈ tt) (m1 : Cond.methodLink own index y ∈ tt) (m2 : Cond.instanceMethod y ∈ tt) (m3 : Cond.selects y.cls y y ∈ tt)
    (hrc : rm.cells = mc) (hrs : rm.slots = ms) (hd : y.cls ≠ "java/lang/invoke/MethodHandle" ∧ y.cls ≠ "java/lang/invoke/VarHandle" ∧ (parseMethodDescriptor y.desc).map (fun d => d.parameters.length) = some As.length) (hR : rm.frames + 1 ≤ R.frames ∧ 8 + (maxL + 11) + rm.locals ≤ R.locals)
    (hP : va_P D cl ws H) (hK : va_K D cl tys s) (hD : va_D A ws) (hE : xe ad de A s s.heap) (hS : va_S A s.heap H locs) (hA : ∀ q, s.heap.size ≤ q → A q) (isC kt : List Nat) (hC : isC.map (fun i => ws[i]?) = wc.map some) (hn : va_nd isC = true) (ht : kt.filterMap (fun i => tys[i]?) = tc)
    (hrv : ∃ (q0 ci : Nat) (q : vw_C) (fs : List Value), cl[ci]? = some q ∧ ws[q0]? = some (b, .inr (ci, fs)) ∧ q.1 = y.cls)
    (hsize : ls.size = nL) (hstack : st0 = As.reverse ++ .ref b :: rest) (hW : (rest.map fun v => v.category).sum ≤ 8) (hdg : decode cc pc = .ok (.invokevirtual index, 3)) (hf : cells + mc ≤ R.cells ∧ slots + ms ≤ R.slots) :
    va_Run p l e R s m args below meth c H locs cells slots mc ms (F0 m pc ls st0) rest (Qc (Value.ref b :: As).toArray) free := by
  obtain ⟨hx, hb, hml, ho, hts⟩ := S
  have hB : Back l R p e below s args y 3 8 (PreOf R mc ms (va_Pc (.ref b :: As) (xp ad de D wc tc H.size))) (PostOf Qc mc ms free) :=
    va_backW (hh := hh) (bytes := bytes) (maxL := maxL) (ret := ret) hM xp_blind hrc hrs hR.1 hR.2 (pay_in hts (tw_goodT m5)) List.mem_cons_self (fun a' U hW => word_at hW (good_of_word (tt_good _ m4)) (hts _ m4))
  obtain ⟨mk, methM, cM, hnamed, hmethM, -, -, -, -, -, -, hsigM⟩ := Cond.codeWith_spec (hts _ m5)
  obtain ⟨mk2, methM2, hnamed2, hmethM2, hstM, habM⟩ := Cond.instanceMethod_spec (hts _ m2)
  cases hnamed.symm.trans hnamed2
  cases hmethM.symm.trans hmethM2
  have hlen : As.length = methM.sig.parameters.length := by
    have h2 := hd.2.2
    rw [hsigM] at h2
    exact (Option.some.inj h2).symm
  obtain ⟨q0, ci, q, fs, g1, g2, g3⟩ := hrv
  have hv := va_recv hK hP g1 g2
  rw [g3] at hv
  obtain ⟨cellB, hcB, hoB, hclB⟩ := hv
  obtain ⟨c2, r2, m2', z1, z2, z3, z4, kP, hkP, hkPi⟩ := Cond.selects_spec (hts _ m3)
  cases hclB.symm.trans z1
  cases (State.methodFound?_of_named hnamed ⟨hd.1, hd.2.1⟩).symm.trans z2
  cases hnamed.symm.trans z3
  intro T hT X
  have hselP : selectMethod e.platform s.vm cellB.cls mk = .method mk := by rw [Launch.admits_selectMethod X.admits]; exact z4
  obtain ⟨vm₁, X₁, hstep₁⟩ := X.invokevirtual hx ho (hts _ m1) hnamed hmethM hstM hkP hkPi ⟨hd.1, hd.2.1⟩ (a := b) (cell := cellB) (by rw [hT]; exact hcB)
    (fun z h => by rw [h] at hoB; cases hoB) hselP hmethM habM hkP hkPi (g := F0 m pc ls st0) rfl (argsL := As) (rest := rest) hlen hstack (by rw [hb]; exact hdg)
  obtain ⟨v, ⟨U', l2, c2', s2⟩, X', ⟨g', mk', t, L, e1, e2, hq, h1, hL, h2, h3⟩, hsteps⟩ := hB m meth c ⟨T.setVm vm₁, locs, cells, slots⟩ (F0 m pc ls rest) (.invokevirtual index) mk (Value.ref b :: As).toArray X₁ rfl (hsize.trans hml.symm) (by rw [hb]; exact hdg) (lv_room hW) (X₁.named hnamed)
    ⟨hf.1, hf.2, xp_call (hP.sub isC (xfm hC)) (hK.sub kt ht) (hD.sub isC hn hC) hE hS (va_free hD hS hA isC hC) (T.setVm vm₁) hT X₁.warmed⟩
  dsimp only [Pt.U, Pt.locs, Pt.cells, Pt.slots] at X' e1 e2 h1 h2 h3 hsteps
  subst h1; subst h2; subst h3
  exact ⟨v, (T.setVm vm₁).calling g' mk' (Value.ref b :: As).toArray, t, U', L, hT, X', hL, e1, e2, hq, fun target h => hstep₁ _ fun acts => by rw [doInvoke_state]; exact hsteps.trans h⟩
end XRUNH
