/-! EXCEPTIONS: a method that throws, by contract; a throw of a new object; a caller that lets it pass, or catches it -/
/-- what a method leaves, whichever way it ends -/
def xc_End (first t : State) (L : List Loc) (k n : Nat) : Prop := first.WarmedH t.vm ∧ first.sameButNew ({ t with vm := first.vm } : State) L k n
/-- the contract of a method that throws -/
def xc_Met (l : Launch) (y : MethodName) (ws : List Cond) (rm : Room) (Pc : Array Value → State → Prop) (Qc : Array Value → State → Addr → State → Prop) (mc ms : Nat) (free : Addr → Prop) : Prop :=
  MetFree l y (headSpec ws rm) Pc (fun _ _ _ _ _ => True) (fun a st o t => ∃ x, o = .threw x ∧ Qc a st x t ∧ ∃ L, xc_End st t L mc ms ∧ ∀ q ∈ L, free q.base)
def xc_MQ (below : List Frame) (Qc : Array Value → State → Addr → State → Prop) (a : Array Value) (s : State) (mc ms : Nat) (free : Addr → Prop) : State → Prop := fun t =>
  ∃ x, t.status = .running ∧ Ended t below (.threw x) ∧ Qc a s x t ∧ ∃ L, xc_End s t L mc ms ∧ ∀ q ∈ L, free q.base
/-- an object of class C stands at x -/
def xc_Ob (C : String) (x : Nat) (U : State) (H : Heap) : Prop := ∃ cell : Cell, H[x]? = some cell ∧ cell.vm = .none ∧ U.vm.findClass C = some cell.cls
/-- how a throwing method ends: a new object of class C, and the world behind it -/
def xc_Q {S : Type} (C : String) (post : S → Prop) (B : S → State → Prop) (A : Nat → Prop) : Array Value → State → Addr → State → Prop := fun _ st x t => (∃ u : S, xc_Ob C x t t.heap ∧ post u ∧ B u t) ∧ va_F A st t
theorem xc_ofW {l : Launch} {y : MethodName} {ws ws' : List Cond} {rm : Room} {Pc : Array Value → State → Prop} {Qc : Array Value → State → Addr → State → Prop} {mc ms : Nat} {free : Addr → Prop} {cc : ByteArray} {maxL : Nat} {ret : Option FieldType}
    (hy : plainName y.cls = true) (hw : ws = Cond.code y cc maxL ret :: ws')
    (body : ∀ p e s m args below meth c s₁, BodyLoose p l y (headSpec ws rm) cc maxL ret e s m args below meth c s₁ → c.maxLocals = maxL → c.exceptionTable.toList = [] → Pc args s →
      W p l e (headSpec ws rm).room s m args below meth c s.heap [] 0 0 (xc_MQ below Qc args s mc ms free) (entryFrame m args maxL)) : xc_Met l y ws rm Pc Qc mc ms free := by
  have hin : ∀ (args : Array Value) (s : State), (headSpec ws rm).pre.before args s = true → (Cond.code y cc maxL ret).before args s = true := fun args s h => atoms_spec (ws := ws) h _ (by rw [hw]; exact List.mem_cons_self)
  refine MetFree.of_bodyS (code := cc) (maxLocals := maxL) (ret := ret) hy ?_ ?_
  · intro args s m h hn
    obtain ⟨meth, c, h1, h2, h3, h4, h5, h6, -, -⟩ := Cond.code_spec hn (hin args s h)
    exact ⟨meth, c, h1, h2, h3, h4, h5, h6⟩
  · intro p e s m args below meth c s₁ B hml hP _
    have hh0 : s₁.heap = s.heap := by rw [B.state]; rfl
    have he := B.noHandlers (hin args s B.pre)
    have h0 : c.exceptionTable.size = 0 := by simpa [Array.isEmpty] using he
    have h1 : c.exceptionTable.toList = [] := List.eq_nil_of_length_eq_zero (by simpa using h0)
    obtain ⟨t, a1, x, b1, b2, b3⟩ := body p e s m args below meth c s₁ B hml h1 hP s₁ hh0 (Stand.of_body B)
    exact ⟨t, .threw x, a1, b1, b2, ⟨x, rfl, b3⟩⟩
section XCR
variable {p : Program} {l : Launch} {e : Env} {R : Room} {s : State} {m : MethodId} {args : Array Value} {below : List Frame} {meth : Method} {c : Code} {T : State} {locs : List Loc} {cells slots : Nat}
/-- a walk begun anew where it stands: what was done so far is the past -/
theorem xc_restart (X : Stand p l e R s m args below meth c T locs cells slots) {R' : Room} (hf : R'.frames ≤ R.frames) (hl : R'.locals ≤ R.locals) (hc : cells + R'.cells ≤ R.cells) (hs : slots + R'.slots ≤ R.slots) :
    Stand p l e R' (T.setFrames (.invoking m args :: below)) m args below meth c T [] 0 0 := by
  obtain ⟨g₀, hfr⟩ := X.frames_eq
  have hcur : T.cur < T.threads.size := State.cur_lt_of_frames hfr
  have hF : (T.setFrames (.invoking m args :: below)).frames = .invoking m args :: below := State.frames_setFrames _ hcur
  have hm' : T.vm.method? m = some meth := X.method'
  refine ⟨X.admits, X.cas, X.clock, hF, ?_, ?_, hm', X.code, X.here, X.tail, State.WarmedH.refl _, (State.stackLimits_setFrames _ _ _).symm, (State.stackBytes_setFrames _ _).symm, ?_⟩
  · obtain ⟨r1, r2, r3, r4⟩ := State.hasRoom_stack X.room
    have r5 := State.hasRoom_real X.room
    have h := X.room
    simp only [State.hasRoom, Bool.and_eq_true, decide_eq_true_eq] at h
    rw [State.localsInUse_invoking X.frames X.method X.code] at r3 r4 r5
    rw [X.frames, List.length_cons] at r1 r2
    have hU : (T.setFrames (.invoking m args :: below)).localsInUse = stackWeight below + vmFrameWords + (c.maxLocals + 11) := State.localsInUse_invoking hF (meth := meth) hm' X.code
    have hh := X.heapSize
    have hu := X.used
    simp only [State.hasRoom, Bool.and_eq_true, decide_eq_true_eq, hF, hU, List.length_cons, State.stackLimits_setFrames, State.stackBytes_setFrames, X.limits, X.bytes]
    refine ⟨⟨⟨⟨by omega, by omega, by omega, by omega, by omega, h.1.1.1.2.2.2.2.2⟩, ?_⟩, ?_⟩, X.book⟩
    · have := h.1.1.2
      show T.heap.size + R'.cells ≤ _
      omega
    · have := h.1.2
      show T.slotsUsed + R'.slots ≤ _
      omega
  · have hh := X.hears
    have hv : ∀ z, (T.setFrames (.invoking m args :: below)).vm.method? z = s.vm.method? z := fun z => by
      show T.vm.method? z = s.vm.method? z
      rw [X.warmed.alike.method?]
    rcases below with _ | ⟨y, r⟩
    · simpa only [State.hears, hv] using hh
    · cases y <;> simpa only [State.hears, State.code?_eq, hv] using hh
  · obtain ⟨t, ht, -⟩ := State.frames_cons hF
    have h := (State.sameButNew.refl (T.setFrames (.invoking m args :: below)) ht).setFrames T.frames (State.cur_lt_of_frames hF)
    have e1 : (T.setFrames (.invoking m args :: below)).setFrames T.frames = T := by
      obtain ⟨t2, ht2, -⟩ := State.frames_cons hfr
      rw [State.setFrames_setFrames, State.setFrames_self ht2]
    rw [e1] at h
    exact h
theorem xc_rejoin (X : Stand p l e R s m args below meth c T locs cells slots) {U : State} {k n : Nat} {fs : List Frame} (h : (T.setFrames fs).sameButNew ({ U with vm := (T.setFrames fs).vm } : State) [] k n) : s.sameButNew ({ U with vm := s.vm } : State) locs (cells + k) (slots + n) := by
  have h2 : ((T.setFrames fs).setVm s.vm).sameButNew (({ U with vm := (T.setFrames fs).vm } : State).setVm s.vm) [] k n := h.setVm s.vm
  have h3 : (T.setVm s.vm).sameButNew ({ U with vm := s.vm } : State) [] k n := by
    refine ⟨?_, h2.2⟩
    have h4 := h2.1
    have e1 : ((T.setFrames fs).setVm s.vm).setFrames (({ U with vm := (T.setFrames fs).vm } : State).setVm s.vm).frames = (T.setVm s.vm).setFrames (({ U with vm := s.vm } : State)).frames := by
      show ((T.setVm s.vm).setFrames fs).setFrames _ = _
      rw [State.setFrames_setFrames]
      rfl
    rw [e1] at h4
    exact h4
  have h5 := X.same.trans h3
  rw [List.append_nil] at h5
  exact h5
end XCR
section XCT
variable {p : Program} {l : Launch} {e : Env} {R : Room} {s : State} {m : MethodId} {args : Array Value} {below : List Frame} {meth : Method} {c : Code} {H : Heap} {locs : List Loc} {cells slots : Nat}
variable {cc : ByteArray} {pc : Nat} {ls : Array Slot} {rest : List Value} {A : Nat → Prop}
/-- a static's value, off its picture -/
theorem xc_Zev {C n d : String} {v : Value} {A : Nat → Prop} {U : State} (a : Array Value) (h : va_Z C n d v A U U.heap) : (Term.static C n d).eval a U none [] U = some v := by
  obtain ⟨cf, kf, fi, f, a, cell, h1, h2, h3, h4, h5, h6, h7, h8⟩ := h
  simp [Term.eval, State.fieldNamed?, h1, h2, h4, h5, h6, h7]
theorem xc_isRef {C n d : String} {v : Value} {A : Nat → Prop} {U : State} (a : Array Value) (h : va_Z C n d v A U U.heap) (hv : v.isRef = true) : (Cond.isRef (.static C n d)).before a U = true := by
  have h1 := xc_Zev a h
  cases v <;> simp [Cond.before, Cond.holds, Cond.value, h1, Value.isRef] at hv ⊢
/-- a static field as its class lays it -/
def xc_L (C n d : String) (A : Nat → Prop) (U : State) (H : Heap) : Prop := ∃ (c : ClassId) (k : Class) (i : Nat) (f : Field) (a : Nat) (cell : Cell), U.vm.findClass C = some c ∧ U.fieldFound? C n d = some (c, k, i, f) ∧ f.isStatic = true ∧ k.statics = some a ∧ H[a]? = some cell ∧ cell.vm.isStatics = true ∧ cell.cls = c ∧ f.slot < cell.slots.size ∧ k.staticTypes[f.slot]? = some f.type ∧ ¬ A a
theorem xc_L.moved {C n d : String} {A : Nat → Prop} {u U : State} {H : Heap} (hvm : u.vm.Alike U.vm) (h : xc_L C n d A u H) : xc_L C n d A U H := by
  obtain ⟨c, k, i, f, a, cell, h1, h2, h3, h4, h5, h6, h7, h8, h9, h10⟩ := h
  obtain ⟨k', hi', he⟩ := State.fieldFound?_setVm hvm h2
  exact ⟨c, k', i, f, a, cell, by rw [hvm.findClass]; exact h1, hi', h3, by rw [he]; exact h4, h5, h6, h7, h8, by rw [he]; exact h9, h10⟩
theorem xc_L.kept {C n d : String} {A : Nat → Prop} {U : State} {H H1 : Heap} (h : xc_L C n d A U H) (hq : ∀ a : Nat, a < H.size → ¬ A a → H1[a]? = H[a]?) : xc_L C n d A U H1 := by
  obtain ⟨c, k, i, f, a, cell, h1, h2, h3, h4, h5, h6, h7, h8, h9, h10⟩ := h
  exact ⟨c, k, i, f, a, cell, h1, h2, h3, h4, by rw [hq a (Array.getElem?_eq_some_iff.mp h5).1 h10]; exact h5, h6, h7, h8, h9, h10⟩
theorem xc_L.narrow {C n d : String} {A B : Nat → Prop} {U : State} {H : Heap} (h : xc_L C n d A U H) (hAB : ∀ q, B q → A q) : xc_L C n d B U H := by
  obtain ⟨c, k, i, f, a, cell, h1, h2, h3, h4, h5, h6, h7, h8, h9, h10⟩ := h
  exact ⟨c, k, i, f, a, cell, h1, h2, h3, h4, h5, h6, h7, h8, h9, fun z => h10 (hAB a z)⟩
theorem xc_L.word {C n d : String} {A : Nat → Prop} {U : State} (v : Array Value) (h : xc_L C n d A U U.heap) : (Cond.laysStatic C n d).before v U = true := by
  obtain ⟨c, k, i, f, a, cell, h1, h2, h3, h4, h5, h6, h7, h8, h9, h10⟩ := h
  exact Cond.laysStatic_of h1 h2 h3 h4 h5 h6 h7 h8 h9
theorem xc_L.of {C n d : String} {A : Nat → Prop} {U : State} {v : Array Value} (h : (Cond.laysStatic C n d).before v U = true) (hA : ∀ a : Nat, a < U.heap.size → ¬ A a) : xc_L C n d A U U.heap := by
  obtain ⟨c, k, i, f, a, cell, h1, h2, h3, h4, h5, h6, h7, h8, h9⟩ := Cond.laysStatic_spec h
  exact ⟨c, k, i, f, a, cell, h1, h2, h3, h4, h5, h6, h7, h8, h9, hA a (Array.getElem?_eq_some_iff.mp h5).1⟩
/-- the two statics that Throwable's constructor reads -/
def xc_Zt (A : Nat → Prop) (U : State) (H : Heap) : Prop := ∃ v1 v2 : Value, v1.isRef = true ∧ v2.isRef = true ∧ va_Z Bundle.tN "UNASSIGNED_STACK" Bundle.steD v1 A U H ∧ va_Z Bundle.tN "SUPPRESSED_SENTINEL" Bundle.listD v2 A U H ∧ xc_L Bundle.tN "UNASSIGNED_STACK" Bundle.steD A U H ∧ xc_L Bundle.tN "SUPPRESSED_SENTINEL" Bundle.listD A U H
theorem xc_Zt.moved {A : Nat → Prop} {u U : State} {H : Heap} (hvm : u.vm.Alike U.vm) (h : xc_Zt A u H) : xc_Zt A U H := by
  obtain ⟨v1, v2, r1, r2, z1, z2, y1, y2⟩ := h
  exact ⟨v1, v2, r1, r2, z1.moved hvm, z2.moved hvm, y1.moved hvm, y2.moved hvm⟩
theorem xc_Zt.kept {A : Nat → Prop} {U : State} {H H1 : Heap} (h : xc_Zt A U H) (hq : ∀ a : Nat, a < H.size → ¬ A a → H1[a]? = H[a]?) : xc_Zt A U H1 := by
  obtain ⟨v1, v2, r1, r2, z1, z2, y1, y2⟩ := h
  exact ⟨v1, v2, r1, r2, z1.kept hq, z2.kept hq, y1.kept hq, y2.kept hq⟩
theorem xc_Zt.narrow {A B : Nat → Prop} {U : State} {H : Heap} (h : xc_Zt A U H) (hAB : ∀ q, B q → A q) : xc_Zt B U H := by
  obtain ⟨v1, v2, r1, r2, z1, z2, y1, y2⟩ := h
  exact ⟨v1, v2, r1, r2, z1.narrow hAB, z2.narrow hAB, y1.narrow hAB, y2.narrow hAB⟩
def xc_face : Cond → Bool
  | .declares _ => true
  | .castable _ _ => true
  | _ => false
def xc_tab (w : Cond) : Bool := (w.onTables && w.keeps) || xc_face w
theorem xc_at {a a' : Array Value} {s U : State} (hW : s.WarmedH U.vm) {w : Cond} (hw : xc_tab w = true) (h : w.before a s = true) : w.before a' U = true := by
  rcases (Bool.or_eq_true _ _).mp hw with h1 | h1
  · exact word_at hW (Or.inl h1) h
  · cases w <;> simp [xc_face] at h1
    · exact va_tabs rfl (rfl : (s.setVm U.vm).vm = U.vm) (by rw [Cond.declares_setVm hW.alike]; exact h)
    · exact va_tabs rfl (rfl : (s.setVm U.vm).vm = U.vm) (by rw [Cond.castable_setVm hW.alike]; exact h)
/-- the words of a throw of a new object that are words on the tables -/
def xc_ws (own : String) (ia ic : Nat) (cls : String) (names : List String) : List Cond := [.classLink own ia cls, .initialized cls] ++ (Bundle.ownAtoms0 own ic cls names).filter xc_tab
def xc_two (own : String) (ic : Nat) (cls : String) (names : List String) : Prop := ∀ w ∈ Bundle.ownAtoms0 own ic cls names, xc_tab w = true ∨ w = .isRef (.static Bundle.tN "UNASSIGNED_STACK" Bundle.steD) ∨ w = .isRef (.static Bundle.tN "SUPPRESSED_SENTINEL" Bundle.listD) ∨ w = .laysStatic Bundle.tN "UNASSIGNED_STACK" Bundle.steD ∨ w = .laysStatic Bundle.tN "SUPPRESSED_SENTINEL" Bundle.listD
set_option maxHeartbeats 4000000 in
/-- new X(); throw: out of the method -/
theorem xc_raise (hx : p.tables.exec = Jvm.exec) (hb : c.code = cc) (hlt : l.stackTraces = false) {own cls : String} {names : List String} {ia ic : Nat} (hown : s.vm.findClass own = some m.cls) (hcls : Bundle.fit cls = true) (hnames : ∀ n ∈ names, Bundle.fit n = true)
    (hat : ∀ w ∈ xc_ws own ia ic cls names, w.before args s = true) (htwo : xc_two own ic cls names) (hZ : xc_Zt A s H) (hsize : ls.size = c.maxLocals)
    (hd0 : decode cc pc = .ok (.new ia, 3)) (hd3 : decode cc (pc + 3) = .ok (.dup, 1)) (hd4 : decode cc (pc + 4) = .ok (.invokespecial ic, 3)) (hd7 : decode cc (pc + 7) = .ok (.athrow, 1))
    (hout : ∀ x ∈ c.exceptionTable.toList, covers x (pc + 7) = false) (hcells : cells + 1 ≤ R.cells) (hslots : slots + 6 ≤ R.slots) (hfr : names.length + 3 < R.frames)
    (hlo : ((Value.ref H.size :: rest).map fun v => v.category).sum + (13 * (names.length + 1) + 41) ≤ R.locals) {Qc : Array Value → State → Addr → State → Prop} {free : Addr → Prop} (hf : ∀ q ∈ locs, free q.base)
    (hq : ∀ t : State, H.size ≤ t.heap.size → (∀ q : Nat, q < H.size → t.heap[q]? = H[q]?) → xc_Ob cls H.size t t.heap → s.WarmedH t.vm → Qc args s H.size t)
    (hlocks : meth.locks = false) :
    W p l e R s m args below meth c H locs cells slots (xc_MQ below Qc args s (cells + 1) (slots + 6) free) (F0 m pc ls rest) := by
  intro T hT X
  subst hT
  subst hb
  have htr : e.platform.stackTraces = false := by
    have h : e.platform.stackTraces = l.stackTraces := by rw [X.admits.platform]
    rw [h]; exact hlt
  have X0 := xc_restart X (R' := { frames := R.frames, cells := R.cells - cells, slots := R.slots - slots, locals := R.locals }) (Nat.le_refl _) (Nat.le_refl _) (by show cells + (R.cells - cells) ≤ R.cells; omega) (by show slots + (R.slots - slots) ≤ R.slots; omega)
  obtain ⟨s', hs'⟩ : ∃ z, z = T.setFrames (.invoking m args :: below) := ⟨_, rfl⟩
  have hvm' : s'.vm = T.vm := by rw [hs']; rfl
  have hh' : s'.heap = T.heap := by rw [hs']; rfl
  have hW' : s.WarmedH s'.vm := by rw [hvm']; exact X.warmed
  have hZ' : xc_Zt A s' s'.heap := by rw [hh']; exact hZ.moved (by rw [hvm']; exact X.warmed.alike)
  have hw : ∀ w, xc_tab w = true → w.before args s = true → w.before args s' = true := fun w h1 h2 => xc_at hW' h1 h2
  have hown' : s'.vm.findClass own = some m.cls := by rw [hvm', X.warmed.alike.findClass]; exact hown
  have hall : ∀ w ∈ Bundle.ownAtoms0 own ic cls names, w.before args s' = true := by
    intro w h
    obtain ⟨v1, v2, r1, r2, z1, z2, y1, y2⟩ := hZ'
    rcases htwo w h with h1 | rfl | rfl | rfl | rfl
    · exact hw w h1 (hat w (List.mem_append_right _ (List.mem_filter.mpr ⟨h, h1⟩)))
    · exact xc_isRef args z1 r1
    · exact xc_isRef args z2 r2
    · exact y1.word args
    · exact y2.word args
  rw [← hs'] at X0
  obtain ⟨vm₁, cX, kX, hfX, hkX, -, -, X₁, st1⟩ := X0.newCold hx (own := own) (C := cls) (index := ia) (n := 6) hown' (hw _ rfl (hat _ (List.mem_append_left _ (by simp)))) (hall (.instantiable cls 6) (by simp [Bundle.ownAtoms0])) (hw _ rfl (hat _ (List.mem_append_left _ (by simp))))
    (g := F0 m pc ls rest) rfl hd0 (by show 0 + 1 ≤ R.cells - cells; omega) (by show 0 + 6 ≤ R.slots - slots; omega)
  generalize hU : (T.setVm vm₁).pushCell { cls := cX, slots := kX.instanceTypes.map defaultValue, vm := .none } = U at X₁ st1
  have hcellA : U.heap[T.heap.size]? = some (freshCell cX kX) := by rw [← hU]; exact State.heap_pushCell_size _ _
  obtain ⟨V, hsteps, hrun, hend, hWV, hsame, ce, hce, K⟩ := X₁.ctorThrow0 hx htr (own := own) (cls := cls) (names := names) (ic := ic) hown' hcls hnames hall (fun y hy => by cases hy) hfX hkX hcellA (by rw [hh']; exact Nat.le_refl _)
    (g := F0 m (pc + 4) ls (.ref T.heap.size :: .ref T.heap.size :: rest)) rfl hsize rfl rfl (rest := rest) rfl hd4 hd7 hout hfr (by simpa [JFrame.monitorRoom] using hlo) hlocks
  have hso : ∀ q : Nat, q < T.heap.size → V.heap[q]? = T.heap[q]? := by
    intro q hq
    obtain ⟨cq, hcq⟩ : ∃ cq, s'.heap[q]? = some cq := ⟨_, Array.getElem?_eq_getElem (by rw [hh']; exact hq)⟩
    have h2 : V.heap[q]? = some cq := hsame.old_cell hcq
    rw [h2, ← hh', hcq]
  have hszV : T.heap.size ≤ V.heap.size := by
    have := hsame.2.1
    rw [hh'] at this
    exact this
  have hWV2 : s.WarmedH V.vm := State.WarmedH.trans hW' hWV
  refine ⟨V, ?_, T.heap.size, hrun, hend, hq V hszV hso ⟨ce, hce, K.vm, ?_⟩ hWV2, locs, ⟨hWV2, ?_⟩, hf⟩
  · refine st1 _ ?_
    show Steps p.tables e below (U.setTop (F0 m (pc + 3) ls (.ref T.heap.size :: rest))) _
    jvm_step X₁.here [X₁.here.top, hx, hd3, Value.category]
    exact hsteps
  · have := K.cls
    rw [show V.vm.findClass cls = s'.vm.findClass cls from by rw [hWV.alike.findClass]]
    exact this
  · rw [hs'] at hsame
    exact xc_rejoin X hsame
end XCT
section XCC
variable {p : Program} {l : Launch} {e : Env} {R : Room} {s : State} {m : MethodId} {args : Array Value} {below : List Frame} {meth : Method} {c : Code} {H : Heap} {locs : List Loc} {cells slots : Nat}
/-- a callee that throws, paid at a point: it comes back with the note over the caller's frame -/
theorem xc_pay {y : MethodName} {ws : List Cond} {rm : Room} {Pc : Array Value → State → Prop} {Qc : Array Value → State → Addr → State → Prop} {mc ms : Nat} {free : Addr → Prop} {bytes : ByteArray} {maxL Wd : Nat} {ret : Option FieldType}
    (hM : xc_Met l y ws rm Pc Qc mc ms free) (hblind : FrameBlind Pc) (hrc : rm.cells = mc) (hrs : rm.slots = ms) (hframes : rm.frames + 1 ≤ R.frames) (hlocals : Wd + (maxL + 11) + rm.locals ≤ R.locals)
    (hws : ∀ w ∈ ws, ∀ a' U, s.WarmedH U.vm → w.before a' U = true) (hcode : Cond.code y bytes maxL ret ∈ ws) (hinit : ∀ a' U, s.WarmedH U.vm → (Cond.initialized y.cls).before a' U = true)
    {U : State} (X : Stand p l e R s m args below meth c U locs cells slots) {g : JFrame} {ig : Instr} {len : Nat} {mk : MethodId} {a : Array Value} (hg : g.method = m) (hsize : g.locals.size = c.maxLocals) (hdg : decode c.code g.pc = .ok (ig, len))
    (hW : 2 * g.monitorRoom + (g.stack.map fun v => v.category).sum ≤ Wd) (hn : U.methodNamed? y = some mk) (hc1 : cells + mc ≤ R.cells) (hs1 : slots + ms ≤ R.slots) (hp : Pc a U) :
    ∃ (x : Addr) (t T' : State) (L : List Loc), Stand p l e R s m args below meth c T' (locs ++ L) (cells + mc) (slots + ms) ∧ (∀ q ∈ L, free q.base) ∧ T'.heap = t.heap ∧ T'.vm = t.vm ∧ Qc a (U.calling g mk a) x t ∧
      Steps p.tables e below (doInvoke e (U.setTop g) [] mk a).1 ((T'.setTop g).pushFrame (.throwing x)) := by
  have h2 : (Cond.code y bytes maxL ret).before a U = true := hws _ hcode _ _ X.warmed
  have h3 : (Cond.initialized y.cls).before a U = true := hinit _ _ X.warmed
  obtain ⟨methY, cY, hmY, hcY, -, hlY, -, -, -, -⟩ := Cond.code_spec hn h2
  obtain ⟨kY, hkY, -⟩ := className_of_methodNamed hn
  have hinitY : kY.init = .initialized := Cond.initialized_spec (findClass_of_methodNamed hn) hkY h3
  have h : At U g.method c below := by rw [hg]; exact X.here
  have h1 : (headSpec ws rm).pre.before a U = true := atoms_intro fun w hw => hws w hw _ _ X.warmed
  have happ : (headSpec ws rm).appliesLoose y e.platform (U.calling g mk a) = true :=
    Spec.appliesLoose_calling (g := g) h hdg hn hkY hinitY
      (X.room_calling (g := g) (R' := rm) hsize hmY hcY hframes (by rw [hlY]; omega) (by rw [hrc]; exact hc1) (by rw [hrs]; exact hs1)) h1
  obtain ⟨mid, hmid⟩ := h.above
  have hfr : (U.setTop g).frames = (.java g :: mid) ++ below := by rw [State.frames_setTop' g h.top, hmid]; rfl
  obtain ⟨o, s₂, hsteps, -, hend, x, rfl, hq, L, ⟨hW₂, e2, q2, q3, q4, q5, q6⟩, hL⟩ := Steps.callFree hM p X.admits X.cas X.clock (acts := []) hfr happ (hblind a U g mk hp) trivial
  have hq' : Qc a (U.calling g mk a) x s₂ := hq
  have hf₂ : s₂.frames = .throwing x :: (U.setTop g).frames := hend
  rw [State.frames_setTop' g h.top] at hf₂
  have e3 : s₂ = ({ (U.calling g mk a).setFrames s₂.frames with heap := s₂.heap, slotsUsed := s₂.slotsUsed } : State).setVm s₂.vm := by
    have : s₂ = ({ s₂ with vm := (U.calling g mk a).vm } : State).setVm s₂.vm := rfl
    rw [show ({ s₂ with vm := (U.calling g mk a).vm } : State) = { (U.calling g mk a).setFrames s₂.frames with heap := s₂.heap, slotsUsed := s₂.slotsUsed } from e2] at this
    exact this
  have hW' : U.WarmedH s₂.vm := hW₂
  obtain ⟨g₀, hg0⟩ := Option.isSome_iff_exists.mp h.top
  obtain ⟨r, hr⟩ := State.topJava?_eq_some.mp hg0
  have hs₂ : s₂ = ((({ U with heap := s₂.heap, slotsUsed := s₂.slotsUsed } : State).setVm s₂.vm).setTop g).pushFrame (.throwing x) := by
    have hr' : (({ U with heap := s₂.heap, slotsUsed := s₂.slotsUsed } : State).setVm s₂.vm).frames = .java g₀ :: r := hr
    refine e3.trans ?_
    rw [hf₂, State.calling_eq h.top, State.setFrames_setFrames, State.pushFrame, State.frames_setTop _ hr', State.setTop_of_frames _ hr', State.setFrames_setFrames, hr]
    rfl
  have hsame : U.sameButNew ({ U with heap := s₂.heap, slotsUsed := s₂.slotsUsed } : State) L mc ms := by
    refine ⟨?_, q2, q3, q4, q5, q6⟩
    obtain ⟨t, ht, -⟩ := State.frames_cons hr
    show ({ U with heap := s₂.heap, slotsUsed := s₂.slotsUsed } : State) = { U.setFrames U.frames with heap := s₂.heap, slotsUsed := s₂.slotsUsed }
    rw [State.setFrames_self ht]
  subst hg
  refine ⟨x, s₂, ({ U with heap := s₂.heap, slotsUsed := s₂.slotsUsed } : State).setVm s₂.vm, L,
    ⟨X.admits, X.cas, X.clock, X.frames, X.room, X.hears, X.method, X.code, (X.here.setHeapUsed s₂.heap s₂.slotsUsed).setVm hW'.alike, X.tail, State.WarmedH.trans X.warmed hW', X.limits, X.bytes, X.same.trans (hsame.setVm s.vm)⟩,
    hL, rfl, rfl, hq', ?_⟩
  rw [← hs₂]
  exact hsteps
/-- a call that throws: the note over the caller's frame -/
def xc_Run (p : Program) (l : Launch) (e : Env) (R : Room) (s : State) (m : MethodId) (args : Array Value) (below : List Frame) (meth : Method) (c : Code) (H : Heap) (locs : List Loc) (cells slots mc ms : Nat) (g : JFrame) (rest : List Value) (Qa : State → Addr → State → Prop) (free : Addr → Prop) : Prop :=
  ∀ T : State, T.heap = H → Stand p l e R s m args below meth c T locs cells slots → ∃ (x : Addr) (st₀ t T' : State) (L : List Loc), st₀.heap = H ∧ Stand p l e R s m args below meth c T' (locs ++ L) (cells + mc) (slots + ms) ∧ (∀ q ∈ L, free q.base) ∧ T'.heap = t.heap ∧ T'.vm = t.vm ∧ Qa st₀ x t ∧
    ∀ target, Steps p.tables e below ((T'.setTop { g with stack := rest }).pushFrame (.throwing x)) target → Steps p.tables e below (T.setTop g) target
variable {y : MethodName} {bytes cc : ByteArray} {maxL nL mc ms n index : Nat} {ret : Option FieldType} {ws : List Cond} {rm : Room} {Pc : Array Value → State → Prop} {Qc : Array Value → State → Addr → State → Prop} {free : Addr → Prop} {Ts : List Cond} {own C : String} {b : Addr} {As rest : List Value} {g : JFrame}
theorem xc_runV (S : CallFix p m c cc nL s args Ts own) (hM : xc_Met l y ws rm Pc Qc mc ms free) (cw : CallW R s args own C index y bytes maxL ret ws rm mc ms n) (hp : PreV s H C b Pc As)
    (hg : g.method = m) (hn : As.length = n) (hsize : g.locals.size = nL) (hstack : g.stack = As.reverse ++ .ref b :: rest) (hW : 2 * g.monitorRoom + (rest.map fun v => v.category).sum ≤ 8) (hdg : decode cc g.pc = .ok (.invokevirtual index, 3)) (hf : cells + mc ≤ R.cells ∧ slots + ms ≤ R.slots) :
    xc_Run p l e R s m args below meth c H locs cells slots mc ms g rest (Qc (Value.ref b :: As).toArray) free := by
  obtain ⟨⟨hrc, hrs, hfr, hlo, hws, hcw, hcode, hini, hy, hlen, hl⟩, hin, hse⟩ := cw
  obtain ⟨hx, hb, hml, ho, -⟩ := S
  obtain ⟨hbl, ⟨cellB, hcB, hoB, hclB⟩, hPc⟩ := hp
  intro T hT X
  obtain ⟨mk, methM, hnamed, hmethM, hstM, habM⟩ := Cond.instanceMethod_spec hin
  obtain ⟨methM', cM, hmethM', -, -, -, -, -, -, hsigM⟩ := Cond.code_spec hnamed hcode
  cases hmethM.symm.trans hmethM'
  obtain ⟨c2, r2, m2, q1, q2, q3, q4, kP, hkP, hkPi⟩ := Cond.selects_spec hse
  cases hclB.symm.trans q1
  cases (State.methodFound?_of_named hnamed hy).symm.trans q2
  cases hnamed.symm.trans q3
  have hselP : selectMethod e.platform s.vm cellB.cls mk = .method mk := by rw [Launch.admits_selectMethod X.admits]; exact q4
  obtain ⟨vm₁, X₁, hstep₁⟩ := X.invokevirtual hx ho hl hnamed hmethM hstM hkP hkPi hy (a := b) (cell := cellB) (by rw [hT]; exact hcB)
    (fun z h => by rw [h] at hoB; cases hoB) hselP hmethM habM hkP hkPi (g := g) hg (argsL := As) (rest := rest) (hn.trans (hlen _ hsigM)) hstack (by rw [hb]; exact hdg)
  obtain ⟨x, t, T', L, X', hL, e1, e2, hq, hst⟩ := xc_pay (bytes := bytes) (maxL := maxL) (ret := ret) hM hbl hrc hrs hfr hlo hws hcw (fun a' U hW => word_at hW (Or.inl (by first | rfl | simp [Cond.onTables, Cond.keeps, Cond.steady])) hini)
    X₁ (g := { g with stack := rest }) (ig := .invokevirtual index) (len := 3) (mk := mk) (a := (Value.ref b :: As).toArray) hg (hsize.trans hml.symm) (by rw [hb]; exact hdg) hW (X₁.named hnamed) hf.1 hf.2 (hPc (T.setVm vm₁) hT X₁.warmed)
  exact ⟨x, (T.setVm vm₁).calling { g with stack := rest } mk (Value.ref b :: As).toArray, t, T', L, hT, X', hL, e1, e2, hq, fun target h => hstep₁ _ fun acts => by rw [doInvoke_state]; exact hst.trans h⟩
theorem xc_runVN {host : String} (S : CallFix p m c cc nL s args Ts own) (hM : xc_Met l y ws rm Pc Qc mc ms free) (cw : va_CN R s args own index y host bytes maxL ret ws rm mc ms n ∧ (Cond.instanceMethod y).before args s = true ∧ (Cond.selects C y y).before args s = true) (hp : PreV s H C b Pc As)
    (hg : g.method = m) (hn : As.length = n) (hsize : g.locals.size = nL) (hstack : g.stack = As.reverse ++ .ref b :: rest) (hW : 2 * g.monitorRoom + (rest.map fun v => v.category).sum ≤ 8) (hdg : decode cc g.pc = .ok (.invokevirtual index, 3)) (hf : cells + mc ≤ R.cells ∧ slots + ms ≤ R.slots) :
    xc_Run p l e R s m args below meth c H locs cells slots mc ms g rest (Qc (Value.ref b :: As).toArray) free := by
  obtain ⟨⟨⟨hrc, hrs, hfr, hlo, hws, hcw⟩, hcode, hini, hy, hlen, hl⟩, hin, hse⟩ := cw
  obtain ⟨hx, hb, hml, ho, -⟩ := S
  obtain ⟨hbl, ⟨cellB, hcB, hoB, hclB⟩, hPc⟩ := hp
  intro T hT X
  obtain ⟨mk, methM, hnamed, hmethM, hstM, habM⟩ := Cond.instanceMethod_spec hin
  obtain ⟨methM', cM, hmethM', -, -, -, -, -, -, hsigM⟩ := Cond.code_spec hnamed hcode
  cases hmethM.symm.trans hmethM'
  obtain ⟨c2, r2, m2, q1, q2, q3, q4, kP, hkP, hkPi⟩ := Cond.selects_spec hse
  cases hclB.symm.trans q1
  cases (State.methodFound?_of_named hnamed hy).symm.trans q2
  cases hnamed.symm.trans q3
  have hselP : selectMethod e.platform s.vm cellB.cls mk = .method mk := by rw [Launch.admits_selectMethod X.admits]; exact q4
  obtain ⟨vm₁, X₁, hstep₁⟩ := X.invokevirtualNest hx ho hl hnamed hmethM hstM hkP hkPi hy (a := b) (cell := cellB) (by rw [hT]; exact hcB)
    (fun z h => by rw [h] at hoB; cases hoB) hselP hmethM habM hkP hkPi (g := g) hg (argsL := As) (rest := rest) (hn.trans (hlen _ hsigM)) hstack (by rw [hb]; exact hdg)
  obtain ⟨x, t, T', L, X', hL, e1, e2, hq, hst⟩ := xc_pay (bytes := bytes) (maxL := maxL) (ret := ret) hM hbl hrc hrs hfr hlo hws hcw (fun a' U hW => word_at hW (Or.inl (by first | rfl | simp [Cond.onTables, Cond.keeps, Cond.steady])) hini)
    X₁ (g := { g with stack := rest }) (ig := .invokevirtual index) (len := 3) (mk := mk) (a := (Value.ref b :: As).toArray) hg (hsize.trans hml.symm) (by rw [hb]; exact hdg) hW (X₁.named hnamed) hf.1 hf.2 (hPc (T.setVm vm₁) hT X₁.warmed)
  exact ⟨x, (T.setVm vm₁).calling { g with stack := rest } mk (Value.ref b :: As).toArray, t, T', L, hT, X', hL, e1, e2, hq, fun target h => hstep₁ _ fun acts => by rw [doInvoke_state]; exact hst.trans h⟩
end XCC
section XCP
variable {p : Program} {l : Launch} {e : Env} {R : Room} {s : State} {m : MethodId} {args : Array Value} {below : List Frame} {meth : Method} {c : Code} {H : Heap} {locs : List Loc} {cells slots : Nat} {Q : State → Prop}
variable {pc : Nat} {ls : Array Slot} {rest st0 : List Value} {a : Array Value} {A0 A1 : Nat → Prop} {H0 : Heap} {mc ms : Nat} {free : Addr → Prop}
/-- the world behind a call that threw -/
theorem xc_behind {S : Type} {C : String} {post : S → Prop} {B : S → State → Prop} {x : Addr} {st₀ t T' : State} {L : List Loc} (hS : va_S A0 H0 H locs) (hA : ∀ q, q < H.size → A1 q → A0 q) (hf : ∀ q, free q → A0 q) (h0 : st₀.heap = H)
    (X' : Stand p l e R s m args below meth c T' (locs ++ L) (cells + mc) (slots + ms)) (hL : ∀ q ∈ L, free q.base) (e1 : T'.heap = t.heap) (e2 : T'.vm = t.vm) (hq : xc_Q C post B A1 a st₀ x t) :
    ∃ u : S, s.vm.Alike t.vm ∧ xc_Ob C x s T'.heap ∧ post u ∧ B u t ∧ H.size ≤ T'.heap.size ∧ (∀ q : Nat, q < H.size → ¬ A1 q → T'.heap[q]? = H[q]?) ∧ va_S A0 H0 T'.heap (locs ++ L) := by
  obtain ⟨⟨u, ⟨cell, o1, o2, o3⟩, hp, hb⟩, hz, hk⟩ := hq
  rw [h0] at hz hk
  have hal : s.vm.Alike t.vm := by rw [← e2]; exact X'.warmed.alike
  refine ⟨u, hal, ⟨cell, by rw [e1]; exact o1, o2, by rw [← hal.findClass]; exact o3⟩, hp, hb, by rw [e1]; exact hz, fun q h1 h2 => by rw [e1]; exact hk q h1 h2,
    ⟨Nat.le_trans hS.1 (by rw [e1]; exact hz), fun q h1 h2 => by rw [e1, hk q (Nat.lt_of_lt_of_le h1 hS.1) (fun z => h2 (hA q (Nat.lt_of_lt_of_le h1 hS.1) z))]; exact hS.2.1 q h1 h2, fun q hq => ?_⟩⟩
  rcases List.mem_append.mp hq with h | h
  · exact hS.2.2 q h
  · exact hf _ (hL q h)
/-- the exception passes: the caller throws it too -/
theorem xc_callPass {S : Type} {C : String} {post : S → Prop} {B : S → State → Prop} {Qc : Array Value → State → Addr → State → Prop} {free' : Addr → Prop} (hr : xc_Run p l e R s m args below meth c H locs cells slots mc ms (F0 m pc ls st0) rest (xc_Q C post B A1 a) free) (hS : va_S A0 H0 H locs) (hA : ∀ q, q < H.size → A1 q → A0 q) (hf : ∀ q, free q → A0 q)
    (hout : ∀ y ∈ c.exceptionTable.toList, covers y pc = false) (hlocks : meth.locks = false)
    (kk : ∀ (u : S) (x : Nat) (t : State) (H1 : Heap) (locs1 : List Loc), t.heap = H1 → s.vm.Alike t.vm → xc_Ob C x s H1 → post u → B u t → H.size ≤ H1.size → (∀ q : Nat, q < H.size → ¬ A1 q → H1[q]? = H[q]?) → va_S A0 H0 H1 locs1 → (∀ q ∈ locs1, free' q.base) ∧ ∀ t2 : State, t2.heap = H1 → s.WarmedH t2.vm → Qc args s x t2) :
    W p l e R s m args below meth c H locs cells slots (xc_MQ below Qc args s (cells + mc) (slots + ms) free') (F0 m pc ls st0) := by
  intro T hT X
  obtain ⟨x, st₀, t, T', L, h0, X', hL, e1, e2, hq, st⟩ := hr T hT X
  obtain ⟨u, g1, g2, g3, g4, g5, g6, g7⟩ := xc_behind hS hA hf h0 X' hL e1 e2 hq
  obtain ⟨k1, k2⟩ := kk u x t T'.heap (locs ++ L) e1.symm g1 g2 g3 g4 g5 g6 g7
  obtain ⟨w1, w2, w3, w4, w5⟩ := X'.leaveThrown x (g := F0 m pc ls rest) rfl rfl rfl hout hlocks
  exact ⟨_, st _ w1, x, w2, w3, k2 _ rfl w4, locs ++ L, ⟨w4, w5⟩, k1⟩
/-- a class entry of a handler, found cold or warm: the first row of the table covers the pc, and the object is of that very class -/
theorem xc_find {own C : String} {x : Addr} {T' : State} {Lc : List Loc} {k n : Nat} (X' : Stand p l e R s m args below meth c T' Lc k n) (hown : s.vm.findClass own = some m.cls) {sp ep hpc ct : Nat} {more : List ExceptionTableEntry} (htab : c.exceptionTable.toList = ⟨sp, ep, hpc, ct⟩ :: more)
    (hcov : sp ≤ pc ∧ pc < ep) (hct : ct ≠ 0) (hcl : (Cond.classLink own ct C).before args s = true) (hob : xc_Ob C x s T'.heap) :
    ∃ vm', s.WarmedH vm' ∧ ∀ (Qh : Handler → Pre) (E : CtlPost) (d : Bool) (acts : List Action), wp (findHandler (F0 m pc ls rest) x) Qh E e d acts ((T'.setTop (F0 m pc ls rest)).pushFrame (.throwing x)) ↔ Qh (.found hpc) d acts (((T'.setVm vm').setTop (F0 m pc ls rest)).pushFrame (.throwing x)) := by
  have hpl : e.platform.magicAccessors = ({} : Platform).magicAccessors := by rw [X'.admits.platform]
  obtain ⟨cC, hfc, hlk⟩ := Cond.classLink_spec hown hcl e.platform hpl
  obtain ⟨hg₁, hwarm₁, hready₁⟩ := State.classEntry (e := e) X'.warmed hlk
  obtain ⟨cell, o1, o2, o3⟩ := hob
  have hcc : cell.cls = cC := Option.some.inj (o3.symm.trans hfc)
  refine ⟨_, hwarm₁, ?_⟩
  intro Qh E d acts
  have hvm : ((T'.setTop (F0 m pc ls rest)).pushFrame (.throwing x)).vm = T'.vm := Stand.throwing_vm _ _ _
  have hhp : ((T'.setTop (F0 m pc ls rest)).pushFrame (.throwing x)).heap = T'.heap := Stand.throwing_heap _ _ _
  rw [W.findHandler_eq (meth := meth) (code := c) (by rw [hvm]; exact X'.method') X'.code, htab]
  obtain ⟨ha, ht⟩ := hg₁.op (op := VmOp.resolveClass m.cls ct) rfl
  have hcl2 : (T'.vm.noted m.cls ct (.cls cC)).assignable cell.cls cC = true := by
    rw [hcc]
    show Vm.assignableAux _ (255 + 1) cC cC = true
    rw [Vm.assignableAux]
    simp
  have hal : s.vm.Alike (T'.vm.noted m.cls ct (.cls cC)) := hwarm₁.alike
  have hkc : ∃ k, (T'.vm.noted m.cls ct (.cls cC)).classes[cC]? = some k := Vm.classAt_of_findClass (name := C) (by rw [hal.findClass]; exact hfc)
  have hnst : ∀ k, cell.vm ≠ .statics k := fun k h => by rw [o2] at h; cases h
  have hcz : covers ⟨sp, ep, hpc, ct⟩ pc = true := by simp [covers, hcov.1, hcov.2]
  have hcell : T'.heap[x]? = some cell := o1
  simp only [covers] at hcz
  subst hcc
  simp [findHandler.go, hcz, hct, hvm, hhp, ha, ht, hcell, hnst, hkc, hcl2, VmOp.dirties, VmOp.acts]
  exact Iff.rfl
/-- one step of the unwinding into a handler whose class entry may be new -/
theorem xc_stepCatch {s s' : State} {x : Addr} {f : JFrame} {r : List Frame} {hpc : Nat} (hfind : ∀ (Qh : Handler → Pre) (E : CtlPost) (d : Bool) (acts : List Action), wp (findHandler f x) Qh E e d acts s ↔ Qh (.found hpc) d acts s') :
    (stepThrowing e s x (.java f :: r)).Is (s'.setFrames (.java { f with pc := hpc, stack := [.ref x] } :: r)) [] := by
  simp only [stepThrowing, searchFrame, vmDo]
  generalize hr : Sem.go _ e false [] s = res
  obtain ⟨as, rfl, ha⟩ := Sem.eq_ok_of hr (a := Handler.found hpc) (s' := s') (acts' := []) (by simp [hfind _ _ _ _])
  exact ⟨rfl, ha⟩
/-- the exception is caught here -/
theorem xc_callCatch {S : Type} {own C : String} {post : S → Prop} {B : S → State → Prop} (hr : xc_Run p l e R s m args below meth c H locs cells slots mc ms (F0 m pc ls st0) rest (xc_Q C post B A1 a) free) (hS : va_S A0 H0 H locs) (hA : ∀ q, q < H.size → A1 q → A0 q) (hf : ∀ q, free q → A0 q)
    (hown : s.vm.findClass own = some m.cls) {sp ep hpc ct : Nat} {more : List ExceptionTableEntry} (htab : c.exceptionTable.toList = ⟨sp, ep, hpc, ct⟩ :: more) (hcov : sp ≤ pc ∧ pc < ep) (hct : ct ≠ 0) (hcl : (Cond.classLink own ct C).before args s = true)
    (kk : ∀ (u : S) (x : Nat) (t : State) (H1 : Heap) (locs1 : List Loc), t.heap = H1 → s.vm.Alike t.vm → xc_Ob C x s H1 → post u → B u t → H.size ≤ H1.size → (∀ q : Nat, q < H.size → ¬ A1 q → H1[q]? = H[q]?) → va_S A0 H0 H1 locs1 → W p l e R s m args below meth c H1 locs1 (cells + mc) (slots + ms) Q (F0 m hpc ls [.ref x])) :
    W p l e R s m args below meth c H locs cells slots Q (F0 m pc ls st0) := by
  intro T hT X
  obtain ⟨x, st₀, t, T', L, h0, X', hL, e1, e2, hq, st⟩ := hr T hT X
  obtain ⟨u, g1, g2, g3, g4, g5, g6, g7⟩ := xc_behind hS hA hf h0 X' hL e1 e2 hq
  obtain ⟨vm', hW', hfind⟩ := xc_find (ls := ls) (rest := rest) X' hown htab hcov hct hcl g2
  obtain ⟨t2, a1, b1⟩ := kk u x t T'.heap (locs ++ L) e1.symm g1 g2 g3 g4 g5 g6 g7 (T'.setVm vm') rfl (X'.noted hW')
  refine ⟨t2, st _ ?_, b1⟩
  have h : At T' m c below := X'.here
  obtain ⟨hgo, hw⟩ := At.throwing (g := F0 m pc ls rest) h x
  refine Steps.head hgo hw ?_
  rw [stepThread_throwing (frames_entered h.top _), (xc_stepCatch hfind).1]
  obtain ⟨g₀, hg⟩ := Option.isSome_iff_exists.mp h.top
  obtain ⟨r, hr2⟩ := State.topJava?_eq_some.mp hg
  have hr3 : (T'.setVm vm').frames = .java g₀ :: r := hr2
  rw [State.pushFrame, State.setFrames_setFrames, State.setTop_of_frames _ hr3, State.setFrames_setFrames]
  rw [State.setTop_of_frames _ hr3] at a1
  rw [hr2]
  exact a1
/-- a method with an exception table, by contract -/
theorem xc_MetW {y : MethodName} {ws ws' : List Cond} {rm : Room} {Pc : Array Value → State → Prop} {Qc : Array Value → State → Outcome → State → Prop} {mc ms : Nat} {free : Addr → Prop} {cc : ByteArray} {maxL : Nat} {ret : Option FieldType} {hh : List (Nat × Nat × Nat × Nat)}
    (hy : plainName y.cls = true) (hw : ws = Cond.codeWith y cc maxL ret hh :: ws')
    (body : ∀ p e s m args below meth c s₁, BodyLoose p l y (headSpec ws rm) cc maxL ret e s m args below meth c s₁ → c.maxLocals = maxL → c.exceptionTable.toList = tableOf hh → Pc args s →
      W p l e (headSpec ws rm).room s m args below meth c s.heap [] 0 0 (MQ below Qc args s mc ms free) (entryFrame m args maxL)) : Met l y ws rm Pc Qc mc ms free := by
  refine va_MetW (hh := hh) hy hw ?_
  intro p e s m args below meth c s₁ B hml hP
  refine body p e s m args below meth c s₁ B hml ?_ hP
  obtain ⟨m9, meth9, c9, hn9, h1, h2, -, -, h5, -, -, -⟩ := Cond.codeWith_spec (atoms_spec (ws := ws) B.pre _ (by rw [hw]; exact List.mem_cons_self))
  cases B.named.symm.trans hn9
  cases B.method.symm.trans h1
  cases (Stand.of_body B).code.symm.trans h2
  rw [← h5]
  exact (table_eq _).symm
end XCP
