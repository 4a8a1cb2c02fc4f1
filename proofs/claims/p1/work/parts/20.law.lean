/-! THE CLAIM OUT OF ONE WALK OF THE LAW'S BODY. Your part is whole_start (and what it stands on); all else here is the same for every law, but numbers. -/
def R_law : String := "SignalEngineLaw"
def lw_P (b : Addr) (xs : List Int32) (args : Array Value) (s : State) : Prop := args = #[.ref b] ∧ s.IntsAt b xs ∧ xs.length ≤ 6 ∧ (Jvm.Cond.and given_1 narrow_1).before args s = true
def lw_Q (_ : Array Value) (s : State) (o : Outcome) (t : State) : Prop := o = .returned (some (.int 1)) ∧ Framed s o t [] 600002 7302232
def lw_Z (below : List Frame) (a : Array Value) (s : State) : State → Prop := fun t => ∃ o, t.status = .running ∧ Ended t below o ∧ lw_Q a s o t
/-- the law's own end, with 1 on the stack, nothing written that was there before, its room as the claim has it -/
theorem lw_ret {p : Program} {l : Launch} {e : Env} {s : State} {m : MethodId} {below : List Frame} {meth : Method} {c : Code} {b : Nat} (hx : p.tables.exec = Jvm.exec) (hb : c.code = code) (hr : meth.sig.returnType = ret) (hlocks : meth.locks = false) {pc : Nat} {H : Heap} {ls : Array Slot} (hdg : decode code pc = .ok (.ireturn, 1)) : W p l e room_1 s m #[Value.ref b] below meth c H [] 600002 7302232 (lw_Z below #[Value.ref b] s) (F0 m pc ls [.int 1]) := by
  intro T hT X
  obtain ⟨fs, hret, hrun, hended, hW, hframe⟩ := X.leave (v := some (.int 1)) (hlocks := hlocks) (fun h => by rw [hr] at h; cases h)
  have hmeth' : T.vm.method? m = some meth := X.method'
  refine ⟨T.setFrames fs, ?_, .returned (some (.int 1)), hrun, hended, rfl, ⟨_, rfl⟩, hW, hframe⟩
  jvm_step X.here [X.here.top, hx, hb, hdg, hmeth', hr, ret, narrow_b1]
  (try refine ⟨rfl, ?_⟩); (try refine ⟨rfl, ?_⟩)
  first | (intro acts; rw [hret _ acts rfl rfl rfl]) | rw [hret _ _ rfl rfl rfl]
  exact Steps.refl _
/-- what holds at the law's entry: the machine, the code, the tables' words (any of lw_tbl by 'hts w (by decide +kernel)'), the script of L ints xs at the cell b, what the Statement gives of the start (any of its parts by flat_of_before) -/
def lw_At (p : Program) (s : State) (m : MethodId) (meth : Method) (c : Code) (b L : Nat) (xs : Nat → Int32) : Prop :=
  p.tables.exec = Jvm.exec ∧ c.code = code ∧ meth.sig.returnType = ret ∧ c.maxLocals = 8 ∧ s.vm.findClass R_law = some m.cls ∧ (∀ w ∈ lw_tbl, w.before #[Value.ref b] s = true) ∧ va_X b L xs s s.heap ∧ b < s.heap.size ∧ meth.locks = false ∧ (Jvm.Cond.and given_1 narrow_1).before #[Value.ref b] s = true
/-! the law: what holds at its entry (the environment), and its tail -/
def lw_fl : List Cond := flatC (Jvm.Cond.and given_1 narrow_1)
set_option maxRecDepth 1000000 in
theorem fl_ex : ∀ i, i < 33 → Cond.exactly (.static "SignalEngine$Token" (tk_nm.getD i "") "LSignalEngine$Token;") "SignalEngine$Token" ∈ lw_fl := by decide +kernel
set_option maxRecDepth 1000000 in
theorem fl_or : ∀ i, i < 33 → Cond.eq (.field (.static "SignalEngine$Token" (tk_nm.getD i "") "LSignalEngine$Token;") "java/lang/Enum" "ordinal" "I") (.int (tk_or.getD i 0)) ∈ lw_fl := by decide +kernel
set_option maxRecDepth 1000000 in
theorem fl_st : ∀ i, i < 33 → Cond.eq (.field (.static "SignalEngine$Token" (tk_nm.getD i "") "LSignalEngine$Token;") "SignalEngine$Token" "starts" "Z") (.int (tk_st.getD i 0)) ∈ lw_fl := by decide +kernel
set_option maxRecDepth 1000000 in
theorem fl_ls : ∀ i, i < 33 → Cond.laysStatic "SignalEngine$Token" (tk_nm.getD i "") "LSignalEngine$Token;" ∈ tables_1 := by decide +kernel
set_option maxRecDepth 1000000 in
theorem fl_us : Cond.isRef (.static Bundle.tN "UNASSIGNED_STACK" Bundle.steD) ∈ lw_fl := by decide +kernel
set_option maxRecDepth 1000000 in
theorem fl_ss : Cond.isRef (.static Bundle.tN "SUPPRESSED_SENTINEL" Bundle.listD) ∈ lw_fl := by decide +kernel
set_option maxRecDepth 1000000 in
theorem fl_de : Cond.exactly (.static "java/util/ArrayList" "DEFAULTCAPACITY_EMPTY_ELEMENTDATA" "[Ljava/lang/Object;") "[Ljava/lang/Object;" ∈ lw_fl := by decide +kernel
set_option maxRecDepth 1000000 in
theorem fl_w : (Cond.laysStatic Bundle.tN "UNASSIGNED_STACK" Bundle.steD ∈ tables_1 ∧ Cond.laysStatic Bundle.tN "SUPPRESSED_SENTINEL" Bundle.listD ∈ tables_1 ∧ Cond.initialized Bundle.tN ∈ tables_1) ∧ (Cond.laysStatic "java/util/ArrayList" "DEFAULTCAPACITY_EMPTY_ELEMENTDATA" "[Ljava/lang/Object;" ∈ tables_1 ∧ Cond.initialized "java/util/ArrayList" ∈ tables_1 ∧ Cond.initialized "SignalEngine$Token" ∈ tables_1) := by decide +kernel
theorem xl_isRef {C n d : String} {a : Array Value} {s : State} (h : (Cond.isRef (.static C n d)).before a s = true) : ∃ v : Value, v.isRef = true ∧ (Term.static C n d).eval a s none [] s = some v := by
  cases hv : (Term.static C n d).eval a s none [] s with
  | none => simp [Cond.before, Cond.holds, Cond.value, hv] at h
  | some v =>
    refine ⟨v, ?_, rfl⟩
    cases v <;> simp [Cond.before, Cond.holds, Cond.value, hv, Value.isRef] at h ⊢
theorem xl_or : ∀ i, i < 33 → ∀ j, j < 33 → tk_or.getD i 0 = tk_or.getD j 0 → i = j := by decide +kernel
/-- the environment at the law's entry -/
theorem xl_env {a : Array Value} {s : State} (hts : ∀ w ∈ lw_tbl, w.before a s = true) (hgv : (Jvm.Cond.and given_1 narrow_1).before a s = true) {A : Nat → Prop} (hA : ∀ q : Nat, q < s.heap.size → ¬ A q) : ∃ (ad : Nat → Nat) (de : Nat), xe ad de A s s.heap := by
  have hs : ∀ c ∈ lw_fl, c.before a s = true := flat_of_before _ hgv
  have ht : ∀ w ∈ tables_1, w.before a s = true := fun w h => hts w (List.mem_append_right _ h)
  obtain ⟨⟨w1, w2, w3⟩, w4, w5, w6⟩ := fl_w
  have hn : xn s := by
    intro w hw
    obtain ⟨h1, h2⟩ := List.mem_filter.mp hw
    have h3 := ht w h1
    cases w <;> first | exact va_Nw.of rfl h3 | (simp [xn_is] at h2)
  obtain ⟨v1, r1, z1⟩ := xl_isRef (hs _ fl_us)
  obtain ⟨v2, r2, z2⟩ := xl_isRef (hs _ fl_ss)
  have hZ : xc_Zt A s s.heap := ⟨v1, v2, r1, r2, va_Zof (ht _ w1) (ht _ w3) z1 hA, va_Zof (ht _ w2) (ht _ w3) z2 hA, xc_L.of (ht _ w1) hA, xc_L.of (ht _ w2) hA⟩
  obtain ⟨de, hde⟩ : ∃ de : Nat, va_Z "java/util/ArrayList" "DEFAULTCAPACITY_EMPTY_ELEMENTDATA" "[Ljava/lang/Object;" (.ref de) A s s.heap := by
    obtain ⟨q, c, cell, k, q1, -⟩ := Cond.exactly_spec (hs _ fl_de)
    exact ⟨q, va_Zref (ht _ w4) (ht _ w5) q1 hA⟩
  have h0 : ∀ i : Nat, ∃ t : Nat, i < 33 → (Term.static "SignalEngine$Token" (tk_nm.getD i "") "LSignalEngine$Token;").eval a s none [] s = some (.ref t) ∧ va_O "SignalEngine$Token" t A s s.heap := by
    intro i
    by_cases hi : i < 33
    · obtain ⟨q, c, cell, k, q1, q2, q3, q4, q5, q6, -⟩ := Cond.exactly_spec (hs _ (fl_ex i hi))
      exact ⟨q, fun _ => ⟨q1, cell, q3, q5, by rw [q6]; exact q2, hA q (Array.getElem?_eq_some_iff.mp q3).1⟩⟩
    · exact ⟨0, fun h => absurd h hi⟩
  obtain ⟨ad, had⟩ := Classical.axiomOfChoice h0
  have hof : ∀ (o n d : String) (z : Int32) (i : Nat), i < 33 → (Cond.eq (.field (.static "SignalEngine$Token" (tk_nm.getD i "") "LSignalEngine$Token;") o n d) (.int z)).before a s = true → va_OF o n d (.int z) (ad i) A s s.heap := by
    intro o n d z i hi h
    have hv := va_eqt h
    cases hfo : s.fieldFound? o n d with
    | none =>
      rw [va_fe (had i hi).1] at hv
      simp [State.fieldOf?, State.fieldNamed?, hfo] at hv
    | some x =>
      obtain ⟨cf, k, fi, f⟩ := x
      obtain ⟨g1, cell, g2, g3, -, -, g6⟩ := Term.field_spec hfo (had i hi).1 hv
      exact ⟨cf, k, fi, f, cell, hfo, g1, g2, g3, g6, hA _ (Array.getElem?_eq_some_iff.mp g2).1⟩
  refine ⟨ad, de, hn, hZ, ⟨fun i hi => ⟨va_Zref (ht _ (fl_ls i hi)) (ht _ w6) (had i hi).1 hA, (had i hi).2, fun q hq => ?_⟩, fun i j hi hj e => ?_⟩, hde⟩
  · rcases List.mem_cons.mp hq with rfl | hq
    · exact hof _ _ _ _ i hi (hs _ (fl_or i hi))
    · rcases List.mem_cons.mp hq with rfl | hq
      · exact hof _ _ _ _ i hi (hs _ (fl_st i hi))
      · cases hq
  · obtain ⟨cf, k, fi, f, cell, h1, h2, h3, h4, h5, h6⟩ := hof _ _ _ _ i hi (hs _ (fl_or i hi))
    obtain ⟨cf', k', fi', f', cell', h1', h2', h3', h4', h5', h6'⟩ := hof _ _ _ _ j hj (hs _ (fl_or j hj))
    cases h1.symm.trans h1'
    rw [← e] at h3'
    cases h3.symm.trans h3'
    have h7 := h5.symm.trans h5'
    exact xl_or i hi j hj (by injection h7 with h8; injection h8)
