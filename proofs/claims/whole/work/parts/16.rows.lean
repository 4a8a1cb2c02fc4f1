/-! rows: answers that are cells, constants of Token, new objects' fields -/
section XS16
variable {p : Program} {l : Launch} {e : Env} {R : Room} {s : State} {m : MethodId} {args : Array Value} {below : List Frame} {meth : Method} {c : Code} {H : Heap} {locs : List Loc} {cells slots : Nat} {Q : State → Prop}
variable {cc : ByteArray} {mc ms pc : Nat} {rest st0 : List Value} {ls : Array Slot} {D : va_G} {ws wc wr : va_W} {tys tc : List (ClassId × FieldType)} {A : Nat → Prop} {a : Array Value}
/-- behind a call: a cell -/
theorem xkr {S : Type} {post : S → Prop} {w1 : S → Nat → va_W} {t1 : S → Nat → List (ClassId × FieldType)} (hr : va_Run p l e R s m args below meth c H locs cells slots mc ms (F0 m pc ls st0) rest (va_Qr post (fun u ra t => xq D (va_A wc H.size) (w1 u ra) (t1 u ra) t) (va_A wc H.size) a) (va_A wc H.size))
    (hP : va_P D cl ws H) (hK : va_K D cl tys s) (hD : va_D A ws) (hS : va_S A s.heap H locs) (hA : ∀ q, s.heap.size ≤ q → A q) (isC isR : List Nat) (hC : isC.map (fun i => ws[i]?) = wc.map some) (hR : isR.map (fun i => ws[i]?) = wr.map some) (hn : va_nd isR = true) (hdis : ∀ i ∈ isR, i ∉ isC)
    (kk : ∀ (u : S) (ra : Nat) (H1 : Heap) (locs1 : List Loc), post u → va_P D cl (wr ++ w1 u ra) H1 → va_K D cl (tys ++ t1 u ra) s → va_D A (wr ++ w1 u ra) → va_S A s.heap H1 locs1 → W p l e R s m args below meth c H1 locs1 (cells + mc) (slots + ms) Q (F0 m (pc + 3) ls (.ref ra :: rest))) :
    W p l e R s m args below meth c H locs cells slots Q (F0 m pc ls st0) := by
  have hFc := va_free hD hS hA isC hC
  refine va_callr hr hS (fun q _ h => hFc q h) hFc (fun u ra t H1 locs1 ht hvm hw hB hz1 hk1 hS1 => ?_)
  obtain ⟨hP1, hK1, hD1⟩ := hB
  rw [ht] at hP1
  obtain ⟨hP2, hD2⟩ := va_join hP hD isC isR hC hR hn hdis hk1 hFc hP1 hD1
  exact kk u ra H1 locs1 hw hP2 (hK.app (va_K.moved hvm.symm hK1)) hD2 hS1
/-- a constant's int field, across the nest -/
theorem xgetE (hexec : p.tables.exec = Jvm.exec) (hb : c.code = cc) {E d own ref host : String} {nm : List String} {F : List (String × String × String × List Int32)} {ad : Nat → Nat} {index i : Nat} (hE : va_En E d nm F ad A s s.heap) (hi : i < nm.length) (hS : va_S A s.heap H locs) (hown : s.vm.findClass own = some m.cls) {q : String × String × String × List Int32} (hq : q ∈ F) (hlink : (Cond.fieldLinkNest own index ref q.2.1 q.2.2.1 host).before args s = true) (hsame : ∀ x, s.fieldFound? q.1 q.2.1 q.2.2.1 = some x → s.fieldFound? ref q.2.1 q.2.2.1 = some x) (hdg : decode cc pc = .ok (.getfield index, 3)) {v : Int32} (hv : q.2.2.2.getD i 0 = v)
    (kk : W p l e R s m args below meth c H locs cells slots Q (F0 m (pc + 3) ls (.int v :: rest))) : W p l e R s m args below meth c H locs cells slots Q (F0 m pc ls (.ref (ad i) :: rest)) := by
  subst hv
  obtain ⟨cf, k, fi, f, cell, h1, h2, h3, h4, h5, h6⟩ := ((hE.1 i hi).2.2 q hq).kept hS.2.1
  exact va_Wgetf hexec hb hown hlink (hsame _ h1) h2 h3 h4 (v := .int (q.2.2.2.getD i 0)) h5 rfl rfl hdg kk
end XS16
section XRIN
variable {p : Program} {l : Launch} {e : Env} {R : Room} {s : State} {m : MethodId} {args : Array Value} {below : List Frame} {meth : Method} {c : Code} {H : Heap} {locs : List Loc} {cells slots : Nat} {Q : State → Prop}
variable {y : MethodName} {bytes cc : ByteArray} {maxL nL mc ms n index pc : Nat} {ret : Option FieldType} {rm : Room} {own : String} {b : Addr} {As rest st0 : List Value} {ls : Array Slot} {ad : Nat → Nat} {de : Nat} {D : va_G} {ws wc : va_W} {tys tc : List (ClassId × FieldType)} {A : Nat → Prop} {free : Addr → Prop}
/-- a private constructor of a nest mate -/
theorem xrIN {host : String} {Qc : Array Value → State → Outcome → State → Prop} (S : CallFix p m c cc nL s args tt own) (hM : Met l y (tw y bytes maxL none) rm (va_Pc (.ref b :: As) (xp ad de D wc tc H.size)) Qc mc ms free)
    (m5 : Cond.code y bytes maxL none ∈ tt) (m4 : Cond.initialized y.cls ∈ tt) (m1 : va_Nw (.methodLinkNest own index y host) s) (m2 : Cond.instanceMethod y ∈ tt) (hy1 : y.name = "<init>")
    (hrc : rm.cells = mc) (hrs : rm.slots = ms) (hd : y.cls ≠ "java/lang/invoke/MethodHandle" ∧ y.cls ≠ "java/lang/invoke/VarHandle" ∧ (parseMethodDescriptor y.desc).map (fun d => d.parameters.length) = some As.length) (hR : rm.frames + 1 ≤ R.frames ∧ 8 + (maxL + 11) + rm.locals ≤ R.locals)
    (hP : va_P D cl ws H) (hK : va_K D cl tys s) (hD : va_D A ws) (hE : xe ad de A s s.heap) (hS : va_S A s.heap H locs) (hA : ∀ q, s.heap.size ≤ q → A q) (isC kt : List Nat) (hC : isC.map (fun i => ws[i]?) = wc.map some) (hn : va_nd isC = true) (ht : kt.filterMap (fun i => tys[i]?) = tc)
    (hsize : ls.size = nL) (hstack : st0 = As.reverse ++ .ref b :: rest) (hW : (rest.map fun v => v.category).sum ≤ 8) (hdg : decode cc pc = .ok (.invokespecial index, 3)) (hf : cells + mc ≤ R.cells ∧ slots + ms ≤ R.slots) :
    va_Run p l e R s m args below meth c H locs cells slots mc ms (F0 m pc ls st0) rest (Qc (Value.ref b :: As).toArray) free :=
  va_runIN (Ts := tt) (own := own) (host := host) (As := As) (rest := rest) S hM ⟨va_cnB As.length S.2.2.2.2 (tw_goodL m5) rfl hrc hrs m1 (S.2.2.2.2 _ m4) hd hR, hy1, S.2.2.2.2 _ m2⟩ ⟨xp_blind, xp_call (hP.sub isC (xfm hC)) (hK.sub kt ht) (hD.sub isC hn hC) hE hS (va_free hD hS hA isC hC)⟩ rfl rfl hsize hstack (lv_room hW) hdg hf
end XRIN
def z_SE : List Value := [.null, .int 0, .int 0, .null, .null, .int 0, .int 0, .null, .null, .int 0, .null, .null, .int 0, .int 0]
theorem z_SE_len : z_SE.length = 14 := rfl
set_option maxRecDepth 100000 in
theorem z_SE_ok : ∀ j, j < 14 → defaultValue (t_SE j) = vp_V z_SE j := by decide +kernel
def z_MD : List Value := [.int 0, .null, .int 0, .int 0, .int 0, .int 0, .int 0, .int 0, .int 0, .long 0, .int 0, .int 0, .int 0, .int 0, .int 0, .int 0, .int 0, .int 0, .int 0, .int 0, .int 0, .null, .null, .null, .null, .null, .null, .int 0, .int 0, .int 0, .null, .null, .null, .null, .null, .null, .null, .null, .null, .null, .null, .int 0, .int 0, .int 0, .int 0, .int 0, .int 0, .int 0, .int 0, .int 0, .int 0, .null, .null, .null, .null, .null, .null, .null, .null, .null, .null, .null, .null, .null, .null, .null, .null, .null, .null, .null, .null, .null, .null, .null, .null, .null, .null, .int 0, .int 0, .int 0, .int 0, .int 0, .int 0, .int 0, .null, .int 0, .int 0, .int 0, .null, .null, .null, .null, .null, .null, .null, .null, .null, .null, .null, .null, .null, .null, .null, .null, .null, .null, .int 0]
theorem z_MD_len : z_MD.length = 107 := rfl
set_option maxRecDepth 100000 in
theorem z_MD_ok : ∀ j, j < 107 → defaultValue (t_MD j) = vp_V z_MD j := by decide +kernel
def z_LX : List Value := [.null, .null, .int 0, .int 0, .int 0, .int 0]
theorem z_LX_len : z_LX.length = 6 := rfl
set_option maxRecDepth 100000 in
theorem z_LX_ok : ∀ j, j < 6 → defaultValue (t_LX j) = vp_V z_LX j := by decide +kernel
def z_NM : List Value := [.null, .null, .null, .null, .int 0, .int 0]
theorem z_NM_len : z_NM.length = 6 := rfl
set_option maxRecDepth 100000 in
theorem z_NM_ok : ∀ j, j < 6 → defaultValue (t_NM j) = vp_V z_NM j := by decide +kernel
def z_PA : List Value := [.null, .null, .null, .null, .int 0, .int 0, .int 0]
theorem z_PA_len : z_PA.length = 7 := rfl
set_option maxRecDepth 100000 in
theorem z_PA_ok : ∀ j, j < 7 → defaultValue (t_PA j) = vp_V z_PA j := by decide +kernel
def z_PI : List Value := [.null, .null, .null, .null, .null, .int 0]
theorem z_PI_len : z_PI.length = 6 := rfl
set_option maxRecDepth 100000 in
theorem z_PI_ok : ∀ j, j < 6 → defaultValue (t_PI j) = vp_V z_PI j := by decide +kernel
def z_DR : List Value := [.null, .null, .int 0, .int 0, .int 0, .int 0]
theorem z_DR_len : z_DR.length = 6 := rfl
set_option maxRecDepth 100000 in
theorem z_DR_ok : ∀ j, j < 6 → defaultValue (t_DR j) = vp_V z_DR j := by decide +kernel
def z_AL : List Value := [.null, .int 0, .int 0]
theorem z_AL_len : z_AL.length = 3 := rfl
set_option maxRecDepth 100000 in
theorem z_AL_ok : ∀ j, j < 3 → defaultValue (t_AL j) = vp_V z_AL j := by decide +kernel
def z_ND : List Value := [.int 0, .int 0, .null, .null, .int 0, .int 0, .int 0, .int 0, .int 0, .int 0, .int 0, .int 0, .int 0]
theorem z_ND_len : z_ND.length = 13 := rfl
set_option maxRecDepth 100000 in
theorem z_ND_ok : ∀ j, j < 13 → defaultValue (t_ND j) = vp_V z_ND j := by decide +kernel
def z_PG : List Value := [.null, .int 0, .int 0, .int 0, .int 0, .int 0, .null, .null, .null, .null, .null, .null, .null, .null, .null, .null, .null]
theorem z_PG_len : z_PG.length = 17 := rfl
set_option maxRecDepth 100000 in
theorem z_PG_ok : ∀ j, j < 17 → defaultValue (t_PG j) = vp_V z_PG j := by decide +kernel
def z_RE : List Value := [.null, .null, .null, .null, .null, .null, .null, .null, .null, .null, .null, .null, .int 0, .int 0, .int 0, .int 0, .int 0, .int 0]
theorem z_RE_len : z_RE.length = 18 := rfl
set_option maxRecDepth 100000 in
theorem z_RE_ok : ∀ j, j < 18 → defaultValue (t_RE j) = vp_V z_RE j := by decide +kernel
def z_AT : List Value := [.null, .null, .null, .null, .null, .null, .null, .null, .int 0, .int 0, .int 0, .int 0, .int 0, .int 0, .int 0]
theorem z_AT_len : z_AT.length = 15 := rfl
set_option maxRecDepth 100000 in
theorem z_AT_ok : ∀ j, j < 15 → defaultValue (t_AT j) = vp_V z_AT j := by decide +kernel
def z_NT : List Value := [.null, .null, .null, .null, .null, .null, .null, .null, .null, .int 0, .int 0, .int 0, .int 0, .int 0, .int 0]
theorem z_NT_len : z_NT.length = 15 := rfl
set_option maxRecDepth 100000 in
theorem z_NT_ok : ∀ j, j < 15 → defaultValue (t_NT j) = vp_V z_NT j := by decide +kernel
/-- the reference's fields that hold no array -/
def mdS (k : Nat) : Bool := !([1, 21, 22, 23, 24, 25, 26, 30, 31, 32, 33, 34, 35, 36, 37, 38, 39, 40, 51, 52, 53, 54, 55, 56, 57, 58, 59, 60, 61, 62, 63, 64, 65, 66, 67, 68, 69, 70, 71, 72, 73, 74, 75, 76, 84, 88, 89, 90, 91, 92, 93, 94, 95, 96, 97, 98, 99, 100, 101, 102, 103, 104, 105].contains k)
abbrev mdK (fs fs0 : List Value) : Prop := ∀ k, mdS k = true → fs[k]? = fs0[k]?
theorem md_keep {fs fs1 fs0 : List Value} {j : Nat} {v : Value} (e : fs1 = fs.set j v) (hj : mdS j = false) (h : mdK fs fs0) : mdK fs1 fs0 := by
  intro k hk
  have hne : j ≠ k := fun h2 => by subst h2; rw [hj] at hk; cases hk
  rw [e, List.getElem?_set_ne hne]
  exact h k hk
theorem md_len {fs fs1 : List Value} {j n : Nat} {v : Value} (e : fs1 = fs.set j v) (h : fs.length = n) : fs1.length = n := by rw [e, List.length_set]; exact h
theorem md_ne {fs fs1 : List Value} {j k : Nat} {v w : Value} (e : fs1 = fs.set j v) (hn : j ≠ k) (h : xfa fs k w) : xfa fs1 k w := by rw [e]; exact xg_ne hn h
theorem md_eq {fs fs1 : List Value} {j n : Nat} {v : Value} (e : fs1 = fs.set j v) (h : fs.length = n) (hj : j < n) : xfa fs1 j v := by rw [e]; exact xg_eq (by rw [h]; exact hj)
/-! words that the walks use, each by its place; written by wip/gen -/
theorem w_3 : Cond.initialized "java/util/Arrays" ∈ tt := tt_of 3 (by decide +kernel) rfl
theorem w_4 : Cond.initialized "java/lang/Math" ∈ tt := tt_of 4 (by decide +kernel) rfl
theorem w_5 : Cond.initialized "java/lang/System" ∈ tt := tt_of 5 (by decide +kernel) rfl
theorem w_6 : Cond.initialized "SignalEngine$Parser" ∈ tt := tt_of 6 (by decide +kernel) rfl
theorem w_7 : Cond.initialized "SignalEngine$Draft" ∈ tt := tt_of 7 (by decide +kernel) rfl
theorem w_8 : Cond.initialized "java/util/AbstractCollection" ∈ tt := tt_of 8 (by decide +kernel) rfl
theorem w_9 : Cond.initialized "java/util/AbstractList" ∈ tt := tt_of 9 (by decide +kernel) rfl
theorem w_10 : Cond.initialized "java/util/ArrayList" ∈ tt := tt_of 10 (by decide +kernel) rfl
theorem w_11 : Cond.initialized "SignalEngine$Pieces" ∈ tt := tt_of 11 (by decide +kernel) rfl
theorem w_12 : Cond.initialized "SignalEngine$Lexer" ∈ tt := tt_of 12 (by decide +kernel) rfl
theorem w_15 : Cond.initialized "SignalEngine$Names" ∈ tt := tt_of 15 (by decide +kernel) rfl
theorem w_40 : Cond.instanceMethod ⟨"java/lang/Object", "<init>", "()V"⟩ ∈ tt := tt_of 40 (by decide +kernel) rfl
set_option maxRecDepth 100000 in
theorem w_41 : Cond.code ⟨"java/lang/Object", "<init>", "()V"⟩ object_method_1_code 1 (Option.none : Option Jvm.ClassFile.FieldType) ∈ tt := tt_of 41 rfl rfl
theorem w_46 : Cond.fieldLink "SignalEngine" 61 "SignalEngine" "reactor" "LSignalEngine$Reactor;" ∈ tt := tt_of 46 (by decide +kernel) rfl
theorem w_47 : Cond.fieldLink "SignalEngine" 82 "SignalEngine" "started" "Z" ∈ tt := tt_of 47 (by decide +kernel) rfl
theorem w_48 : Cond.fieldLink "SignalEngine" 85 "SignalEngine" "ended" "Z" ∈ tt := tt_of 48 (by decide +kernel) rfl
theorem w_51 : Cond.fieldLink "SignalEngine" 88 "SignalEngine" "reactions" "I" ∈ tt := tt_of 51 (by decide +kernel) rfl
theorem w_85 : Cond.arrayClass Jvm.ClassFile.FieldType.byte ∈ tt := tt_of 85 (by decide +kernel) rfl
theorem w_91 : Cond.methodLink "SignalEngine" 18 ⟨"java/util/Arrays", "copyOf", "([BI)[B"⟩ ∈ tt := tt_of 91 (by decide +kernel) rfl
theorem w_92 : Cond.static ⟨"java/util/Arrays", "copyOf", "([BI)[B"⟩ ∈ tt := tt_of 92 (by decide +kernel) rfl
set_option maxRecDepth 100000 in
theorem w_93 : Cond.code ⟨"java/util/Arrays", "copyOf", "([BI)[B"⟩ prog_34_method_121_code 3 (Option.some (Jvm.ClassFile.FieldType.array Jvm.ClassFile.FieldType.byte)) ∈ tt := tt_of 93 rfl rfl
theorem w_101 : Cond.methodLink "java/util/Arrays" 304 ⟨"java/lang/Math", "min", "(II)I"⟩ ∈ tt := tt_of 101 (by decide +kernel) rfl
theorem w_102 : Cond.static ⟨"java/lang/Math", "min", "(II)I"⟩ ∈ tt := tt_of 102 (by decide +kernel) rfl
set_option maxRecDepth 100000 in
theorem w_103 : Cond.code ⟨"java/lang/Math", "min", "(II)I"⟩ prog_24_method_69_code 2 (Option.some Jvm.ClassFile.FieldType.int) ∈ tt := tt_of 103 rfl rfl
theorem w_104 : Cond.methodLink "java/util/Arrays" 150 ⟨"java/lang/System", "arraycopy", "(Ljava/lang/Object;ILjava/lang/Object;II)V"⟩ ∈ tt := tt_of 104 (by decide +kernel) rfl
theorem w_105 : Cond.static ⟨"java/lang/System", "arraycopy", "(Ljava/lang/Object;ILjava/lang/Object;II)V"⟩ ∈ tt := tt_of 105 (by decide +kernel) rfl
theorem w_106 : Cond.native ⟨"java/lang/System", "arraycopy", "(Ljava/lang/Object;ILjava/lang/Object;II)V"⟩ ∈ tt := tt_of 106 (by decide +kernel) rfl
theorem w_119 : Cond.methodLink "SignalEngine" 32 ⟨"SignalEngine", "forget", "()V"⟩ ∈ tt := tt_of 119 (by decide +kernel) rfl
theorem w_121 : Cond.instanceMethod ⟨"SignalEngine", "forget", "()V"⟩ ∈ tt := tt_of 121 (by decide +kernel) rfl
set_option maxRecDepth 100000 in
theorem w_122 : Cond.code ⟨"SignalEngine", "forget", "()V"⟩ prog_1_method_6_code 1 (Option.none : Option Jvm.ClassFile.FieldType) ∈ tt := tt_of 122 rfl rfl
theorem w_123 : Cond.classLink "SignalEngine" 35 "SignalEngine$Parser" ∈ tt := tt_of 123 (by decide +kernel) rfl
theorem w_124 : Cond.instantiable "SignalEngine$Parser" 7 ∈ tt := tt_of 124 (by decide +kernel) rfl
theorem w_125 : Cond.methodLink "SignalEngine" 37 ⟨"SignalEngine$Parser", "<init>", "([B)V"⟩ ∈ tt := tt_of 125 (by decide +kernel) rfl
theorem w_126 : Cond.instanceMethod ⟨"SignalEngine$Parser", "<init>", "([B)V"⟩ ∈ tt := tt_of 126 (by decide +kernel) rfl
set_option maxRecDepth 100000 in
theorem w_127 : Cond.code ⟨"SignalEngine$Parser", "<init>", "([B)V"⟩ prog_9_method_1_code 2 (Option.none : Option Jvm.ClassFile.FieldType) ∈ tt := tt_of 127 rfl rfl
theorem w_128 : Cond.methodLink "SignalEngine$Parser" 3 ⟨"java/lang/Object", "<init>", "()V"⟩ ∈ tt := tt_of 128 (by decide +kernel) rfl
theorem w_129 : Cond.classLink "SignalEngine$Parser" 9 "SignalEngine$Draft" ∈ tt := tt_of 129 (by decide +kernel) rfl
theorem w_130 : Cond.instantiable "SignalEngine$Draft" 6 ∈ tt := tt_of 130 (by decide +kernel) rfl
theorem w_132 : Cond.instanceMethod ⟨"SignalEngine$Draft", "<init>", "()V"⟩ ∈ tt := tt_of 132 (by decide +kernel) rfl
set_option maxRecDepth 100000 in
theorem w_133 : Cond.code ⟨"SignalEngine$Draft", "<init>", "()V"⟩ prog_4_method_1_code 1 (Option.none : Option Jvm.ClassFile.FieldType) ∈ tt := tt_of 133 rfl rfl
theorem w_134 : Cond.methodLink "SignalEngine$Draft" 3 ⟨"java/lang/Object", "<init>", "()V"⟩ ∈ tt := tt_of 134 (by decide +kernel) rfl
theorem w_135 : Cond.classLink "SignalEngine$Draft" 9 "java/util/ArrayList" ∈ tt := tt_of 135 (by decide +kernel) rfl
theorem w_136 : Cond.instantiable "java/util/ArrayList" 3 ∈ tt := tt_of 136 (by decide +kernel) rfl
theorem w_137 : Cond.methodLink "SignalEngine$Draft" 11 ⟨"java/util/ArrayList", "<init>", "()V"⟩ ∈ tt := tt_of 137 (by decide +kernel) rfl
theorem w_138 : Cond.instanceMethod ⟨"java/util/ArrayList", "<init>", "()V"⟩ ∈ tt := tt_of 138 (by decide +kernel) rfl
set_option maxRecDepth 100000 in
theorem w_139 : Cond.code ⟨"java/util/ArrayList", "<init>", "()V"⟩ prog_33_method_2_code 1 (Option.none : Option Jvm.ClassFile.FieldType) ∈ tt := tt_of 139 rfl rfl
theorem w_140 : Cond.methodLink "java/util/ArrayList" 1 ⟨"java/util/AbstractList", "<init>", "()V"⟩ ∈ tt := tt_of 140 (by decide +kernel) rfl
theorem w_141 : Cond.instanceMethod ⟨"java/util/AbstractList", "<init>", "()V"⟩ ∈ tt := tt_of 141 (by decide +kernel) rfl
set_option maxRecDepth 100000 in
theorem w_142 : Cond.code ⟨"java/util/AbstractList", "<init>", "()V"⟩ prog_32_method_1_code 1 (Option.none : Option Jvm.ClassFile.FieldType) ∈ tt := tt_of 142 rfl rfl
theorem w_143 : Cond.methodLink "java/util/AbstractList" 1 ⟨"java/util/AbstractCollection", "<init>", "()V"⟩ ∈ tt := tt_of 143 (by decide +kernel) rfl
theorem w_144 : Cond.instanceMethod ⟨"java/util/AbstractCollection", "<init>", "()V"⟩ ∈ tt := tt_of 144 (by decide +kernel) rfl
set_option maxRecDepth 100000 in
theorem w_145 : Cond.code ⟨"java/util/AbstractCollection", "<init>", "()V"⟩ prog_31_method_1_code 1 (Option.none : Option Jvm.ClassFile.FieldType) ∈ tt := tt_of 145 rfl rfl
theorem w_146 : Cond.methodLink "java/util/AbstractCollection" 1 ⟨"java/lang/Object", "<init>", "()V"⟩ ∈ tt := tt_of 146 (by decide +kernel) rfl
theorem w_147 : Cond.fieldLink "java/util/ArrayList" 39 "java/util/ArrayList" "DEFAULTCAPACITY_EMPTY_ELEMENTDATA" "[Ljava/lang/Object;" ∈ tt := tt_of 147 (by decide +kernel) rfl
theorem w_149 : Cond.fieldLink "java/util/ArrayList" 9 "java/util/ArrayList" "elementData" "[Ljava/lang/Object;" ∈ tt := tt_of 149 (by decide +kernel) rfl
theorem w_151 : Cond.fieldLink "java/util/AbstractList" 7 "java/util/AbstractList" "modCount" "I" ∈ tt := tt_of 151 (by decide +kernel) rfl
theorem w_161 : Cond.classLink "SignalEngine$Draft" 18 "SignalEngine$Pieces" ∈ tt := tt_of 161 (by decide +kernel) rfl
theorem w_162 : Cond.instantiable "SignalEngine$Pieces" 6 ∈ tt := tt_of 162 (by decide +kernel) rfl
theorem w_163 : Cond.methodLink "SignalEngine$Draft" 20 ⟨"SignalEngine$Pieces", "<init>", "(I)V"⟩ ∈ tt := tt_of 163 (by decide +kernel) rfl
theorem w_164 : Cond.instanceMethod ⟨"SignalEngine$Pieces", "<init>", "(I)V"⟩ ∈ tt := tt_of 164 (by decide +kernel) rfl
set_option maxRecDepth 100000 in
theorem w_165 : Cond.code ⟨"SignalEngine$Pieces", "<init>", "(I)V"⟩ prog_10_method_1_code 2 (Option.none : Option Jvm.ClassFile.FieldType) ∈ tt := tt_of 165 rfl rfl
theorem w_166 : Cond.methodLink "SignalEngine$Pieces" 3 ⟨"java/lang/Object", "<init>", "()V"⟩ ∈ tt := tt_of 166 (by decide +kernel) rfl
theorem w_167 : Cond.fieldLink "SignalEngine$Pieces" 9 "SignalEngine$Pieces" "kind" "[I" ∈ tt := tt_of 167 (by decide +kernel) rfl
theorem w_170 : Cond.fieldLink "SignalEngine$Pieces" 15 "SignalEngine$Pieces" "first" "[I" ∈ tt := tt_of 170 (by decide +kernel) rfl
theorem w_173 : Cond.fieldLink "SignalEngine$Pieces" 18 "SignalEngine$Pieces" "second" "[I" ∈ tt := tt_of 173 (by decide +kernel) rfl
theorem w_176 : Cond.fieldLink "SignalEngine$Pieces" 21 "SignalEngine$Pieces" "extent" "[I" ∈ tt := tt_of 176 (by decide +kernel) rfl
theorem w_179 : Cond.fieldLink "SignalEngine$Pieces" 24 "SignalEngine$Pieces" "place" "[I" ∈ tt := tt_of 179 (by decide +kernel) rfl
theorem w_197 : Cond.arrayClass Jvm.ClassFile.FieldType.int ∈ tt := tt_of 197 (by decide +kernel) rfl
theorem w_199 : Cond.fieldLink "SignalEngine$Draft" 12 "SignalEngine$Draft" "nodes" "Ljava/util/ArrayList;" ∈ tt := tt_of 199 (by decide +kernel) rfl
theorem w_200 : Cond.fieldLink "SignalEngine$Draft" 23 "SignalEngine$Draft" "pieces" "LSignalEngine$Pieces;" ∈ tt := tt_of 200 (by decide +kernel) rfl
theorem w_224 : Cond.classLink "SignalEngine$Parser" 18 "SignalEngine$Lexer" ∈ tt := tt_of 224 (by decide +kernel) rfl
theorem w_225 : Cond.instantiable "SignalEngine$Lexer" 6 ∈ tt := tt_of 225 (by decide +kernel) rfl
theorem w_226 : Cond.methodLink "SignalEngine$Parser" 20 ⟨"SignalEngine$Lexer", "<init>", "([B)V"⟩ ∈ tt := tt_of 226 (by decide +kernel) rfl
theorem w_227 : Cond.instanceMethod ⟨"SignalEngine$Lexer", "<init>", "([B)V"⟩ ∈ tt := tt_of 227 (by decide +kernel) rfl
set_option maxRecDepth 100000 in
theorem w_228 : Cond.code ⟨"SignalEngine$Lexer", "<init>", "([B)V"⟩ prog_5_method_1_code 2 (Option.none : Option Jvm.ClassFile.FieldType) ∈ tt := tt_of 228 rfl rfl
theorem w_229 : Cond.methodLink "SignalEngine$Lexer" 1 ⟨"java/lang/Object", "<init>", "()V"⟩ ∈ tt := tt_of 229 (by decide +kernel) rfl
theorem w_230 : Cond.fieldLink "SignalEngine$Lexer" 7 "SignalEngine$Token" "STOP" "LSignalEngine$Token;" ∈ tt := tt_of 230 (by decide +kernel) rfl
theorem w_232 : Cond.fieldLink "SignalEngine$Lexer" 22 "SignalEngine$Lexer" "text" "[B" ∈ tt := tt_of 232 (by decide +kernel) rfl
theorem w_234 : Cond.fieldLink "SignalEngine$Lexer" 13 "SignalEngine$Lexer" "token" "LSignalEngine$Token;" ∈ tt := tt_of 234 (by decide +kernel) rfl
theorem w_237 : Cond.fieldLink "SignalEngine$Lexer" 49 "SignalEngine$Lexer" "from" "I" ∈ tt := tt_of 237 (by decide +kernel) rfl
theorem w_239 : Cond.fieldLink "SignalEngine$Lexer" 46 "SignalEngine$Lexer" "to" "I" ∈ tt := tt_of 239 (by decide +kernel) rfl
theorem w_240 : Cond.fieldLink "SignalEngine$Lexer" 18 "SignalEngine$Lexer" "line" "I" ∈ tt := tt_of 240 (by decide +kernel) rfl
theorem w_242 : Cond.fieldLink "SignalEngine$Lexer" 26 "SignalEngine$Lexer" "fault" "I" ∈ tt := tt_of 242 (by decide +kernel) rfl
theorem w_257 : Cond.classLink "SignalEngine$Parser" 27 "SignalEngine$Names" ∈ tt := tt_of 257 (by decide +kernel) rfl
theorem w_258 : Cond.instantiable "SignalEngine$Names" 6 ∈ tt := tt_of 258 (by decide +kernel) rfl
theorem w_259 : Cond.methodLink "SignalEngine$Parser" 29 ⟨"SignalEngine$Names", "<init>", "([B)V"⟩ ∈ tt := tt_of 259 (by decide +kernel) rfl
theorem w_260 : Cond.instanceMethod ⟨"SignalEngine$Names", "<init>", "([B)V"⟩ ∈ tt := tt_of 260 (by decide +kernel) rfl
set_option maxRecDepth 100000 in
theorem w_261 : Cond.code ⟨"SignalEngine$Names", "<init>", "([B)V"⟩ prog_6_method_1_code 2 (Option.none : Option Jvm.ClassFile.FieldType) ∈ tt := tt_of 261 rfl rfl
theorem w_262 : Cond.methodLink "SignalEngine$Names" 3 ⟨"java/lang/Object", "<init>", "()V"⟩ ∈ tt := tt_of 262 (by decide +kernel) rfl
theorem w_263 : Cond.fieldLink "SignalEngine$Names" 21 "SignalEngine$Names" "text" "[B" ∈ tt := tt_of 263 (by decide +kernel) rfl
theorem w_264 : Cond.fieldLink "SignalEngine$Names" 9 "SignalEngine$Names" "from" "[I" ∈ tt := tt_of 264 (by decide +kernel) rfl
theorem w_265 : Cond.fieldLink "SignalEngine$Names" 15 "SignalEngine$Names" "extent" "[I" ∈ tt := tt_of 265 (by decide +kernel) rfl
theorem w_266 : Cond.fieldLink "SignalEngine$Names" 18 "SignalEngine$Names" "scope" "[I" ∈ tt := tt_of 266 (by decide +kernel) rfl
theorem w_286 : Cond.fieldLink "SignalEngine$Parser" 23 "SignalEngine$Parser" "lexer" "LSignalEngine$Lexer;" ∈ tt := tt_of 286 (by decide +kernel) rfl
theorem w_288 : Cond.fieldLink "SignalEngine$Parser" 30 "SignalEngine$Parser" "signals" "LSignalEngine$Names;" ∈ tt := tt_of 288 (by decide +kernel) rfl
theorem w_289 : Cond.fieldLink "SignalEngine$Parser" 34 "SignalEngine$Parser" "traps" "LSignalEngine$Names;" ∈ tt := tt_of 289 (by decide +kernel) rfl
theorem w_291 : Cond.fieldLink "SignalEngine$Parser" 12 "SignalEngine$Parser" "draft" "LSignalEngine$Draft;" ∈ tt := tt_of 291 (by decide +kernel) rfl
theorem w_293 : Cond.fieldLink "SignalEngine$Parser" 57 "SignalEngine$Parser" "inputs" "I" ∈ tt := tt_of 293 (by decide +kernel) rfl
theorem w_295 : Cond.fieldLink "SignalEngine$Parser" 60 "SignalEngine$Parser" "outputs" "I" ∈ tt := tt_of 295 (by decide +kernel) rfl
theorem w_312 : Cond.methodLink "SignalEngine" 40 ⟨"SignalEngine$Parser", "parse", "()I"⟩ ∈ tt := tt_of 312 (by decide +kernel) rfl
theorem w_313 : Cond.instanceMethod ⟨"SignalEngine$Parser", "parse", "()I"⟩ ∈ tt := tt_of 313 (by decide +kernel) rfl
theorem w_314 : Cond.selects "SignalEngine$Parser" ⟨"SignalEngine$Parser", "parse", "()I"⟩ ⟨"SignalEngine$Parser", "parse", "()I"⟩ ∈ tt := tt_of 314 (by decide +kernel) rfl
set_option maxRecDepth 100000 in
theorem w_315 : Cond.codeWith ⟨"SignalEngine$Parser", "parse", "()I"⟩ prog_9_method_2_code 2 (Option.some Jvm.ClassFile.FieldType.int) [(0, 4, 7, 40)] ∈ tt := tt_of 315 rfl rfl
theorem w_316 : Cond.classLink "SignalEngine$Parser" 40 "java/lang/IllegalArgumentException" ∈ tt := tt_of 316 (by decide +kernel) rfl
theorem w_317 : Cond.methodLink "SignalEngine$Parser" 37 ⟨"SignalEngine$Parser", "takeProgram", "()V"⟩ ∈ tt := tt_of 317 (by decide +kernel) rfl
theorem w_319 : Cond.instanceMethod ⟨"SignalEngine$Parser", "takeProgram", "()V"⟩ ∈ tt := tt_of 319 (by decide +kernel) rfl
set_option maxRecDepth 100000 in
theorem w_320 : Cond.code ⟨"SignalEngine$Parser", "takeProgram", "()V"⟩ prog_9_method_4_code 1 (Option.none : Option Jvm.ClassFile.FieldType) ∈ tt := tt_of 320 rfl rfl
theorem w_321 : Cond.methodLink "SignalEngine$Parser" 67 ⟨"SignalEngine$Lexer", "open", "()V"⟩ ∈ tt := tt_of 321 (by decide +kernel) rfl
theorem w_322 : Cond.instanceMethod ⟨"SignalEngine$Lexer", "open", "()V"⟩ ∈ tt := tt_of 322 (by decide +kernel) rfl
theorem w_323 : Cond.selects "SignalEngine$Lexer" ⟨"SignalEngine$Lexer", "open", "()V"⟩ ⟨"SignalEngine$Lexer", "open", "()V"⟩ ∈ tt := tt_of 323 (by decide +kernel) rfl
set_option maxRecDepth 100000 in
theorem w_324 : Cond.code ⟨"SignalEngine$Lexer", "open", "()V"⟩ prog_5_method_4_code 3 (Option.none : Option Jvm.ClassFile.FieldType) ∈ tt := tt_of 324 rfl rfl
theorem w_326 : Cond.instanceMethod ⟨"SignalEngine$Lexer", "require", "(Z)V"⟩ ∈ tt := tt_of 326 (by decide +kernel) rfl
theorem w_327 : Cond.selects "SignalEngine$Lexer" ⟨"SignalEngine$Lexer", "require", "(Z)V"⟩ ⟨"SignalEngine$Lexer", "require", "(Z)V"⟩ ∈ tt := tt_of 327 (by decide +kernel) rfl
set_option maxRecDepth 100000 in
theorem w_328 : Cond.code ⟨"SignalEngine$Lexer", "require", "(Z)V"⟩ prog_5_method_3_code 2 (Option.none : Option Jvm.ClassFile.FieldType) ∈ tt := tt_of 328 rfl rfl
theorem w_329 : Cond.methodLink "SignalEngine$Lexer" 32 ⟨"SignalEngine$Lexer", "refuse", "(I)V"⟩ ∈ tt := tt_of 329 (by decide +kernel) rfl
theorem w_330 : Cond.instanceMethod ⟨"SignalEngine$Lexer", "refuse", "(I)V"⟩ ∈ tt := tt_of 330 (by decide +kernel) rfl
theorem w_331 : Cond.selects "SignalEngine$Lexer" ⟨"SignalEngine$Lexer", "refuse", "(I)V"⟩ ⟨"SignalEngine$Lexer", "refuse", "(I)V"⟩ ∈ tt := tt_of 331 (by decide +kernel) rfl
set_option maxRecDepth 100000 in
theorem w_332 : Cond.code ⟨"SignalEngine$Lexer", "refuse", "(I)V"⟩ prog_5_method_2_code 2 (Option.none : Option Jvm.ClassFile.FieldType) ∈ tt := tt_of 332 rfl rfl
theorem w_395 : Cond.methodLink "SignalEngine$Lexer" 40 ⟨"SignalEngine$Lexer", "advance", "()V"⟩ ∈ tt := tt_of 395 (by decide +kernel) rfl
theorem w_396 : Cond.instanceMethod ⟨"SignalEngine$Lexer", "advance", "()V"⟩ ∈ tt := tt_of 396 (by decide +kernel) rfl
theorem w_397 : Cond.selects "SignalEngine$Lexer" ⟨"SignalEngine$Lexer", "advance", "()V"⟩ ⟨"SignalEngine$Lexer", "advance", "()V"⟩ ∈ tt := tt_of 397 (by decide +kernel) rfl
set_option maxRecDepth 100000 in
theorem w_398 : Cond.code ⟨"SignalEngine$Lexer", "advance", "()V"⟩ prog_5_method_5_code 2 (Option.none : Option Jvm.ClassFile.FieldType) ∈ tt := tt_of 398 rfl rfl
theorem w_399 : Cond.methodLink "SignalEngine$Lexer" 43 ⟨"SignalEngine$Lexer", "skipGaps", "()V"⟩ ∈ tt := tt_of 399 (by decide +kernel) rfl
theorem w_401 : Cond.instanceMethod ⟨"SignalEngine$Lexer", "skipGaps", "()V"⟩ ∈ tt := tt_of 401 (by decide +kernel) rfl
set_option maxRecDepth 100000 in
theorem w_402 : Cond.code ⟨"SignalEngine$Lexer", "skipGaps", "()V"⟩ prog_5_method_6_code 3 (Option.none : Option Jvm.ClassFile.FieldType) ∈ tt := tt_of 402 rfl rfl
theorem w_470 : Cond.fieldLink "SignalEngine$Parser" 74 "SignalEngine$Token" "IN" "LSignalEngine$Token;" ∈ tt := tt_of 470 (by decide +kernel) rfl
theorem w_478 : Cond.methodLink "SignalEngine$Parser" 102 ⟨"SignalEngine$Lexer", "require", "(Z)V"⟩ ∈ tt := tt_of 478 (by decide +kernel) rfl
theorem w_512 : Cond.fieldLink "SignalEngine$Parser" 92 "SignalEngine$Token" "OUT" "LSignalEngine$Token;" ∈ tt := tt_of 512 (by decide +kernel) rfl
theorem w_514 : Cond.methodLink "SignalEngine$Parser" 95 ⟨"SignalEngine$Parser", "takeBody", "()LSignalEngine$Node;"⟩ ∈ tt := tt_of 514 (by decide +kernel) rfl
theorem w_516 : Cond.instanceMethod ⟨"SignalEngine$Parser", "takeBody", "()LSignalEngine$Node;"⟩ ∈ tt := tt_of 516 (by decide +kernel) rfl
set_option maxRecDepth 100000 in
theorem w_517 : Cond.code ⟨"SignalEngine$Parser", "takeBody", "()LSignalEngine$Node;"⟩ prog_9_method_10_code 3 (Option.some (Jvm.ClassFile.FieldType.object "SignalEngine$Node")) ∈ tt := tt_of 517 rfl rfl
theorem w_518 : Cond.methodLink "SignalEngine$Parser" 136 ⟨"SignalEngine$Parser", "takeRow", "()LSignalEngine$Node;"⟩ ∈ tt := tt_of 518 (by decide +kernel) rfl
theorem w_520 : Cond.instanceMethod ⟨"SignalEngine$Parser", "takeRow", "()LSignalEngine$Node;"⟩ ∈ tt := tt_of 520 (by decide +kernel) rfl
set_option maxRecDepth 100000 in
theorem w_521 : Cond.code ⟨"SignalEngine$Parser", "takeRow", "()LSignalEngine$Node;"⟩ prog_9_method_11_code 3 (Option.some (Jvm.ClassFile.FieldType.object "SignalEngine$Node")) ∈ tt := tt_of 521 rfl rfl
theorem w_522 : Cond.methodLink "SignalEngine$Parser" 151 ⟨"SignalEngine$Parser", "takeStatement", "()LSignalEngine$Node;"⟩ ∈ tt := tt_of 522 (by decide +kernel) rfl
theorem w_524 : Cond.instanceMethod ⟨"SignalEngine$Parser", "takeStatement", "()LSignalEngine$Node;"⟩ ∈ tt := tt_of 524 (by decide +kernel) rfl
set_option maxRecDepth 100000 in
theorem w_525 : Cond.code ⟨"SignalEngine$Parser", "takeStatement", "()LSignalEngine$Node;"⟩ prog_9_method_12_code 4 (Option.some (Jvm.ClassFile.FieldType.object "SignalEngine$Node")) ∈ tt := tt_of 525 rfl rfl
theorem wp_1 : Cond.selects "SignalEngine" ⟨"SignalEngine", "forget", "()V"⟩ ⟨"SignalEngine", "forget", "()V"⟩ ∈ tt := tt_sel 1 (by decide +kernel) rfl
theorem wp_12 : Cond.selects "SignalEngine$Parser" ⟨"SignalEngine$Parser", "takeBody", "()LSignalEngine$Node;"⟩ ⟨"SignalEngine$Parser", "takeBody", "()LSignalEngine$Node;"⟩ ∈ tt := tt_sel 12 (by decide +kernel) rfl
theorem wp_13 : Cond.selects "SignalEngine$Parser" ⟨"SignalEngine$Parser", "takeRow", "()LSignalEngine$Node;"⟩ ⟨"SignalEngine$Parser", "takeRow", "()LSignalEngine$Node;"⟩ ∈ tt := tt_sel 13 (by decide +kernel) rfl
theorem wp_14 : Cond.selects "SignalEngine$Parser" ⟨"SignalEngine$Parser", "takeStatement", "()LSignalEngine$Node;"⟩ ⟨"SignalEngine$Parser", "takeStatement", "()LSignalEngine$Node;"⟩ ∈ tt := tt_sel 14 (by decide +kernel) rfl
theorem wp_2 : Cond.selects "SignalEngine$Parser" ⟨"SignalEngine$Parser", "takeProgram", "()V"⟩ ⟨"SignalEngine$Parser", "takeProgram", "()V"⟩ ∈ tt := tt_sel 2 (by decide +kernel) rfl
theorem wp_4 : Cond.selects "SignalEngine$Lexer" ⟨"SignalEngine$Lexer", "skipGaps", "()V"⟩ ⟨"SignalEngine$Lexer", "skipGaps", "()V"⟩ ∈ tt := tt_sel 4 (by decide +kernel) rfl
theorem wn_131 : Cond.methodLinkNest "SignalEngine$Parser" 11 ⟨"SignalEngine$Draft", "<init>", "()V"⟩ "SignalEngine" ∈ nn := nn_of 131 (by decide +kernel) rfl
theorem wn_235 : Cond.fieldLinkNest "SignalEngine$Parser" 70 "SignalEngine$Lexer" "token" "LSignalEngine$Token;" "SignalEngine" ∈ nn := nn_of 235 (by decide +kernel) rfl
theorem wn_241 : Cond.fieldLinkNest "SignalEngine$Parser" 154 "SignalEngine$Lexer" "line" "I" "SignalEngine" ∈ nn := nn_of 241 (by decide +kernel) rfl
theorem wn_243 : Cond.fieldLinkNest "SignalEngine$Parser" 42 "SignalEngine$Lexer" "fault" "I" "SignalEngine" ∈ nn := nn_of 243 (by decide +kernel) rfl
theorem wn_269 : Cond.fieldLinkNest "SignalEngine$Parser" 46 "SignalEngine$Names" "made" "I" "SignalEngine" ∈ nn := nn_of 269 (by decide +kernel) rfl
theorem wn_2371 : Cond.fieldLinkNest "SignalEngine$Parser" 155 "SignalEngine$Token" "starts" "Z" "SignalEngine" ∈ nn := nn_of 2371 (by decide +kernel) rfl
set_option maxRecDepth 100000 in
theorem exA_SignalEngine_Lexer_31_two : xc_two "SignalEngine$Lexer" 31 "java/lang/IllegalArgumentException" ex_up := by unfold xc_two; decide +kernel
set_option maxRecDepth 100000 in
theorem exA_SignalEngine_Lexer_31 : ∀ w ∈ xc_ws "SignalEngine$Lexer" 29 31 "java/lang/IllegalArgumentException" ex_up, w ∈ tt ∨ w ∈ nn := xin (by decide +kernel)
