/-! the class's heap told as a list of cells, its size, what is left of cells and slots; a walk's judgement over it; what stands outside of it (constants) -/
abbrev hg_S : Type := va_W × Nat × Nat × Nat
/-- classes of arrays; Token's constants; ArrayList's empty array; other constants' places -/
abbrev hg_E : Type := (Nat → ClassId) × (Nat → Nat) × Nat × (Nat → Nat)
def hg_tot (H : Heap) : Nat := H.foldl (fun n c => n + c.slots.size) 0
def hg_T (g : Nat → ClassId) : List (ClassId × FieldType) := [(g 0, .int), (g 1, .byte), (g 2, .boolean), (g 3, .object "java/lang/Object"), (g 4, .long)]
theorem va_rf_cat (r : Option Nat) : (va_rf r).category = 1 := by cases r <;> rfl
/-- static int arrays -/
def hk_sn : Nat → String × String
  | 0 => ("SignalEngine$Reactor", "NEGATED")
  | 1 => ("SignalEngine$Reactor", "LESSER")
  | 2 => ("SignalEngine$Reactor", "GREATER")
  | _ => ("SignalEngine$1", "$SwitchMap$SignalEngine$Token")
def hk_sv : Nat → List Int32
  | 0 => [1, 0, 2]
  | 1 => [0, 0, 0, 0, 1, 2, 0, 2, 2]
  | 2 => [0, 1, 2, 1, 1, 1, 2, 1, 2]
  | _ => [0, 0, 1, 2, 3, 4, 5, 6, 8, 0, 0, 0, 13, 0, 9, 0, 10, 11, 0, 0, 0, 7, 14, 15, 12, 0, 0, 0, 0, 0, 0, 0, 0]
/-- the texts of Token's constants -/
def hk_tx : List (List Int32) := [[105, 110], [111, 117, 116], [110, 111, 116, 104, 105, 110, 103], [112, 97, 117, 115, 101], [104, 97, 108, 116], [101, 109, 105, 116], [115, 117, 115, 116, 97, 105, 110], [101, 120, 105, 116], [112, 114, 101, 115, 101, 110, 116], [116, 104, 101, 110], [101, 108, 115, 101], [101, 110, 100], [115, 117, 115, 112, 101, 110, 100], [119, 104, 101, 110], [108, 111, 111, 112], [101, 97, 99, 104], [116, 114, 97, 112], [115, 105, 103, 110, 97, 108], [110, 111, 116], [97, 110, 100], [111, 114], [97, 119, 97, 105, 116], [97, 98, 111, 114, 116], [119, 101, 97, 107], [101, 118, 101, 114, 121], [100, 111], [59], [44], [40], [41], [124, 124], [], []]
def hk_env (G : hg_E) (A : Nat → Prop) (U : State) (H : Heap) : Prop :=
  (∀ j, j < 4 → va_Z (hk_sn j).1 (hk_sn j).2 "[I" (.ref (G.2.2.2 j)) A U H ∧ va_T .int (G.2.2.2 j) (hk_sv j).length (fun i => .int ((hk_sv j).getD i 0)) A U H) ∧
  (va_Z "SignalEngine$Lexer" "TOKENS" "[LSignalEngine$Token;" (.ref (G.2.2.2 4)) A U H ∧ va_T (.object "SignalEngine$Token") (G.2.2.2 4) 33 (fun i => .ref (G.2.1 i)) A U H) ∧
  (va_Z "java/lang/String" "COMPACT_STRINGS" "Z" (.int 1) A U H ∧ (∃ v : Value, v.isRef = true ∧ va_Z "jdk/internal/util/Preconditions" "SIOOBE_FORMATTER" "Ljava/util/function/BiFunction;" v A U H) ∧ va_T (.object "java/lang/Object") G.2.2.1 0 (fun _ => .null) A U H ∧ va_Mi "[Ljava/lang/Object;" (G.2.2.2 5) U ∧ va_AO "java/lang/Object" U) ∧
  (∀ j, j < 33 → va_OF "SignalEngine$Token" "text" "Ljava/lang/String;" (.ref (G.2.2.2 (10 + j))) (G.2.1 j) A U H ∧ va_O "java/lang/String" (G.2.2.2 (10 + j)) A U H ∧ va_OF "java/lang/String" "value" "[B" (.ref (G.2.2.2 (50 + j))) (G.2.2.2 (10 + j)) A U H ∧ va_OF "java/lang/String" "coder" "B" (.int 0) (G.2.2.2 (10 + j)) A U H ∧
    va_T .byte (G.2.2.2 (50 + j)) (hk_tx.getD j []).length (fun i => .int ((hk_tx.getD j []).getD i 0)) A U H)
theorem hk_env.moved {G : hg_E} {A : Nat → Prop} {u U : State} {H : Heap} (hvm : u.vm.Alike U.vm) (h : hk_env G A u H) : hk_env G A U H := by
  obtain ⟨h1, ⟨h2, h3⟩, ⟨h4, ⟨v, hv, h5⟩, h6, h7, h10⟩, h8⟩ := h
  refine ⟨fun j hj => ⟨(h1 j hj).1.moved hvm, (h1 j hj).2.moved hvm⟩, ⟨h2.moved hvm, h3.moved hvm⟩, ⟨h4.moved hvm, ⟨v, hv, h5.moved hvm⟩, h6.moved hvm, h7.moved hvm, h10.moved hvm⟩, fun j hj => ?_⟩
  obtain ⟨k1, k2, k3, k4, k5⟩ := h8 j hj
  exact ⟨k1.moved hvm, k2.moved hvm, k3.moved hvm, k4.moved hvm, k5.moved hvm⟩
theorem hk_env.kept {G : hg_E} {A : Nat → Prop} {U : State} {H H1 : Heap} (h : hk_env G A U H) (hq : ∀ a : Nat, a < H.size → ¬ A a → H1[a]? = H[a]?) : hk_env G A U H1 := by
  obtain ⟨h1, ⟨h2, h3⟩, ⟨h4, ⟨v, hv, h5⟩, h6, h7, h10⟩, h8⟩ := h
  refine ⟨fun j hj => ⟨(h1 j hj).1.kept hq, (h1 j hj).2.kept hq⟩, ⟨h2.kept hq, h3.kept hq⟩, ⟨h4.kept hq, ⟨v, hv, h5.kept hq⟩, h6.kept hq, h7, h10⟩, fun j hj => ?_⟩
  obtain ⟨k1, k2, k3, k4, k5⟩ := h8 j hj
  exact ⟨k1.kept hq, k2.kept hq, k3.kept hq, k4.kept hq, k5.kept hq⟩
theorem hk_env.narrow {G : hg_E} {A B : Nat → Prop} {U : State} {H : Heap} (h : hk_env G A U H) (hAB : ∀ q, B q → A q) : hk_env G B U H := by
  obtain ⟨h1, ⟨h2, h3⟩, ⟨h4, ⟨v, hv, h5⟩, h6, h7, h10⟩, h8⟩ := h
  refine ⟨fun j hj => ⟨(h1 j hj).1.narrow hAB, (h1 j hj).2.narrow hAB⟩, ⟨h2.narrow hAB, h3.narrow hAB⟩, ⟨h4.narrow hAB, ⟨v, hv, h5.narrow hAB⟩, h6.narrow hAB, h7, h10⟩, fun j hj => ?_⟩
  obtain ⟨k1, k2, k3, k4, k5⟩ := h8 j hj
  exact ⟨k1.narrow hAB, k2.narrow hAB, k3.narrow hAB, k4.narrow hAB, k5.narrow hAB⟩
def hg_env (G : hg_E) (A : Nat → Prop) (U : State) (H : Heap) : Prop := xe G.2.1 G.2.2.1 A U H ∧ hk_env G A U H
theorem hg_env.warm {G : hg_E} {A : Nat → Prop} {s U : State} {H : Heap} (hW : s.WarmedH U.vm) (h : hg_env G A s H) : hg_env G A U H := ⟨xe.warm hW h.1, h.2.moved hW.alike⟩
theorem hg_env.kept {G : hg_E} {A : Nat → Prop} {U : State} {H H1 : Heap} (h : hg_env G A U H) (hq : ∀ a : Nat, a < H.size → ¬ A a → H1[a]? = H[a]?) : hg_env G A U H1 := ⟨h.1.kept hq, h.2.kept hq⟩
theorem hg_env.narrow {G : hg_E} {A B : Nat → Prop} {U : State} {H : Heap} (h : hg_env G A U H) (hAB : ∀ q, B q → A q) : hg_env G B U H := ⟨h.1.narrow hAB, h.2.narrow hAB⟩
theorem hg_env.same {G : hg_E} {A : Nat → Prop} {u U : State} {H : Heap} (h : u.vm = U.vm) (hE : hg_env G A u H) : hg_env G A U H := by
  have ha : u.vm.Alike U.vm := by rw [h]; exact Vm.Alike.refl _
  exact ⟨xe.same h hE.1, hE.2.moved ha⟩
/-- a contract's start -/
def hg_P (G : hg_E) (D : va_G) (S : hg_S) (U : State) : Prop := U.heap.size = S.2.1 ∧ va_P D cl S.1 U.heap ∧ va_K D cl (hg_T G.1) U ∧ va_D (fun _ => True) S.1 ∧ hg_env G (va_A S.1 S.2.1) U U.heap
theorem hg_blind {G : hg_E} {D : va_G} {S : hg_S} {av : List Value} : FrameBlind (va_Pc av (hg_P G D S)) := by
  intro a U g mk h
  obtain ⟨h0, h1, h2, h3, h4, h5⟩ := h
  exact ⟨h0, h1, h2, va_K.moved (u := U) (U := U.calling g mk a) (Vm.Alike.refl U.vm) h3, h4, hg_env.same (u := U) (U := U.calling g mk a) rfl h5⟩
theorem hg_pcall {G : hg_E} {D : va_G} {S : hg_S} {A : Nat → Prop} {s : State} {H : Heap} {locs : List Loc} (hz : H.size = S.2.1) (hP : va_P D cl S.1 H) (hK : va_K D cl (hg_T G.1) s) (hD : va_D A S.1) (hE : hg_env G A s s.heap) (hS : va_S A s.heap H locs) (hF : ∀ q, va_A S.1 S.2.1 q → A q)
    {av : List Value} : ∀ U : State, U.heap = H → s.WarmedH U.vm → va_Pc av (hg_P G D S) av.toArray U := by
  intro U hU hW
  refine ⟨rfl, by rw [hU]; exact hz, by rw [hU]; exact hP, va_K.moved hW.alike hK, hD.weaken (fun _ _ _ _ => trivial), ?_⟩
  have h1 : hg_env G A s H := hE.kept hS.2.1
  rw [hU]
  exact (h1.narrow hF).warm hW
/-- what is behind a call -/
def hg_B (D : va_G) (G : hg_E) (S u : hg_S) (st t : State) : Prop := xq D (va_A S.1 S.2.1) u.1 (hg_T G.1) t ∧ t.heap.size = u.2.1 ∧ u.2.1 + u.2.2.1 = S.2.1 + S.2.2.1 ∧ u.2.2.1 ≤ S.2.2.1 ∧ u.2.2.2 ≤ S.2.2.2 ∧ hg_tot t.heap + u.2.2.2 ≤ hg_tot st.heap + S.2.2.2 ∧ va_F (va_A S.1 S.2.1) st t
def hg_Qr (D : va_G) (G : hg_E) (S : hg_S) (v : Option Value) (u : hg_S) : Array Value → State → Outcome → State → Prop := fun _ st oc t => oc = .returned v ∧ hg_B D G S u st t
def hg_Qt (D : va_G) (G : hg_E) (S : hg_S) (C : String) (x : Nat) (u : hg_S) : Array Value → State → Addr → State → Prop := fun _ st a t => a = x ∧ xc_Ob C x t t.heap ∧ hg_B D G S u st t
/-- how a method ended: with an answer, or with a throw (class, object) -/
abbrev hg_O : Type := (Option Value × hg_S) ⊕ (String × Nat × hg_S)
def hg_rm (fr lo : Nat) (S : hg_S) : Room := { frames := fr, cells := S.2.2.1, slots := S.2.2.2, locals := lo }
def hg_C (l : Launch) (y : MethodName) (cc : ByteArray) (nL : Nat) (ret : Option FieldType) (fr lo : Nat) (D : va_G) (G : hg_E) (av : List Value) (S : hg_S) (o : hg_O) : Prop :=
  match o with
  | .inl (v, u) => Met l y (tw y cc nL ret) (hg_rm fr lo S) (va_Pc av (hg_P G D S)) (hg_Qr D G S v u) S.2.2.1 S.2.2.2 (va_A S.1 S.2.1)
  | .inr (C, x, u) => xc_Met l y (tw y cc nL ret) (hg_rm fr lo S) (va_Pc av (hg_P G D S)) (hg_Qt D G S C x u) S.2.2.1 S.2.2.2 (va_A S.1 S.2.1)
/-- a walk's context -/
def hg_K (X : dc_X) (D : va_G) (G : hg_E) (cc : ByteArray) (nL : Nat) (own : String) : Prop :=
  match X with
  | (p, _, s, m, args, _, _, c, _, A) => p.tables.exec = Jvm.exec ∧ c.code = cc ∧ c.maxLocals = nL ∧ s.vm.findClass own = some m.cls ∧ (∀ w ∈ tt, w.before args s = true) ∧ va_K D cl (hg_T G.1) s ∧ hg_env G A s s.heap ∧ ∀ q, s.heap.size ≤ q → A q
def hg_H (X : dc_X) (R : Room) (D : va_G) (S : hg_S) (H : Heap) (locs : List Loc) : Prop :=
  match X with
  | (_, _, s, _, _, _, _, _, _, A) => va_P D cl S.1 H ∧ va_D A S.1 ∧ va_S A s.heap H locs ∧ H.size = S.2.1 ∧ S.2.1 + S.2.2.1 = s.heap.size + R.cells ∧ S.2.2.1 ≤ R.cells ∧ S.2.2.2 ≤ R.slots
def hg_G (X : dc_X) (l : Launch) (R : Room) (D : va_G) (nL : Nat) (S : hg_S) (pc : Nat) (lv : List (Nat × Value)) (st : List Value) : Prop :=
  match X with
  | (p, e, s, m, args, below, meth, c, Q, A) => ∀ (H : Heap) (locs : List Loc) (ls : Array Slot), hg_H (p, e, s, m, args, below, meth, c, Q, A) R D S H locs → lv_has ls nL lv → W p l e R s m args below meth c H locs (R.cells - S.2.2.1) (R.slots - S.2.2.2) Q (F0 m pc ls st)
/-- how the walk is to end -/
def hg_R (X : dc_X) (R : Room) (D : va_G) (G : hg_E) (nm : String) (ret : Option FieldType) (S : hg_S) (o : hg_O) : Prop :=
  match X with
  | (_, _, s, _, args, below, meth, c, Q, A) => meth.name = nm ∧ meth.sig.returnType = ret ∧ meth.locks = false ∧ A = va_A S.1 S.2.1 ∧ s.heap.size = S.2.1 ∧ R.cells = S.2.2.1 ∧ R.slots = S.2.2.2 ∧
    match o with
    | .inl (v, u) => Q = MQ below (hg_Qr D G S v u) args s S.2.2.1 S.2.2.2 A
    | .inr (C, x, u) => Q = xc_MQ below (hg_Qt D G S C x u) args s S.2.2.1 S.2.2.2 A ∧ ∀ x ∈ c.exceptionTable.toList, ∀ pc, covers x pc = false
section HGK
variable {p : Program} {l : Launch} {e : Env} {R : Room} {s : State} {m : MethodId} {args : Array Value} {below : List Frame} {meth : Method} {c : Code} {H : Heap} {locs : List Loc} {cells slots : Nat} {Q : State → Prop}
theorem hg_used {T : State} (X : Stand p l e R s m args below meth c T locs cells slots) : T.slotsUsed = hg_tot T.heap ∧ s.slotsUsed = hg_tot s.heap := by
  have h3 := X.book
  have h0 : s.slotsTrue = true := by
    have h := X.room
    simp only [State.hasRoom, Bool.and_eq_true] at h
    exact h.2
  constructor
  · simpa [State.slotsTrue, hg_tot] using h3
  · simpa [State.slotsTrue, hg_tot] using h0
/-- what a walk's figures say of the heap -/
theorem hg_know {g : JFrame} (kk : H.size ≤ s.heap.size + cells → hg_tot H ≤ hg_tot s.heap + slots → W p l e R s m args below meth c H locs cells slots Q g) : W p l e R s m args below meth c H locs cells slots Q g := by
  intro T hT X
  have h1 := X.heapSize
  have h2 := X.used
  obtain ⟨e1, e0⟩ := hg_used X
  rw [hT] at h1 e1
  exact kk h1 (by omega) T hT X
theorem hg_tight {T : State} {k n : Nat} (X : Stand p l e R s m args below meth c T locs cells slots) (h1 : T.heap.size ≤ s.heap.size + k) (h2 : hg_tot T.heap ≤ hg_tot s.heap + n) : Stand p l e R s m args below meth c T locs k n := by
  obtain ⟨e1, e0⟩ := hg_used X
  have hs := X.same
  have h4 := hs.2.2.2.1
  have h5 : T.slotsUsed = s.slotsUsed + (((T.setVm s.vm).heap.toList.drop s.heap.size).map (·.slots.size)).sum := h4
  exact { X with same := ⟨hs.1, hs.2.1, h1, hs.2.2.2.1, by omega, hs.2.2.2.2.2⟩ }
theorem hg_tightW {k n : Nat} {g : JFrame} (h1 : H.size ≤ s.heap.size + k) (h2 : hg_tot H ≤ hg_tot s.heap + n) (kk : W p l e R s m args below meth c H locs k n Q g) : W p l e R s m args below meth c H locs cells slots Q g :=
  fun T hT X => kk T hT (hg_tight X (by rw [hT]; exact h1) (by rw [hT]; exact h2))
variable {A : Nat → Prop} {D : va_G} {S : hg_S}
/-- behind a store: the heap is as large as it was -/
theorem hg_back {H1 : Heap} {locs1 : List Loc} {ws1 : va_W} {g : JFrame} (hh : hg_H (p, e, s, m, args, below, meth, c, Q, A) R D S H locs) (hP1 : va_P D cl ws1 H1) (hD1 : va_D A ws1) (hS1 : va_S A H H1 locs1)
    (kk : hg_H (p, e, s, m, args, below, meth, c, Q, A) R D (ws1, S.2) H1 locs1 → W p l e R s m args below meth c H1 locs1 (R.cells - S.2.2.1) (R.slots - S.2.2.2) Q g) : W p l e R s m args below meth c H1 locs1 (R.cells - S.2.2.1) (R.slots - S.2.2.2) Q g := by
  obtain ⟨hP, hD, hS, hz, hc, h1, h2⟩ := hh
  refine hg_know fun hk _ => kk ⟨hP1, hD1, ⟨Nat.le_trans hS.1 hS1.1, fun q a b => (hS1.2.1 q (Nat.lt_of_lt_of_le a hS.1) b).trans (hS.2.1 q a b), hS1.2.2⟩, ?_, hc, h1, h2⟩
  have h3 := hS1.1
  show H1.size = S.2.1
  omega
theorem hg_same (hh : hg_H (p, e, s, m, args, below, meth, c, Q, A) R D S H locs) : va_S A H H locs := ⟨Nat.le_refl _, fun _ _ _ => rfl, hh.2.2.1.2.2⟩
theorem hg_in {G : hg_E} (hA : ∀ q, s.heap.size ≤ q → A q) (hh : hg_H (p, e, s, m, args, below, meth, c, Q, A) R D S H locs) : ∀ q, va_A S.1 S.2.1 q → A q := by
  intro q hq
  rcases hq with ⟨k, e, hk⟩ | hq
  · exact hh.2.1.2 k _ hk
  · exact hA q (by have := hh.2.2.1.1; have := hh.2.2.2.1; omega)
variable {pc nL : Nat} {ls : Array Slot} {rest st0 : List Value} {lv : List (Nat × Value)} {G : hg_E} {u : hg_S} {v : Option Value} {a : Array Value}
/-- behind a call that returns -/
theorem hg_behind (hK : va_K D cl (hg_T G.1) s) (hA : ∀ q, s.heap.size ≤ q → A q) (hh : hg_H (p, e, s, m, args, below, meth, c, Q, A) R D S H locs) (hl : lv_has ls nL lv)
    (hr : va_Run p l e R s m args below meth c H locs (R.cells - S.2.2.1) (R.slots - S.2.2.2) S.2.2.1 S.2.2.2 (F0 m pc ls st0) rest (hg_Qr D G S v u a) (va_A S.1 S.2.1))
    (kk : hg_G (p, e, s, m, args, below, meth, c, Q, A) l R D nL u (pc + 3) lv (v.toList ++ rest)) : W p l e R s m args below meth c H locs (R.cells - S.2.2.1) (R.slots - S.2.2.2) Q (F0 m pc ls st0) := by
  refine hg_know fun hk1 hk2 => ?_
  have hin := hg_in (G := G) hA hh
  obtain ⟨hP, hD, hS, hz, hc, h1, h2⟩ := hh
  intro T hT Y
  obtain ⟨v', st₀, t, T', L, h0, Y', hL, e1, e2, ⟨hv, ⟨hP1, hK1, hD1⟩, hz1, hc1, hr1, hs1, ht1, hF⟩, st⟩ := hr T hT Y
  cases hv
  rw [h0] at ht1
  have hz2 : H.size ≤ T'.heap.size := by rw [e1, ← h0]; exact hF.1
  have hk3 : ∀ q : Nat, q < H.size → ¬ va_A S.1 S.2.1 q → T'.heap[q]? = H[q]? := fun q h3 h4 => by rw [e1]; rw [← h0] at h3 ⊢; exact hF.2 q h3 h4
  have Y2 := hg_tight (k := R.cells - u.2.2.1) (n := R.slots - u.2.2.2) Y' (by rw [e1, hz1]; omega) (by rw [e1]; omega)
  obtain ⟨t2, a1, b1⟩ := kk T'.heap (locs ++ L) ls ⟨by rw [e1]; exact hP1, hD1.weaken (fun _ _ _ h => hin _ h), ⟨Nat.le_trans hS.1 hz2, fun q h3 h4 => (hk3 q (Nat.lt_of_lt_of_le h3 hS.1) (fun z => h4 (hin q z))).trans (hS.2.1 q h3 h4), fun q hq => by
      rcases List.mem_append.mp hq with h | h
      · exact hS.2.2 q h
      · exact hin _ (hL q h)⟩, by rw [e1]; exact hz1, by omega, by omega, by omega⟩ hl T' rfl Y2
  exact ⟨t2, st t2 a1, b1⟩
end HGK
/-- entering a method -/
theorem hg_enter {l : Launch} {y : MethodName} {cc : ByteArray} {nL : Nat} {ret : Option FieldType} {fr lo : Nat} {D : va_G} {G : hg_E} {av : List Value} {S : hg_S} {o : hg_O} {lv : List (Nat × Value)} (hy : plainName y.cls = true) (hav : (lg_sl av).length ≤ nL) (hlv : lv_args 0 av = lv)
    (body : ∀ X : dc_X, hg_K X D G cc nL y.cls → hg_R X (hg_rm fr lo S) D G y.name ret S o → hg_G X l (hg_rm fr lo S) D nL S 0 lv []) : hg_C l y cc nL ret fr lo D G av S o := by
  subst hlv
  rcases o with ⟨v, u⟩ | ⟨C, x, u⟩
  · show Met l y (tw y cc nL ret) (hg_rm fr lo S) (va_Pc av (hg_P G D S)) (hg_Qr D G S v u) S.2.2.1 S.2.2.2 (va_A S.1 S.2.1)
    refine Met.ofW (cc := cc) (maxL := nL) (ret := ret) hy rfl ?_
    intro p e s m args below meth c s₁ B hml hv
    obtain ⟨rfl, hsz, hP, hK, hD, hE⟩ := hv
    have hts := atoms_spec (ws := tw y cc nL ret) B.pre
    rw [lg_entry_eq]
    have hz : hg_rm fr lo S = (headSpec (tw y cc nL ret) (hg_rm fr lo S)).room := rfl
    have hb := body (p, e, s, m, av.toArray, below, meth, c, MQ below (hg_Qr D G S v u) av.toArray s S.2.2.1 S.2.2.2 (va_A S.1 S.2.1), va_A S.1 S.2.1)
      ⟨B.exec, B.bytes, hml, findClass_of_methodNamed B.named, fun w h => hts w (tw_mem h), hK, hE, fun q h => Or.inr (by rw [← hsz]; exact h)⟩
      ⟨(name_of_methodNamed B.named B.method).1, B.returns, B.notSynchronized, rfl, hsz, rfl, rfl, rfl⟩ s.heap [] _ ⟨hP, hD.self, va_S.rf, hsz, by rw [hsz]; rfl, Nat.le_refl _, Nat.le_refl _⟩ (lv_entry av hav)
    have e1 : (hg_rm fr lo S).cells - S.2.2.1 = 0 := Nat.sub_self _
    have e2 : (hg_rm fr lo S).slots - S.2.2.2 = 0 := Nat.sub_self _
    rw [e1, e2] at hb
    exact hb
  · show xc_Met l y (tw y cc nL ret) (hg_rm fr lo S) (va_Pc av (hg_P G D S)) (hg_Qt D G S C x u) S.2.2.1 S.2.2.2 (va_A S.1 S.2.1)
    refine xc_ofW (cc := cc) (maxL := nL) (ret := ret) hy rfl ?_
    intro p e s m args below meth c s₁ B hml htab hv
    obtain ⟨rfl, hsz, hP, hK, hD, hE⟩ := hv
    have hts := atoms_spec (ws := tw y cc nL ret) B.pre
    rw [lg_entry_eq]
    have hb := body (p, e, s, m, av.toArray, below, meth, c, xc_MQ below (hg_Qt D G S C x u) av.toArray s S.2.2.1 S.2.2.2 (va_A S.1 S.2.1), va_A S.1 S.2.1)
      ⟨B.exec, B.bytes, hml, findClass_of_methodNamed B.named, fun w h => hts w (tw_mem h), hK, hE, fun q h => Or.inr (by rw [← hsz]; exact h)⟩
      ⟨(name_of_methodNamed B.named B.method).1, B.returns, B.notSynchronized, rfl, hsz, rfl, rfl, rfl, fun x hx => by rw [htab] at hx; cases hx⟩ s.heap [] _ ⟨hP, hD.self, va_S.rf, hsz, by rw [hsz]; rfl, Nat.le_refl _, Nat.le_refl _⟩ (lv_entry av hav)
    have e1 : (hg_rm fr lo S).cells - S.2.2.1 = 0 := Nat.sub_self _
    have e2 : (hg_rm fr lo S).slots - S.2.2.2 = 0 := Nat.sub_self _
    rw [e1, e2] at hb
    exact hb
section HGR
variable {X : dc_X} {l : Launch} {R : Room} {D : va_G} {G : hg_E} {cc : ByteArray} {nL pc : Nat} {own nm : String} {S S0 : hg_S} {o : hg_O} {lv : List (Nat × Value)} {st : List Value}
/-- what a return owes -/
theorem hg_fin {p : Program} {e : Env} {s t : State} {m : MethodId} {args : Array Value} {below : List Frame} {meth : Method} {c : Code} {Q : State → Prop} {H : Heap} {locs : List Loc} (hK : va_K D cl (hg_T G.1) s) (hsz : s.heap.size = S0.2.1) (hRc : R.cells = S0.2.2.1) (hRs : R.slots = S0.2.2.2)
    (hh : hg_H (p, e, s, m, args, below, meth, c, Q, va_A S0.1 S0.2.1) R D S H locs) (hk2 : hg_tot H ≤ hg_tot s.heap + (R.slots - S.2.2.2)) (ht : t.heap = H) (hW : s.WarmedH t.vm) : hg_B D G S0 S s t := by
  obtain ⟨hP, hD, hS, hz, hc, h1, h2⟩ := hh
  exact ⟨⟨by rw [ht]; exact hP, va_K.moved hW.alike hK, hD⟩, by rw [ht]; exact hz, by omega, by omega, by omega, by rw [ht]; omega, hS.F ht⟩
theorem hg_iret (hC : hg_K X D G cc nL own) (hR : hg_R X R D G nm (some .int) S0 o) {v : Int32} (hv : (.inl (some (.int v), S) : hg_O) = o) (d : decode cc pc = .ok (.ireturn, 1)) : hg_G X l R D nL S pc lv [.int v] := by
  obtain ⟨p, e, s, m, args, below, meth, c, Q, A⟩ := X
  obtain ⟨hx, hb, hml, hown, hts, hK, hE, hA⟩ := hC
  subst hv
  obtain ⟨-, hr, hlocks, rfl, hsz, hRc, hRs, rfl⟩ := hR
  intro H locs ls hh hl
  refine hg_know fun _ hk2 => W.widen (by rw [hRc]; exact Nat.sub_le _ _) (by rw [hRs]; exact Nat.sub_le _ _) (W.iret (v := v) hx hb hr (fun t ht hW => ⟨rfl, hg_fin hK hsz hRc hRs hh hk2 ht hW⟩) hh.2.2.1.2.2 d)
theorem hg_zret (hC : hg_K X D G cc nL own) (hR : hg_R X R D G nm (some .boolean) S0 o) {v : Int32} (hz : v = 0 ∨ v = 1) (hv : (.inl (some (.int v), S) : hg_O) = o) (d : decode cc pc = .ok (.ireturn, 1)) : hg_G X l R D nL S pc lv [.int v] := by
  obtain ⟨p, e, s, m, args, below, meth, c, Q, A⟩ := X
  obtain ⟨hx, hb, hml, hown, hts, hK, hE, hA⟩ := hC
  subst hv
  obtain ⟨-, hr, hlocks, rfl, hsz, hRc, hRs, rfl⟩ := hR
  intro H locs ls hh hl
  refine hg_know fun _ hk2 => W.widen (by rw [hRc]; exact Nat.sub_le _ _) (by rw [hRs]; exact Nat.sub_le _ _) (W.zret (v := v) hx hb hr (dc_nar hz).2.1 (fun t ht hW => ⟨rfl, hg_fin hK hsz hRc hRs hh hk2 ht hW⟩) hh.2.2.1.2.2 d)
theorem hg_lret (hC : hg_K X D G cc nL own) (hR : hg_R X R D G nm (some .long) S0 o) {v : Int64} (hv : (.inl (some (.long v), S) : hg_O) = o) (d : decode cc pc = .ok (.lreturn, 1)) : hg_G X l R D nL S pc lv [.long v] := by
  obtain ⟨p, e, s, m, args, below, meth, c, Q, A⟩ := X
  obtain ⟨hx, hb, hml, hown, hts, hK, hE, hA⟩ := hC
  subst hv
  obtain ⟨-, hr, hlocks, rfl, hsz, hRc, hRs, rfl⟩ := hR
  intro H locs ls hh hl
  refine hg_know fun _ hk2 => W.widen (by rw [hRc]; exact Nat.sub_le _ _) (by rw [hRs]; exact Nat.sub_le _ _) (W.lret (v := v) hx hb hr (fun t ht hW => ⟨rfl, hg_fin hK hsz hRc hRs hh hk2 ht hW⟩) hh.2.2.1.2.2 d)
theorem hg_vret (hC : hg_K X D G cc nL own) (hR : hg_R X R D G nm none S0 o) (hv : (.inl (none, S) : hg_O) = o) (d : decode cc pc = .ok (.return_, 1)) : hg_G X l R D nL S pc lv [] := by
  obtain ⟨p, e, s, m, args, below, meth, c, Q, A⟩ := X
  obtain ⟨hx, hb, hml, hown, hts, hK, hE, hA⟩ := hC
  subst hv
  obtain ⟨-, hr, hlocks, rfl, hsz, hRc, hRs, rfl⟩ := hR
  intro H locs ls hh hl
  refine hg_know fun _ hk2 => W.widen (by rw [hRc]; exact Nat.sub_le _ _) (by rw [hRs]; exact Nat.sub_le _ _) (W.vret hx hb hr (fun t ht hW => ⟨rfl, hg_fin hK hsz hRc hRs hh hk2 ht hW⟩) hh.2.2.1.2.2 d)
theorem hg_aret (hC : hg_K X D G cc nL own) {rt : FieldType} (hR : hg_R X R D G nm (some rt) S0 o) {r : Option Nat} (hrt : (∃ n, rt = .object n) ∨ ∃ t, rt = .array t) (hv : (.inl (some (va_rf r), S) : hg_O) = o) (d : decode cc pc = .ok (.areturn, 1)) : hg_G X l R D nL S pc lv [va_rf r] := by
  obtain ⟨p, e, s, m, args, below, meth, c, Q, A⟩ := X
  obtain ⟨hx, hb, hml, hown, hts, hK, hE, hA⟩ := hC
  subst hv
  obtain ⟨-, hr, hlocks, rfl, hsz, hRc, hRs, rfl⟩ := hR
  intro H locs ls hh hl
  refine hg_know fun _ hk2 => W.widen (by rw [hRc]; exact Nat.sub_le _ _) (by rw [hRs]; exact Nat.sub_le _ _) (W.aret (v := va_rf r) hx hb hr hrt (va_rf_or r) (fun t ht hW => ⟨rfl, hg_fin hK hsz hRc hRs hh hk2 ht hW⟩) hh.2.2.1.2.2 d)
end HGR
section HGC
variable {X : dc_X} {l : Launch} {R : Room} {D : va_G} {G : hg_E} {cc bytes : ByteArray} {nL pc maxL fr lo index : Nat} {own : String} {S u : hg_S} {lv : List (Nat × Value)} {st0 As rest : List Value} {y : MethodName} {ret : Option FieldType} {v : Option Value}
theorem hg_cB {p : Program} {s : State} {m : MethodId} {args : Array Value} (n : Nat) (hts : ∀ w ∈ tt, w.before args s = true) (m5 : Cond.code y bytes maxL ret ∈ tt) (m4 : Cond.initialized y.cls ∈ tt) (m1 : Cond.methodLink own index y ∈ tt)
    (hd : y.cls ≠ "java/lang/invoke/MethodHandle" ∧ y.cls ≠ "java/lang/invoke/VarHandle" ∧ (parseMethodDescriptor y.desc).map (fun d => d.parameters.length) = some n) (hR : fr + 1 ≤ R.frames ∧ 8 + (maxL + 11) + lo ≤ R.locals) :
    CallB R s args own index y bytes maxL ret (tw y bytes maxL ret) (hg_rm fr lo S) S.2.2.1 S.2.2.2 n := callB_of n hts (tw_goodL m5) rfl rfl rfl (hts _ m4) (hts _ m1) hd hR
/-- an object of ours is there -/
def hg_is (S : hg_S) (b : Nat) (C : String) : Prop := ∃ (q0 ci : Nat) (q : vw_C) (fs : List Value), cl[ci]? = some q ∧ S.1[q0]? = some (b, .inr (ci, fs)) ∧ q.1 = C
theorem hg_cV (hC : hg_K X D G cc nL own) (hw : dc_VW own index y bytes maxL ret As.length) {b : Nat} (hM : hg_C l y bytes maxL ret fr lo D G (.ref b :: As) S (.inl (v, u))) (hR : fr + 1 ≤ R.frames ∧ 8 + (maxL + 11) + lo ≤ R.locals) (hrv : hg_is S b y.cls) (hstack : st0 = As.reverse ++ .ref b :: rest) (hW : (rest.map fun v => v.category).sum ≤ 8) (d : decode cc pc = .ok (.invokevirtual index, 3))
    (kk : hg_G X l R D nL u (pc + 3) lv (v.toList ++ rest)) : hg_G X l R D nL S pc lv st0 := by
  obtain ⟨p, e, s, m, args, below, meth, c, Q, A⟩ := X
  obtain ⟨hx, hb, hml, hown, hts, hK, hE, hA⟩ := hC
  obtain ⟨m5, m4, m1, m2, m3, hdd⟩ := hw
  obtain ⟨q0, ci, q, fs, h1, h2, h3⟩ := hrv
  intro H locs ls hh hl
  refine hg_behind (G := G) hK hA hh hl (va_runV (Ts := tt) (own := own) (C := y.cls) (As := As) (rest := rest) ⟨hx, hb, hml, hown, hts⟩ hM ⟨hg_cB (p := p) (m := m) As.length hts m5 m4 m1 hdd hR, hts _ m2, hts _ m3⟩ ⟨hg_blind, ?_, hg_pcall hh.2.2.2.1 hh.1 hK hh.2.1 hE hh.2.2.1 (hg_in (G := G) hA hh)⟩ rfl rfl hl.1 hstack (lv_room hW) d ⟨by have := hh.2.2.2.2.2.1; omega, by have := hh.2.2.2.2.2.2; omega⟩) kk
  have hv := va_recv hK hh.1 h1 h2
  rw [h3] at hv
  exact hv
theorem hg_cS (hC : hg_K X D G cc nL own) (hw : dc_SW own index y bytes maxL ret As.length) (hM : hg_C l y bytes maxL ret fr lo D G As S (.inl (v, u))) (hR : fr + 1 ≤ R.frames ∧ 8 + (maxL + 11) + lo ≤ R.locals) (hstack : st0 = As.reverse ++ rest) (hW : (rest.map fun v => v.category).sum ≤ 8) (d : decode cc pc = .ok (.invokestatic index, 3))
    (kk : hg_G X l R D nL u (pc + 3) lv (v.toList ++ rest)) : hg_G X l R D nL S pc lv st0 := by
  obtain ⟨p, e, s, m, args, below, meth, c, Q, A⟩ := X
  obtain ⟨hx, hb, hml, hown, hts, hK, hE, hA⟩ := hC
  obtain ⟨m5, m4, m1, m2, hdd⟩ := hw
  intro H locs ls hh hl
  exact hg_behind (G := G) hK hA hh hl (va_runS (Ts := tt) (own := own) (As := As) (rest := rest) ⟨hx, hb, hml, hown, hts⟩ hM ⟨hg_cB (p := p) (m := m) As.length hts m5 m4 m1 hdd hR, hts _ m2⟩ ⟨hg_blind, hg_pcall hh.2.2.2.1 hh.1 hK hh.2.1 hE hh.2.2.1 (hg_in (G := G) hA hh)⟩ rfl rfl hl.1 hstack (lv_room hW) d ⟨by have := hh.2.2.2.2.2.1; omega, by have := hh.2.2.2.2.2.2; omega⟩) kk
/-- a constructor of ours -/
def hg_IW (own : String) (index : Nat) (y : MethodName) (cc : ByteArray) (nL : Nat) (na : Nat) : Prop := Cond.code y cc nL none ∈ tt ∧ Cond.initialized y.cls ∈ tt ∧ Cond.methodLink own index y ∈ tt ∧ Cond.instanceMethod y ∈ tt ∧ y.name = "<init>" ∧ (y.cls ≠ "java/lang/invoke/MethodHandle" ∧ y.cls ≠ "java/lang/invoke/VarHandle" ∧ (parseMethodDescriptor y.desc).map (fun d => d.parameters.length) = some na)
theorem hg_cI (hC : hg_K X D G cc nL own) (hw : hg_IW own index y bytes maxL As.length) {b : Nat} (hM : hg_C l y bytes maxL none fr lo D G (.ref b :: As) S (.inl (v, u))) (hR : fr + 1 ≤ R.frames ∧ 8 + (maxL + 11) + lo ≤ R.locals) (hstack : st0 = As.reverse ++ .ref b :: rest) (hW : (rest.map fun v => v.category).sum ≤ 8) (d : decode cc pc = .ok (.invokespecial index, 3))
    (kk : hg_G X l R D nL u (pc + 3) lv (v.toList ++ rest)) : hg_G X l R D nL S pc lv st0 := by
  obtain ⟨p, e, s, m, args, below, meth, c, Q, A⟩ := X
  obtain ⟨hx, hb, hml, hown, hts, hK, hE, hA⟩ := hC
  obtain ⟨m5, m4, m1, m2, hy1, hdd⟩ := hw
  intro H locs ls hh hl
  exact hg_behind (G := G) hK hA hh hl (va_runI (Ts := tt) (own := own) (As := As) (rest := rest) ⟨hx, hb, hml, hown, hts⟩ hM ⟨hg_cB (p := p) (m := m) As.length hts m5 m4 m1 hdd hR, hy1, hts _ m2⟩ ⟨hg_blind, hg_pcall hh.2.2.2.1 hh.1 hK hh.2.1 hE hh.2.2.1 (hg_in (G := G) hA hh)⟩ rfl rfl hl.1 hstack (lv_room hW) d ⟨by have := hh.2.2.2.2.2.1; omega, by have := hh.2.2.2.2.2.2; omega⟩) kk
end HGC
