/-! THE CLAIM OUT OF ONE WALK OF THE LAW'S BODY. Your part is whole_start (and what it stands on); all else here is the same for every law, but numbers. -/
def R_law : String := "SignalEngineLaw"
def lw_P (b : Addr) (xs : List Int32) (args : Array Value) (s : State) : Prop := args = #[.ref b] ∧ s.IntsAt b xs ∧ xs.length ≤ 3072 ∧ (Jvm.Cond.and given_1 narrow_1).before args s = true
def lw_Q (_ : Array Value) (s : State) (o : Outcome) (t : State) : Prop := o = .returned (some (.int 1)) ∧ Framed s o t [] 601024 7293034
def lw_Z (below : List Frame) (a : Array Value) (s : State) : State → Prop := fun t => ∃ o, t.status = .running ∧ Ended t below o ∧ lw_Q a s o t
/-- the law's own end, with 1 on the stack, nothing written that was there before, its room as the claim has it -/
theorem lw_ret {p : Program} {l : Launch} {e : Env} {s : State} {m : MethodId} {below : List Frame} {meth : Method} {c : Code} {b : Nat} (hx : p.tables.exec = Jvm.exec) (hb : c.code = code) (hr : meth.sig.returnType = ret) (hlocks : meth.locks = false) {pc : Nat} {H : Heap} {ls : Array Slot} (hdg : decode code pc = .ok (.ireturn, 1)) : W p l e room_1 s m #[Value.ref b] below meth c H [] 601024 7293034 (lw_Z below #[Value.ref b] s) (F0 m pc ls [.int 1]) := by
  intro T hT X
  obtain ⟨fs, hret, hrun, hended, hW, hframe⟩ := X.leave (v := some (.int 1)) (hlocks := hlocks) (fun h => by rw [hr] at h; cases h)
  have hmeth' : T.vm.method? m = some meth := X.method'
  refine ⟨T.setFrames fs, ?_, .returned (some (.int 1)), hrun, hended, rfl, ⟨_, rfl⟩, hW, hframe⟩
  jvm_step X.here [X.here.top, hx, hb, hdg, hmeth', hr, ret, narrow_b1]
  (try refine ⟨rfl, ?_⟩); (try refine ⟨rfl, ?_⟩)
  first | (intro acts; rw [hret _ acts rfl rfl rfl]) | rw [hret _ _ rfl rfl rfl]
  exact Steps.refl _
/-- what holds at the law's entry: the machine, the code, the tables' words (any of lw_tbl by 'hts w (by decide +kernel)'), the script of L ints xs at the cell b, what the Statement gives of the start (any of its parts by flat_of_before) -/
def lw_At (p : Program) (s : State) (m : MethodId) (meth : Method) (c : Code) (b L : Nat) (xs : Nat → Int32) : Prop :=
  p.tables.exec = Jvm.exec ∧ c.code = code ∧ meth.sig.returnType = ret ∧ c.maxLocals = 8 ∧ s.vm.findClass R_law = some m.cls ∧ (∀ w ∈ lw_tbl, w.before #[Value.ref b] s = true) ∧ va_X b L xs s s.heap ∧ b < s.heap.size ∧ meth.locks = false ∧ (Jvm.Cond.and given_1 narrow_1).before #[Value.ref b] s = true
/-! the law: what holds at its entry -/
def flatA : Cond → List Cond → List Cond
  | .and a b, acc => flatA a (flatA b acc)
  | c, acc => c :: acc
theorem flatA_before {args : Array Value} {s : State} (T : Cond) (h : T.before args s = true) : ∀ (acc : List Cond), (∀ c ∈ acc, c.before args s = true) → ∀ c ∈ flatA T acc, c.before args s = true := by
  induction T with
  | and a b iha ihb =>
    intro acc hacc c hc
    rw [Cond.before_and, Bool.and_eq_true] at h
    simp only [flatA] at hc
    exact iha h.1 _ (ihb h.2 acc hacc) c hc
  | _ =>
    intro acc hacc c hc
    simp only [flatA, List.mem_cons] at hc
    rcases hc with hc | hc
    · rw [hc]; exact h
    · exact hacc c hc
def lw_fa : List Cond := flatA (Jvm.Cond.and given_1 narrow_1) []
theorem lw_fa_of {args : Array Value} {s : State} (h : (Jvm.Cond.and given_1 narrow_1).before args s = true) : ∀ c ∈ lw_fa, c.before args s = true := flatA_before _ h [] (fun c hc => absurd hc List.not_mem_nil)
def tk_sx : List Nat := [131, 137, 140, 143, 146, 149, 152, 155, 158, 161, 164, 167, 170, 173, 176, 179, 182, 185, 188, 191, 194, 197, 200, 203, 206, 209, 212, 215, 218, 221, 224, 227, 227]
def xl_str (j : Nat) : Term := .string "SignalEngine$Token" (tk_sx.getD j 0)
def xl_val (j : Nat) : Term := .field (xl_str j) "java/lang/String" "value" "[B"
def xl_tok (j : Nat) : Term := .static "SignalEngine$Token" (tk_nm.getD j "") "LSignalEngine$Token;"
def xl_sta (j : Nat) : Term := .static (hk_sn j).1 (hk_sn j).2 "[I"
def xl_tks : Term := .static "SignalEngine$Lexer" "TOKENS" "[LSignalEngine$Token;"
def xl_dea : Term := .static "java/util/ArrayList" "DEFAULTCAPACITY_EMPTY_ELEMENTDATA" "[Ljava/lang/Object;"
def fl_ex_l : List Nat := [61, 73, 203, 207, 211, 215, 219, 223, 227, 137, 141, 133, 165, 161, 231, 145, 235, 239, 113, 125, 129, 243, 157, 153, 247, 149, 69, 65, 117, 121, 169, 14, 8]
set_option maxRecDepth 1000000 in
theorem fl_ex_x : ∀ j, j < 33 → lw_fa[fl_ex_l.getD j 0]? = some (Cond.exactly (xl_tok j) "SignalEngine$Token") := by decide +kernel
theorem fl_ex : ∀ j, j < 33 → (Cond.exactly (xl_tok j) "SignalEngine$Token") ∈ lw_fa := fun j hj => List.mem_of_getElem? (fl_ex_x j hj)
def fl_or_l : List Nat := [62, 74, 204, 208, 212, 216, 220, 224, 228, 138, 142, 134, 166, 162, 232, 146, 236, 240, 114, 126, 130, 244, 158, 154, 248, 150, 70, 66, 118, 122, 170, 15, 9]
set_option maxRecDepth 1000000 in
theorem fl_or_x : ∀ j, j < 33 → lw_fa[fl_or_l.getD j 0]? = some (Cond.eq (.field (xl_tok j) "java/lang/Enum" "ordinal" "I") (.int (tk_or.getD j 0))) := by decide +kernel
theorem fl_or : ∀ j, j < 33 → (Cond.eq (.field (xl_tok j) "java/lang/Enum" "ordinal" "I") (.int (tk_or.getD j 0))) ∈ lw_fa := fun j hj => List.mem_of_getElem? (fl_or_x j hj)
def fl_st_l : List Nat := [64, 76, 206, 210, 214, 218, 222, 226, 230, 140, 144, 136, 168, 164, 234, 148, 238, 242, 116, 128, 132, 246, 160, 156, 250, 152, 72, 68, 120, 124, 172, 17, 11]
set_option maxRecDepth 1000000 in
theorem fl_st_x : ∀ j, j < 33 → lw_fa[fl_st_l.getD j 0]? = some (Cond.eq (.field (xl_tok j) "SignalEngine$Token" "starts" "Z") (.int (tk_st.getD j 0))) := by decide +kernel
theorem fl_st : ∀ j, j < 33 → (Cond.eq (.field (xl_tok j) "SignalEngine$Token" "starts" "Z") (.int (tk_st.getD j 0))) ∈ lw_fa := fun j hj => List.mem_of_getElem? (fl_st_x j hj)
set_option maxRecDepth 1000000 in
theorem fl_us : (Cond.isRef (.static Bundle.tN "UNASSIGNED_STACK" Bundle.steD)) ∈ lw_fa := List.mem_of_getElem? (i := 12) (by decide +kernel)
set_option maxRecDepth 1000000 in
theorem fl_ss : (Cond.isRef (.static Bundle.tN "SUPPRESSED_SENTINEL" Bundle.listD)) ∈ lw_fa := List.mem_of_getElem? (i := 13) (by decide +kernel)
def fl_ls_l : List Nat := [471, 513, 2374, 2375, 2376, 2377, 2378, 2379, 2380, 741, 743, 735, 800, 796, 2381, 757, 2382, 2383, 708, 723, 725, 2384, 794, 792, 2385, 786, 507, 501, 710, 721, 802, 415, 231]
set_option maxRecDepth 1000000 in
theorem fl_ls_x : ∀ j, j < 33 → tables_1[fl_ls_l.getD j 0]? = some (Cond.laysStatic "SignalEngine$Token" (tk_nm.getD j "") "LSignalEngine$Token;") := by decide +kernel
theorem fl_ls : ∀ j, j < 33 → (Cond.laysStatic "SignalEngine$Token" (tk_nm.getD j "") "LSignalEngine$Token;") ∈ tables_1 := fun j hj => List.mem_of_getElem? (fl_ls_x j hj)
set_option maxRecDepth 1000000 in
theorem fl_w1 : (Cond.laysStatic Bundle.tN "UNASSIGNED_STACK" Bundle.steD) ∈ tables_1 := List.mem_of_getElem? (i := 360) (by decide +kernel)
set_option maxRecDepth 1000000 in
theorem fl_w2 : (Cond.laysStatic Bundle.tN "SUPPRESSED_SENTINEL" Bundle.listD) ∈ tables_1 := List.mem_of_getElem? (i := 362) (by decide +kernel)
set_option maxRecDepth 1000000 in
theorem fl_w3 : (Cond.initialized Bundle.tN) ∈ tables_1 := List.mem_of_getElem? (i := 16) (by decide +kernel)
set_option maxRecDepth 1000000 in
theorem fl_w4 : (Cond.laysStatic "java/util/ArrayList" "DEFAULTCAPACITY_EMPTY_ELEMENTDATA" "[Ljava/lang/Object;") ∈ tables_1 := List.mem_of_getElem? (i := 148) (by decide +kernel)
set_option maxRecDepth 1000000 in
theorem fl_w5 : (Cond.initialized "java/util/ArrayList") ∈ tables_1 := List.mem_of_getElem? (i := 10) (by decide +kernel)
set_option maxRecDepth 1000000 in
theorem fl_w6 : (Cond.initialized "SignalEngine$Token") ∈ tables_1 := List.mem_of_getElem? (i := 14) (by decide +kernel)
def fl_sa_l : List Nat := [174, 180, 192, 78]
set_option maxRecDepth 1000000 in
theorem fl_sa_x : ∀ j, j < 4 → lw_fa[fl_sa_l.getD j 0]? = some (Cond.arrayOf (xl_sta j) .int) := by decide +kernel
theorem fl_sa : ∀ j, j < 4 → (Cond.arrayOf (xl_sta j) .int) ∈ lw_fa := fun j hj => List.mem_of_getElem? (fl_sa_x j hj)
def fl_sl_l : List Nat := [175, 181, 193, 79]
set_option maxRecDepth 1000000 in
theorem fl_sl_x : ∀ j, j < 4 → lw_fa[fl_sl_l.getD j 0]? = some (Cond.eq (.length (xl_sta j)) (.int (Int32.ofNat (hk_sv j).length))) := by decide +kernel
theorem fl_sl : ∀ j, j < 4 → (Cond.eq (.length (xl_sta j)) (.int (Int32.ofNat (hk_sv j).length))) ∈ lw_fa := fun j hj => List.mem_of_getElem? (fl_sl_x j hj)
def fl_se_l : List Nat := [176, 182, 194, 80]
set_option maxRecDepth 1000000 in
theorem fl_se_x : ∀ j, j < 4 → ∀ i, i < (hk_sv j).length → lw_fa[fl_se_l.getD j 0 + i]? = some (Cond.eq (.elem (xl_sta j) (.int (Int32.ofNat i))) (.int ((hk_sv j).getD i 0))) := by decide +kernel
theorem fl_se : ∀ j, j < 4 → ∀ i, i < (hk_sv j).length → (Cond.eq (.elem (xl_sta j) (.int (Int32.ofNat i))) (.int ((hk_sv j).getD i 0))) ∈ lw_fa := fun j hj i hi => List.mem_of_getElem? (fl_se_x j hj i hi)
def fl_sw1_l : List Nat := [1227, 1229, 1231, 535]
set_option maxRecDepth 1000000 in
theorem fl_sw1_x : ∀ j, j < 4 → tables_1[fl_sw1_l.getD j 0]? = some (Cond.laysStatic (hk_sn j).1 (hk_sn j).2 "[I") := by decide +kernel
theorem fl_sw1 : ∀ j, j < 4 → (Cond.laysStatic (hk_sn j).1 (hk_sn j).2 "[I") ∈ tables_1 := fun j hj => List.mem_of_getElem? (fl_sw1_x j hj)
def fl_sw2_l : List Nat := [30, 30, 30, 24]
set_option maxRecDepth 1000000 in
theorem fl_sw2_x : ∀ j, j < 4 → tables_1[fl_sw2_l.getD j 0]? = some (Cond.initialized (hk_sn j).1) := by decide +kernel
theorem fl_sw2 : ∀ j, j < 4 → (Cond.initialized (hk_sn j).1) ∈ tables_1 := fun j hj => List.mem_of_getElem? (fl_sw2_x j hj)
set_option maxRecDepth 1000000 in
theorem fl_ta1 : (Cond.arrayOf xl_tks (.object "SignalEngine$Token")) ∈ lw_fa := List.mem_of_getElem? (i := 20) (by decide +kernel)
set_option maxRecDepth 1000000 in
theorem fl_ta2 : (Cond.eq (.length xl_tks) (.int (Int32.ofNat 33))) ∈ lw_fa := List.mem_of_getElem? (i := 21) (by decide +kernel)
def fl_te_l : List Nat := [23, 24, 25, 26, 27, 28, 29, 30, 31, 32, 33, 34, 35, 36, 37, 38, 39, 40, 41, 42, 43, 44, 45, 46, 47, 48, 49, 50, 51, 52, 53, 54, 55]
set_option maxRecDepth 1000000 in
theorem fl_te_x : ∀ j, j < 33 → lw_fa[fl_te_l.getD j 0]? = some (Cond.eq (.elem xl_tks (.int (Int32.ofNat j))) (xl_tok j)) := by decide +kernel
theorem fl_te : ∀ j, j < 33 → (Cond.eq (.elem xl_tks (.int (Int32.ofNat j))) (xl_tok j)) ∈ lw_fa := fun j hj => List.mem_of_getElem? (fl_te_x j hj)
set_option maxRecDepth 1000000 in
theorem fl_tw1 : (Cond.laysStatic "SignalEngine$Lexer" "TOKENS" "[LSignalEngine$Token;") ∈ tables_1 := List.mem_of_getElem? (i := 421) (by decide +kernel)
set_option maxRecDepth 1000000 in
theorem fl_tw2 : (Cond.initialized "SignalEngine$Lexer") ∈ tables_1 := List.mem_of_getElem? (i := 12) (by decide +kernel)
set_option maxRecDepth 1000000 in
theorem fl_cs1 : (Cond.eq (.static "java/lang/String" "COMPACT_STRINGS" "Z") (.int 1)) ∈ lw_fa := List.mem_of_getElem? (i := 56) (by decide +kernel)
set_option maxRecDepth 1000000 in
theorem fl_cs2 : (Cond.isRef (.static "jdk/internal/util/Preconditions" "SIOOBE_FORMATTER" "Ljava/util/function/BiFunction;")) ∈ lw_fa := List.mem_of_getElem? (i := 57) (by decide +kernel)
set_option maxRecDepth 1000000 in
theorem fl_cs3 : (Cond.isRef (.mirror "[Ljava/lang/Object;")) ∈ lw_fa := List.mem_of_getElem? (i := 281) (by decide +kernel)
set_option maxRecDepth 1000000 in
theorem fl_cw1 : (Cond.laysStatic "java/lang/String" "COMPACT_STRINGS" "Z") ∈ tables_1 := List.mem_of_getElem? (i := 431) (by decide +kernel)
set_option maxRecDepth 1000000 in
theorem fl_cw2 : (Cond.initialized "java/lang/String") ∈ tables_1 := List.mem_of_getElem? (i := 20) (by decide +kernel)
set_option maxRecDepth 1000000 in
theorem fl_cw3 : (Cond.laysStatic "jdk/internal/util/Preconditions" "SIOOBE_FORMATTER" "Ljava/util/function/BiFunction;") ∈ tables_1 := List.mem_of_getElem? (i := 447) (by decide +kernel)
set_option maxRecDepth 1000000 in
theorem fl_cw4 : (Cond.initialized "jdk/internal/util/Preconditions") ∈ tables_1 := List.mem_of_getElem? (i := 22) (by decide +kernel)
set_option maxRecDepth 1000000 in
theorem fl_cw5 : (Cond.arrayOver (.object "java/lang/Object")) ∈ tables_1 := List.mem_of_getElem? (i := 666) (by decide +kernel)
set_option maxRecDepth 1000000 in
theorem fl_dd1 : (Cond.arrayOf xl_dea (.object "java/lang/Object")) ∈ lw_fa := List.mem_of_getElem? (i := 5) (by decide +kernel)
set_option maxRecDepth 1000000 in
theorem fl_dd2 : (Cond.eq (.length xl_dea) (.int (Int32.ofNat 0))) ∈ lw_fa := List.mem_of_getElem? (i := 7) (by decide +kernel)
def fl_xt_l : List Nat := [63, 75, 205, 209, 213, 217, 221, 225, 229, 139, 143, 135, 167, 163, 233, 147, 237, 241, 115, 127, 131, 245, 159, 155, 249, 151, 71, 67, 119, 123, 171, 16, 10]
set_option maxRecDepth 1000000 in
theorem fl_xt_x : ∀ j, j < 33 → lw_fa[fl_xt_l.getD j 0]? = some (Cond.eq (.field (xl_tok j) "SignalEngine$Token" "text" "Ljava/lang/String;") (xl_str j)) := by decide +kernel
theorem fl_xt : ∀ j, j < 33 → (Cond.eq (.field (xl_tok j) "SignalEngine$Token" "text" "Ljava/lang/String;") (xl_str j)) ∈ lw_fa := fun j hj => List.mem_of_getElem? (fl_xt_x j hj)
def fl_xs_l : List Nat := [286, 302, 418, 429, 438, 446, 454, 465, 473, 346, 354, 339, 401, 393, 484, 362, 492, 500, 309, 326, 333, 510, 384, 376, 519, 370, 297, 292, 316, 321, 412, 282, 282]
set_option maxRecDepth 1000000 in
theorem fl_xs_x : ∀ j, j < 33 → lw_fa[fl_xs_l.getD j 0]? = some (Cond.exactly (xl_str j) "java/lang/String") := by decide +kernel
theorem fl_xs : ∀ j, j < 33 → (Cond.exactly (xl_str j) "java/lang/String") ∈ lw_fa := fun j hj => List.mem_of_getElem? (fl_xs_x j hj)
def fl_xc_l : List Nat := [287, 303, 419, 430, 439, 447, 455, 466, 474, 347, 355, 340, 402, 394, 485, 363, 493, 501, 310, 327, 334, 511, 385, 377, 520, 371, 298, 293, 317, 322, 413, 283, 283]
set_option maxRecDepth 1000000 in
theorem fl_xc_x : ∀ j, j < 33 → lw_fa[fl_xc_l.getD j 0]? = some (Cond.eq (.field (xl_str j) "java/lang/String" "coder" "B") (.int 0)) := by decide +kernel
theorem fl_xc : ∀ j, j < 33 → (Cond.eq (.field (xl_str j) "java/lang/String" "coder" "B") (.int 0)) ∈ lw_fa := fun j hj => List.mem_of_getElem? (fl_xc_x j hj)
def fl_xa_l : List Nat := [288, 304, 420, 431, 440, 448, 456, 467, 475, 348, 356, 341, 403, 395, 486, 364, 494, 502, 311, 328, 335, 512, 386, 378, 521, 372, 299, 294, 318, 323, 414, 284, 284]
set_option maxRecDepth 1000000 in
theorem fl_xa_x : ∀ j, j < 33 → lw_fa[fl_xa_l.getD j 0]? = some (Cond.arrayOf (xl_val j) .byte) := by decide +kernel
theorem fl_xa : ∀ j, j < 33 → (Cond.arrayOf (xl_val j) .byte) ∈ lw_fa := fun j hj => List.mem_of_getElem? (fl_xa_x j hj)
def fl_xl_l : List Nat := [289, 305, 421, 432, 441, 449, 457, 468, 476, 349, 357, 342, 404, 396, 487, 365, 495, 503, 312, 329, 336, 513, 387, 379, 522, 373, 300, 295, 319, 324, 415, 285, 285]
set_option maxRecDepth 1000000 in
theorem fl_xl_x : ∀ j, j < 33 → lw_fa[fl_xl_l.getD j 0]? = some (Cond.eq (.length (xl_val j)) (.int (Int32.ofNat (hk_tx.getD j []).length))) := by decide +kernel
theorem fl_xl : ∀ j, j < 33 → (Cond.eq (.length (xl_val j)) (.int (Int32.ofNat (hk_tx.getD j []).length))) ∈ lw_fa := fun j hj => List.mem_of_getElem? (fl_xl_x j hj)
def fl_xe_l : List Nat := [290, 306, 422, 433, 442, 450, 458, 469, 477, 350, 358, 343, 405, 397, 488, 366, 496, 504, 313, 330, 337, 514, 388, 380, 523, 374, 301, 296, 320, 325, 416, 0, 0]
set_option maxRecDepth 1000000 in
theorem fl_xe_x : ∀ j, j < 33 → ∀ i, i < (hk_tx.getD j []).length → lw_fa[fl_xe_l.getD j 0 + i]? = some (Cond.eq (.elem (xl_val j) (.int (Int32.ofNat i))) (.int ((hk_tx.getD j []).getD i 0))) := by decide +kernel
theorem fl_xe : ∀ j, j < 33 → ∀ i, i < (hk_tx.getD j []).length → (Cond.eq (.elem (xl_val j) (.int (Int32.ofNat i))) (.int ((hk_tx.getD j []).getD i 0))) ∈ lw_fa := fun j hj i hi => List.mem_of_getElem? (fl_xe_x j hj i hi)
set_option maxRecDepth 1000000 in
theorem fl_nc : (Cond.not (.castable "java/lang/IllegalArgumentException" "java/lang/IllegalStateException")) ∈ lw_fa := List.mem_of_getElem? (i := 275) (by decide +kernel)
theorem xl_isRef {C n d : String} {a : Array Value} {s : State} (h : (Cond.isRef (.static C n d)).before a s = true) : ∃ v : Value, v.isRef = true ∧ (Term.static C n d).eval a s none [] s = some v := by
  cases hv : (Term.static C n d).eval a s none [] s with
  | none => simp [Cond.before, Cond.holds, Cond.value, hv] at h
  | some v =>
    refine ⟨v, ?_, rfl⟩
    cases v <;> simp [Cond.before, Cond.holds, Cond.value, hv, Value.isRef] at h ⊢
theorem xl_or : ∀ i, i < 33 → ∀ j, j < 33 → tk_or.getD i 0 = tk_or.getD j 0 → i = j := by decide +kernel
set_option maxRecDepth 1000000 in
theorem hk_sv_lt : ∀ j, j < 4 → (hk_sv j).length < 2 ^ 31 := by decide +kernel
set_option maxRecDepth 1000000 in
theorem hk_tx_lt : ∀ j, j < 33 → (hk_tx.getD j []).length < 2 ^ 31 := by decide +kernel
/-- a field that the law's start tells -/
theorem xl_OF {a : Array Value} {s : State} {A : Nat → Prop} (hA : ∀ q : Nat, q < s.heap.size → ¬ A q) {tm : Term} {t : Nat} {o n d : String} {v : Value} (ht : tm.eval a s none [] s = some (.ref t)) (hv : (Term.field tm o n d).eval a s none [] s = some v) : va_OF o n d v t A s s.heap := by
  cases hfo : s.fieldFound? o n d with
  | none =>
    rw [va_fe ht] at hv
    simp [State.fieldOf?, State.fieldNamed?, hfo] at hv
  | some x =>
    obtain ⟨cf, k, fi, f⟩ := x
    obtain ⟨g1, cell, g2, g3, -, -, g6⟩ := Term.field_spec hfo ht hv
    exact ⟨cf, k, fi, f, cell, hfo, g1, g2, g3, g6, hA _ (Array.getElem?_eq_some_iff.mp g2).1⟩
/-- the environment at the law's entry -/
theorem xl_env {a : Array Value} {s : State} (hts : ∀ w ∈ lw_tbl, w.before a s = true) (hgv : (Jvm.Cond.and given_1 narrow_1).before a s = true) {A : Nat → Prop} (hA : ∀ q : Nat, q < s.heap.size → ¬ A q) : ∃ (ad : Nat → Nat) (de : Nat), xe ad de A s s.heap ∧ (∀ i, i < 33 → (xl_tok i).eval a s none [] s = some (.ref (ad i))) ∧ va_T (.object "java/lang/Object") de 0 (fun _ => .null) A s s.heap := by
  have hs : ∀ c ∈ lw_fa, c.before a s = true := lw_fa_of hgv
  have ht : ∀ w ∈ tables_1, w.before a s = true := fun w h => hts w (List.mem_append_right _ h)
  have w1 := fl_w1
  have w2 := fl_w2
  have w3 := fl_w3
  have w4 := fl_w4
  have w5 := fl_w5
  have w6 := fl_w6
  have hn : xn s := by
    intro w hw
    obtain ⟨h1, h2⟩ := List.mem_filter.mp hw
    have h3 := ht w h1
    cases w <;> first | exact va_Nw.of rfl h3 | (simp [xn_is] at h2)
  obtain ⟨v1, r1, z1⟩ := xl_isRef (hs _ fl_us)
  obtain ⟨v2, r2, z2⟩ := xl_isRef (hs _ fl_ss)
  have hZ : xc_Zt A s s.heap := ⟨v1, v2, r1, r2, va_Zof (ht _ w1) (ht _ w3) z1 hA, va_Zof (ht _ w2) (ht _ w3) z2 hA, xc_L.of (ht _ w1) hA, xc_L.of (ht _ w2) hA⟩
  obtain ⟨de, hde, hdt⟩ : ∃ de : Nat, va_Z "java/util/ArrayList" "DEFAULTCAPACITY_EMPTY_ELEMENTDATA" "[Ljava/lang/Object;" (.ref de) A s s.heap ∧ va_T (.object "java/lang/Object") de 0 (fun _ => .null) A s s.heap := by
    obtain ⟨q, q1, q2⟩ := va_Tof (N := 0) (f := fun _ => .null) (by decide) (hs _ fl_dd1) (va_eqt (hs _ fl_dd2)) (fun j hj => absurd hj (Nat.not_lt_zero j)) hA
    exact ⟨q, va_Zref (ht _ w4) (ht _ w5) q1 hA, q2⟩
  have h0 : ∀ i : Nat, ∃ t : Nat, i < 33 → (Term.static "SignalEngine$Token" (tk_nm.getD i "") "LSignalEngine$Token;").eval a s none [] s = some (.ref t) ∧ va_O "SignalEngine$Token" t A s s.heap := by
    intro i
    by_cases hi : i < 33
    · obtain ⟨q, c, cell, k, q1, q2, q3, q4, q5, q6, -⟩ := Cond.exactly_spec (hs _ (fl_ex i hi))
      exact ⟨q, fun _ => ⟨q1, cell, q3, q5, by rw [q6]; exact q2, hA q (Array.getElem?_eq_some_iff.mp q3).1⟩⟩
    · exact ⟨0, fun h => absurd h hi⟩
  obtain ⟨ad, had⟩ := Classical.axiomOfChoice h0
  have hof : ∀ (o n d : String) (z : Int32) (i : Nat), i < 33 → (Cond.eq (.field (.static "SignalEngine$Token" (tk_nm.getD i "") "LSignalEngine$Token;") o n d) (.int z)).before a s = true → va_OF o n d (.int z) (ad i) A s s.heap := by
    intro o n d z i hi h
    have hv := va_eqt h
    cases hfo : s.fieldFound? o n d with
    | none =>
      rw [va_fe (had i hi).1] at hv
      simp [State.fieldOf?, State.fieldNamed?, hfo] at hv
    | some x =>
      obtain ⟨cf, k, fi, f⟩ := x
      obtain ⟨g1, cell, g2, g3, -, -, g6⟩ := Term.field_spec hfo (had i hi).1 hv
      exact ⟨cf, k, fi, f, cell, hfo, g1, g2, g3, g6, hA _ (Array.getElem?_eq_some_iff.mp g2).1⟩
  refine ⟨ad, de, ⟨hn, hZ, ⟨fun i hi => ⟨va_Zref (ht _ (fl_ls i hi)) (ht _ w6) (had i hi).1 hA, (had i hi).2, fun q hq => ?_⟩, fun i j hi hj e => ?_⟩, hde⟩, fun i hi => (had i hi).1, hdt⟩
  · rcases List.mem_cons.mp hq with rfl | hq
    · exact hof _ _ _ _ i hi (hs _ (fl_or i hi))
    · rcases List.mem_cons.mp hq with rfl | hq
      · exact hof _ _ _ _ i hi (hs _ (fl_st i hi))
      · cases hq
  · obtain ⟨cf, k, fi, f, cell, h1, h2, h3, h4, h5, h6⟩ := hof _ _ _ _ i hi (hs _ (fl_or i hi))
    obtain ⟨cf', k', fi', f', cell', h1', h2', h3', h4', h5', h6'⟩ := hof _ _ _ _ j hj (hs _ (fl_or j hj))
    cases h1.symm.trans h1'
    rw [← e] at h3'
    cases h3.symm.trans h3'
    have h7 := h5.symm.trans h5'
    exact xl_or i hi j hj (by injection h7 with h8; injection h8)
set_option maxHeartbeats 4000000 in
/-- all that the class's walks want at the law's entry -/
theorem xl_hk {a : Array Value} {s : State} (hts : ∀ w ∈ lw_tbl, w.before a s = true) (hgv : (Jvm.Cond.and given_1 narrow_1).before a s = true) {A : Nat → Prop} (hA : ∀ q : Nat, q < s.heap.size → ¬ A q) (g : Nat → ClassId) : ∃ (ad : Nat → Nat) (de : Nat) (ga : Nat → Nat), hg_env (g, ad, de, ga) A s s.heap := by
  have hs : ∀ c ∈ lw_fa, c.before a s = true := lw_fa_of hgv
  have ht : ∀ w ∈ tables_1, w.before a s = true := fun w h => hts w (List.mem_append_right _ h)
  obtain ⟨ad, de, hxe, hta, hdt⟩ := xl_env hts hgv hA
  have h1 : ∀ j : Nat, ∃ t : Nat, j < 4 → va_Z (hk_sn j).1 (hk_sn j).2 "[I" (.ref t) A s s.heap ∧ va_T .int t (hk_sv j).length (fun i => .int ((hk_sv j).getD i 0)) A s s.heap := by
    intro j
    by_cases hj : j < 4
    · obtain ⟨t, e1, e2⟩ := va_Tof (f := fun i => .int ((hk_sv j).getD i 0)) (hk_sv_lt j hj) (hs _ (fl_sa j hj)) (va_eqt (hs _ (fl_sl j hj))) (fun i hi => va_eqt (hs _ (fl_se j hj i hi))) hA
      exact ⟨t, fun _ => ⟨va_Zref (ht _ (fl_sw1 j hj)) (ht _ (fl_sw2 j hj)) e1 hA, e2⟩⟩
    · exact ⟨0, fun h => absurd h hj⟩
  obtain ⟨g1, hg1⟩ := Classical.axiomOfChoice h1
  obtain ⟨tk, e1, e2⟩ := va_Tof (N := 33) (f := fun i => .ref (ad i)) (by decide) (hs _ fl_ta1) (va_eqt (hs _ fl_ta2)) (fun i hi => Cond.eq_refs (hs _ (fl_te i hi)) (hta i hi) rfl) hA
  have htk := va_Zref (ht _ fl_tw1) (ht _ fl_tw2) e1 hA
  have hcs := va_Zof (ht _ fl_cw1) (ht _ fl_cw2) (va_eqt (hs _ fl_cs1)) hA
  obtain ⟨v, hv, zv⟩ := xl_isRef (hs _ fl_cs2)
  have hsf := va_Zof (ht _ fl_cw3) (ht _ fl_cw4) zv hA
  obtain ⟨mi, hmi⟩ := va_Mi.of (hs _ fl_cs3)
  have h2 : ∀ j : Nat, ∃ q : Nat × Nat, j < 33 → va_OF "SignalEngine$Token" "text" "Ljava/lang/String;" (.ref q.1) (ad j) A s s.heap ∧ va_O "java/lang/String" q.1 A s s.heap ∧ va_OF "java/lang/String" "value" "[B" (.ref q.2) q.1 A s s.heap ∧ va_OF "java/lang/String" "coder" "B" (.int 0) q.1 A s s.heap ∧ va_T .byte q.2 (hk_tx.getD j []).length (fun i => .int ((hk_tx.getD j []).getD i 0)) A s s.heap := by
    intro j
    by_cases hj : j < 33
    · obtain ⟨q, c, cell, k, q1, q2, q3, q4, q5, q6, -⟩ := Cond.exactly_spec (hs _ (fl_xs j hj))
      obtain ⟨t, e1, e2⟩ := va_Tof (f := fun i => .int ((hk_tx.getD j []).getD i 0)) (hk_tx_lt j hj) (hs _ (fl_xa j hj)) (va_eqt (hs _ (fl_xl j hj))) (fun i hi => va_eqt (hs _ (fl_xe j hj i hi))) hA
      exact ⟨(q, t), fun _ => ⟨xl_OF hA (hta j hj) (Cond.eq_refs (hs _ (fl_xt j hj)) q1 rfl), ⟨cell, q3, q5, by rw [q6]; exact q2, hA q (Array.getElem?_eq_some_iff.mp q3).1⟩, xl_OF hA q1 e1, xl_OF hA q1 (va_eqt (hs _ (fl_xc j hj))), e2⟩⟩
    · exact ⟨(0, 0), fun h => absurd h hj⟩
  obtain ⟨g2, hg2⟩ := Classical.axiomOfChoice h2
  refine ⟨ad, de, (fun k => if k < 4 then g1 k else if k = 4 then tk else if k = 5 then mi else if k < 50 then (g2 (k - 10)).1 else (g2 (k - 50)).2), hxe, fun j hj => ?_, ⟨htk, e2⟩, ⟨hcs, ⟨v, hv, hsf⟩, hdt, hmi, va_AO.of (ht _ fl_cw5)⟩, fun j hj => ?_⟩
  · show va_Z _ _ _ (.ref (if j < 4 then g1 j else _)) A s s.heap ∧ va_T .int (if j < 4 then g1 j else _) _ _ A s s.heap
    rw [if_pos hj]
    exact hg1 j hj
  · have x1 : (if 10 + j < 4 then g1 (10 + j) else if 10 + j = 4 then tk else if 10 + j = 5 then mi else if 10 + j < 50 then (g2 (10 + j - 10)).1 else (g2 (10 + j - 50)).2) = (g2 j).1 := by
      rw [if_neg (by omega), if_neg (by omega), if_neg (by omega), if_pos (by omega), Nat.add_sub_cancel_left]
    have x2 : (if 50 + j < 4 then g1 (50 + j) else if 50 + j = 4 then tk else if 50 + j = 5 then mi else if 50 + j < 50 then (g2 (50 + j - 10)).1 else (g2 (50 + j - 50)).2) = (g2 j).2 := by
      rw [if_neg (by omega), if_neg (by omega), if_neg (by omega), if_neg (by omega), Nat.add_sub_cancel_left]
    show va_OF _ _ _ (.ref (if 10 + j < 4 then g1 (10 + j) else if 10 + j = 4 then tk else if 10 + j = 5 then mi else if 10 + j < 50 then (g2 (10 + j - 10)).1 else (g2 (10 + j - 50)).2)) _ A s s.heap ∧ va_O _ (if 10 + j < 4 then g1 (10 + j) else if 10 + j = 4 then tk else if 10 + j = 5 then mi else if 10 + j < 50 then (g2 (10 + j - 10)).1 else (g2 (10 + j - 50)).2) A s s.heap ∧ va_OF _ _ _ (.ref (if 50 + j < 4 then g1 (50 + j) else if 50 + j = 4 then tk else if 50 + j = 5 then mi else if 50 + j < 50 then (g2 (50 + j - 10)).1 else (g2 (50 + j - 50)).2)) (if 10 + j < 4 then g1 (10 + j) else if 10 + j = 4 then tk else if 10 + j = 5 then mi else if 10 + j < 50 then (g2 (10 + j - 10)).1 else (g2 (10 + j - 50)).2) A s s.heap ∧ va_OF _ _ _ (.int 0) (if 10 + j < 4 then g1 (10 + j) else if 10 + j = 4 then tk else if 10 + j = 5 then mi else if 10 + j < 50 then (g2 (10 + j - 10)).1 else (g2 (10 + j - 50)).2) A s s.heap ∧ va_T .byte (if 50 + j < 4 then g1 (50 + j) else if 50 + j = 4 then tk else if 50 + j = 5 then mi else if 50 + j < 50 then (g2 (50 + j - 10)).1 else (g2 (50 + j - 50)).2) _ _ A s s.heap
    rw [x1, x2]
    exact hg2 j hj
/-- the classes of arrays -/
theorem xl_arr {a : Array Value} {s : State} {ty : FieldType} (h : (Cond.arrayClass ty).before a s = true) (hty : ∀ c : ClassId, va_RA s c ty = (s.vm.findClass ("[" ++ ty.toString) = some c)) : ∃ c : ClassId, ArrOfT s c ty ∧ va_RA s c ty := by
  obtain ⟨c, k, comp, h1, h2, h3⟩ := Cond.arrayClass_spec h
  exact ⟨c, fun n z => ⟨fun k h => (by cases h), k, h2, comp, h3⟩, by rw [hty]; exact h1⟩
