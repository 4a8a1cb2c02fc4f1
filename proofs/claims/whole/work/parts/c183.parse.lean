/-! a method with a handler: parse -/
def hg_CH (l : Launch) (y : MethodName) (cc : ByteArray) (nL : Nat) (ret : Option FieldType) (hd : List (Nat × Nat × Nat × Nat)) (fr lo : Nat) (D : va_G) (G : hg_E) (av : List Value) (S : hg_S) (v : Option Value) (u : hg_S) : Prop :=
  Met l y (.codeWith y cc nL ret hd :: tt) (hg_rm fr lo S) (va_Pc av (hg_P G D S)) (hg_Qr D G S v u) S.2.2.1 S.2.2.2 (va_A S.1 S.2.1)
def hg_tab (X : dc_X) (hd : List (Nat × Nat × Nat × Nat)) : Prop :=
  match X with
  | (_, _, _, _, _, _, _, c, _, _) => c.exceptionTable.toList = tableOf hd
theorem hg_enterH {l : Launch} {y : MethodName} {cc : ByteArray} {nL : Nat} {ret : Option FieldType} {hd : List (Nat × Nat × Nat × Nat)} {fr lo : Nat} {D : va_G} {G : hg_E} {av : List Value} {S : hg_S} {v : Option Value} {u : hg_S} {lv : List (Nat × Value)} (hy : plainName y.cls = true) (hav : (lg_sl av).length ≤ nL) (hlv : lv_args 0 av = lv)
    (body : ∀ X : dc_X, hg_K X D G cc nL y.cls → hg_tab X hd → hg_R X (hg_rm fr lo S) D G y.name ret S (.inl (v, u)) → hg_G X l (hg_rm fr lo S) D nL S 0 lv []) : hg_CH l y cc nL ret hd fr lo D G av S v u := by
  subst hlv
  refine xc_MetW (cc := cc) (maxL := nL) (ret := ret) (hh := hd) hy rfl ?_
  intro p e s m args below meth c s₁ B hml htab hv
  obtain ⟨rfl, hsz, hP, hK, hD, hE⟩ := hv
  have hts := atoms_spec (ws := .codeWith y cc nL ret hd :: tt) B.pre
  rw [lg_entry_eq]
  have hb := body (p, e, s, m, av.toArray, below, meth, c, MQ below (hg_Qr D G S v u) av.toArray s S.2.2.1 S.2.2.2 (va_A S.1 S.2.1), va_A S.1 S.2.1)
    ⟨B.exec, B.bytes, hml, findClass_of_methodNamed B.named, fun w h => hts w (tw_mem h), hK, hE, fun q h => Or.inr (by rw [← hsz]; exact h)⟩ htab
    ⟨(name_of_methodNamed B.named B.method).1, B.returns, B.notSynchronized, rfl, hsz, rfl, rfl, rfl⟩ s.heap [] _ ⟨hP, hD.self, va_S.rf, hsz, by rw [hsz]; rfl, Nat.le_refl _, Nat.le_refl _⟩ (lv_entry av hav)
  have e1 : (hg_rm fr lo S).cells - S.2.2.1 = 0 := Nat.sub_self _
  have e2 : (hg_rm fr lo S).slots - S.2.2.2 = 0 := Nat.sub_self _
  rw [e1, e2] at hb
  exact hb
section HGX
variable {X : dc_X} {l : Launch} {R : Room} {D : va_G} {G : hg_E} {cc bytes : ByteArray} {nL pc index maxL fr lo : Nat} {own : String} {S : hg_S} {lv : List (Nat × Value)} {rest st0 As : List Value} {y : MethodName} {ret : Option FieldType}
/-- a call that throws, caught -/
theorem hg_catch (hC : hg_K X D G cc nL own) {sp ep hpc ct : Nat} {more : List (Nat × Nat × Nat × Nat)} (htab : hg_tab X ((sp, ep, hpc, ct) :: more)) (hcov : sp ≤ pc ∧ pc < ep) (hct : ct ≠ 0) {C : String} (hcl : Cond.classLink own ct C ∈ tt) {x : Nat} {u : hg_S} (hw : dc_VW own index y bytes maxL ret As.length) {b : Nat} (hM : hg_C l y bytes maxL ret fr lo D G (.ref b :: As) S (.inr (C, x, u))) (hR : fr + 1 ≤ R.frames ∧ 8 + (maxL + 11) + lo ≤ R.locals) (hrv : hg_is S b y.cls) (hstack : st0 = As.reverse ++ .ref b :: rest) (hW : (rest.map fun v => v.category).sum ≤ 8) (d : decode cc pc = .ok (.invokevirtual index, 3))
    (kk : hg_G X l R D nL u hpc lv [va_rf (some x)]) : hg_G X l R D nL S pc lv st0 := by
  obtain ⟨p, e, s, m, args, below, meth, c, Q, A⟩ := X
  obtain ⟨hx, hb, hml, hown, hts, hK, hE, hA⟩ := hC
  obtain ⟨m5, m4, m1, m2, m3, hdd⟩ := hw
  obtain ⟨q0, ci, q, fs, h1, h2, h3⟩ := hrv
  intro H locs ls hh hl
  have hv := va_recv hK hh.1 h1 h2
  rw [h3] at hv
  have hr := xc_runV (Ts := tt) (own := own) (C := y.cls) (As := As) (rest := rest) (locs := locs) (below := below) (e := e) (R := R) (meth := meth) (cells := R.cells - S.2.2.1) (slots := R.slots - S.2.2.2) (g := F0 m pc ls st0) ⟨hx, hb, hml, hown, hts⟩ hM ⟨hg_cB (p := p) (m := m) As.length hts m5 m4 m1 hdd hR, hts _ m2, hts _ m3⟩ ⟨hg_blind, hv, hg_pcall hh.2.2.2.1 hh.1 hK hh.2.1 hE hh.2.2.1 (hg_in (G := G) hA hh)⟩ rfl rfl hl.1 hstack (lv_room hW) d ⟨by have := hh.2.2.2.2.2.1; omega, by have := hh.2.2.2.2.2.2; omega⟩
  refine hg_know fun hk1 hk2 => ?_
  have hin := hg_in (G := G) hA hh
  obtain ⟨hP, hD, hS, hz, hc, g1, g2⟩ := hh
  intro T hT Y
  obtain ⟨x', st₀, t, T', L, h0, Y', hL, e1, e2, ⟨rfl, hob, ⟨hP1, hK1, hD1⟩, hz1, hc1, hr1, hs1, ht1, hF⟩, st⟩ := hr T hT Y
  rw [h0] at ht1
  have hal : s.vm.Alike t.vm := by rw [← e2]; exact Y'.warmed.alike
  obtain ⟨cell, o1, o2, o3⟩ := hob
  have hob2 : xc_Ob C x' s T'.heap := ⟨cell, by rw [e1]; exact o1, o2, by rw [← hal.findClass]; exact o3⟩
  obtain ⟨vm', hW', hfind⟩ := xc_find (ls := ls) (rest := rest) Y' hown htab hcov hct (hts _ hcl) hob2
  have hz2 : H.size ≤ T'.heap.size := by rw [e1, ← h0]; exact hF.1
  have hk3 : ∀ q : Nat, q < H.size → ¬ va_A S.1 S.2.1 q → T'.heap[q]? = H[q]? := fun q h3 h4 => by rw [e1]; rw [← h0] at h3 ⊢; exact hF.2 q h3 h4
  have Y2 := hg_tight (k := R.cells - u.2.2.1) (n := R.slots - u.2.2.2) Y' (by rw [e1, hz1]; omega) (by rw [e1]; omega)
  obtain ⟨t2, a1, b1⟩ := kk T'.heap (locs ++ L) ls ⟨by rw [e1]; exact hP1, hD1.weaken (fun _ _ _ h => hin _ h), ⟨Nat.le_trans hS.1 hz2, fun q h3 h4 => (hk3 q (Nat.lt_of_lt_of_le h3 hS.1) (fun z => h4 (hin q z))).trans (hS.2.1 q h3 h4), fun q hq => by
      rcases List.mem_append.mp hq with h | h
      · exact hS.2.2 q h
      · exact hin _ (hL q h)⟩, by rw [e1]; exact hz1, by omega, by omega, by omega⟩ hl (T'.setVm vm') rfl (Y2.noted hW')
  refine ⟨t2, st _ ?_, b1⟩
  have h : At T' m c below := Y'.here
  obtain ⟨hgo, hw⟩ := At.throwing (g := F0 m pc ls rest) h x'
  refine Steps.head hgo hw ?_
  rw [stepThread_throwing (frames_entered h.top _), (xc_stepCatch hfind).1]
  obtain ⟨g₀, hg⟩ := Option.isSome_iff_exists.mp h.top
  obtain ⟨r, hr2⟩ := State.topJava?_eq_some.mp hg
  have hr3 : (T'.setVm vm').frames = .java g₀ :: r := hr2
  rw [State.pushFrame, State.setFrames_setFrames, State.setTop_of_frames _ hr3, State.setFrames_setFrames]
  rw [State.setTop_of_frames _ hr3] at a1
  rw [hr2]
  exact a1
def hg_VHW (own : String) (index : Nat) (y : MethodName) (cc : ByteArray) (nL : Nat) (ret : Option FieldType) (hd : List (Nat × Nat × Nat × Nat)) (na : Nat) : Prop := Cond.codeWith y cc nL ret hd ∈ tt ∧ Cond.initialized y.cls ∈ tt ∧ Cond.methodLink own index y ∈ tt ∧ Cond.instanceMethod y ∈ tt ∧ Cond.selects y.cls y y ∈ tt ∧ (y.cls ≠ "java/lang/invoke/MethodHandle" ∧ y.cls ≠ "java/lang/invoke/VarHandle" ∧ (parseMethodDescriptor y.desc).map (fun d => d.parameters.length) = some na)
/-- a call of a method with handlers, without arguments -/
theorem hg_kHi (hC : hg_K X D G cc nL own) {hd : List (Nat × Nat × Nat × Nat)} (hw : hg_VHW own index y bytes maxL ret hd 0) {b : Nat} {r : Option Nat} {ρ : Type} {Ec : Option ρ} {vo : ρ → Int32} {so : ρ → hg_S} (hM0 : ∀ q, Ec = some q → hg_CH l y bytes maxL ret hd fr lo D G [.ref b] S (some (.int (vo q))) (so q)) (hfr : fr + 1 ≤ R.frames) (hlo : 8 + (maxL + 11) + lo ≤ R.locals) (hrb : r = some b) (hrv : hg_is S b y.cls) (hstack : st0 = va_rf r :: rest) (hW : (rest.map fun v => v.category).sum ≤ 8) (d : decode cc pc = .ok (.invokevirtual index, 3)) {τ : Type} {E : ρ → Option τ} {F : τ → Prop} (h : dc_wp (Ec.bind E) F) (kk : ∀ q, dc_wp (E q) F → hg_G X l R D nL (so q) (pc + 3) lv (.int (vo q) :: rest)) : hg_G X l R D nL S pc lv st0 := by
  obtain ⟨q, h1, h2⟩ := dc_bind h
  subst hrb
  have hM := hM0 q h1
  have kk2 := kk q h2
  obtain ⟨p, e, s, m, args, below, meth, c, Q, A⟩ := X
  obtain ⟨hx, hb, hml, hown, hts, hK, hE, hA⟩ := hC
  obtain ⟨m5, m4, m1, m2, m3, hdd⟩ := hw
  intro H locs ls hh hl
  refine hg_behind (G := G) (v := some (.int (vo q))) (rest := rest) (a := #[.ref b]) hK hA hh hl ?_ kk2
  have hB : Back l R p e below s args y 3 8 (PreOf R S.2.2.1 S.2.2.2 (va_Pc [.ref b] (hg_P G D S))) (PostOf (hg_Qr D G S (some (.int (vo q))) (so q)) S.2.2.1 S.2.2.2 (va_A S.1 S.2.1)) :=
    va_backW (hh := hd) (bytes := bytes) (maxL := maxL) (ret := ret) hM hg_blind rfl rfl hfr hlo (pay_in hts (tw_goodT m5)) List.mem_cons_self (fun a' U hW => word_at hW (good_of_word (tt_good _ m4)) (hts _ m4))
  obtain ⟨mk, methM, cM, hnamed, hmethM, -, -, -, -, -, -, hsigM⟩ := Cond.codeWith_spec (hts _ m5)
  obtain ⟨mk2, methM2, hnamed2, hmethM2, hstM, habM⟩ := Cond.instanceMethod_spec (hts _ m2)
  cases hnamed.symm.trans hnamed2
  cases hmethM.symm.trans hmethM2
  have hlen : ([] : List Value).length = methM.sig.parameters.length := by
    have h2 := hdd.2.2
    rw [hsigM] at h2
    exact (Option.some.inj h2).symm
  obtain ⟨q0, ci, qq, fs, g1, g2, g3⟩ := hrv
  have hv := va_recv hK hh.1 g1 g2
  rw [g3] at hv
  obtain ⟨cellB, hcB, hoB, hclB⟩ := hv
  obtain ⟨c2, r2, m2', z1, z2, z3, z4, kP, hkP, hkPi⟩ := Cond.selects_spec (hts _ m3)
  cases hclB.symm.trans z1
  cases (State.methodFound?_of_named hnamed ⟨hdd.1, hdd.2.1⟩).symm.trans z2
  cases hnamed.symm.trans z3
  intro T hT Y
  have hselP : selectMethod e.platform s.vm cellB.cls mk = .method mk := by rw [Launch.admits_selectMethod Y.admits]; exact z4
  obtain ⟨vm₁, Y₁, hstep₁⟩ := Y.invokevirtual hx hown (hts _ m1) hnamed hmethM hstM hkP hkPi ⟨hdd.1, hdd.2.1⟩ (a := b) (cell := cellB) (by rw [hT]; exact hcB)
    (fun z h => by rw [h] at hoB; cases hoB) hselP hmethM habM hkP hkPi (g := F0 m pc ls st0) rfl (argsL := []) (rest := rest) hlen hstack (by rw [hb]; exact d)
  obtain ⟨v, ⟨U', l2, c2', s2⟩, Y', ⟨g', mk', t, L, e1, e2, hq, h1, hL, h2, h3⟩, hsteps⟩ := hB m meth c ⟨T.setVm vm₁, locs, R.cells - S.2.2.1, R.slots - S.2.2.2⟩ (F0 m pc ls rest) (.invokevirtual index) mk #[.ref b] Y₁ rfl (hl.1.trans hml.symm) (by rw [hb]; exact d) (lv_room hW) (Y₁.named hnamed)
    ⟨by have := hh.2.2.2.2.2.1; show R.cells - S.2.2.1 + S.2.2.1 ≤ _; omega, by have := hh.2.2.2.2.2.2; show R.slots - S.2.2.2 + S.2.2.2 ≤ _; omega, hg_pcall (av := [.ref b]) hh.2.2.2.1 hh.1 hK hh.2.1 hE hh.2.2.1 (hg_in (G := G) hA hh) (T.setVm vm₁) hT Y₁.warmed⟩
  dsimp only [Pt.U, Pt.locs, Pt.cells, Pt.slots] at Y' e1 e2 h1 h2 h3 hsteps
  subst h1; subst h2; subst h3
  exact ⟨v, (T.setVm vm₁).calling g' mk' #[.ref b], t, U', L, hT, Y', hL, e1, e2, hq, fun target h => hstep₁ _ fun acts => by rw [doInvoke_state]; exact hsteps.trans h⟩
end HGX
