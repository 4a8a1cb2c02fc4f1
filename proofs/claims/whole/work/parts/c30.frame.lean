/-! the law's own rows: calls on a block of its world, the script, longs -/
/-- a call on the block in the middle: the rest is as it was -/
theorem hl_frame {A : Nat → Prop} {D : va_G} {wl wm wr w1 : va_W} {H H1 : Heap} {sz : Nat} (hP : va_P D cl (wl ++ (wm ++ wr)) H) (hD : va_D A (wl ++ (wm ++ wr))) (hsz : H.size = sz) (hA : ∀ q, sz ≤ q → A q) (hk : ∀ q : Nat, q < H.size → ¬ va_A wm sz q → H1[q]? = H[q]?) (hP1 : va_P D cl w1 H1) (hD1 : va_D (va_A wm sz) w1) : va_P D cl (wl ++ (w1 ++ wr)) H1 ∧ va_D A (wl ++ (w1 ++ wr)) := by
  have gl : ∀ (k : Nat) (q : Nat × va_E), wl[k]? = some q → (wl ++ (wm ++ wr))[k]? = some q := fun k q h => by
    rw [List.getElem?_append_left (List.getElem?_eq_some_iff.mp h).1]; exact h
  have gm : ∀ (k : Nat) (q : Nat × va_E), wm[k]? = some q → (wl ++ (wm ++ wr))[wl.length + k]? = some q := fun k q h => by
    rw [List.getElem?_append_right (by omega), show wl.length + k - wl.length = k by omega, List.getElem?_append_left (List.getElem?_eq_some_iff.mp h).1]; exact h
  have gr : ∀ (k : Nat) (q : Nat × va_E), wr[k]? = some q → (wl ++ (wm ++ wr))[wl.length + (wm.length + k)]? = some q := fun k q h => by
    rw [List.getElem?_append_right (by omega), show wl.length + (wm.length + k) - wl.length = wm.length + k by omega, List.getElem?_append_right (by omega), show wm.length + k - wm.length = k by omega]; exact h
  have ol : ∀ (k : Nat) (q : Nat × va_E), wl[k]? = some q → ¬ va_A wm sz q.1 ∧ q.1 < H.size := by
    intro k q h
    have hlt := (hP _ _ (gl k q h)).lt
    refine ⟨?_, hlt⟩
    rintro (⟨k2, e2, h2⟩ | h2)
    · have := hD.1 _ _ _ _ (gl k q h) (gm k2 _ h2) rfl
      have := (List.getElem?_eq_some_iff.mp h).1
      omega
    · omega
  have or : ∀ (k : Nat) (q : Nat × va_E), wr[k]? = some q → ¬ va_A wm sz q.1 ∧ q.1 < H.size := by
    intro k q h
    have hlt := (hP _ _ (gr k q h)).lt
    refine ⟨?_, hlt⟩
    rintro (⟨k2, e2, h2⟩ | h2)
    · have := hD.1 _ _ _ _ (gr k q h) (gm k2 _ h2) rfl
      have := (List.getElem?_eq_some_iff.mp h2).1
      omega
    · omega
  have Pl : va_P D cl wl H1 := fun k q h => (hP _ _ (gl k q h)).kept (hk q.1 (ol k q h).2 (ol k q h).1)
  have Pr : va_P D cl wr H1 := fun k q h => (hP _ _ (gr k q h)).kept (hk q.1 (or k q h).2 (or k q h).1)
  have Dl : va_D A wl := ⟨fun i j p q h1 h2 h3 => hD.1 i j p q (gl i p h1) (gl j q h2) h3, fun k q h => hD.2 _ _ (gl k q h)⟩
  have Dr : va_D A wr := ⟨fun i j p q h1 h2 h3 => by have := hD.1 _ _ p q (gr i p h1) (gr j q h2) h3; omega, fun k q h => hD.2 _ _ (gr k q h)⟩
  have Dm : va_D A w1 := hD1.weaken (fun k q hq h => by
    rcases h with ⟨k2, e2, h2⟩ | h2
    · exact (hD.2 _ (q.1, e2) (gm k2 (q.1, e2) h2) : A (q.1, e2).1)
    · exact hA _ h2)
  have xm : ∀ (i j : Nat) (p q : Nat × va_E), w1[i]? = some p → wr[j]? = some q → p.1 ≠ q.1 := fun i j p q h1 h2 h3 => (or j q h2).1 (by rw [← h3]; exact hD1.2 i p h1)
  refine ⟨Pl.app (hP1.app Pr), Dl.app (Dm.app Dr xm) ?_⟩
  intro i j p q h1 h2 h3
  by_cases hj : j < w1.length
  · rw [List.getElem?_append_left hj] at h2
    exact (ol i p h1).1 (by rw [h3]; exact hD1.2 j q h2)
  · rw [List.getElem?_append_right (by omega)] at h2
    have := hD.1 _ _ p q (gl i p h1) (gr _ q h2) h3
    have := (List.getElem?_eq_some_iff.mp h1).1
    omega
section HLF
variable {p : Program} {l : Launch} {e : Env} {R : Room} {s : State} {m : MethodId} {args : Array Value} {below : List Frame} {meth : Method} {c : Code} {H : Heap} {locs : List Loc} {Q : State → Prop} {A : Nat → Prop} {D : va_G} {G : hg_E} {S u : hg_S} {F : va_W} {pc nL : Nat} {ls : Array Slot} {rest st0 : List Value} {lv : List (Nat × Value)} {v : Option Value} {a : Array Value}
theorem hl_sub (hh : hg_H (p, e, s, m, args, below, meth, c, Q, A) R D (S.1 ++ F, S.2) H locs) : hg_H (p, e, s, m, args, below, meth, c, Q, A) R D S H locs := by
  obtain ⟨hP, hD, hr⟩ := hh
  have gl : ∀ (k : Nat) (q : Nat × va_E), S.1[k]? = some q → (S.1 ++ F)[k]? = some q := fun k q h => by
    rw [List.getElem?_append_left (List.getElem?_eq_some_iff.mp h).1]; exact h
  exact ⟨fun k q h => hP k q (gl k q h), ⟨fun i j p q h1 h2 h3 => hD.1 i j p q (gl i p h1) (gl j q h2) h3, fun k q h => hD.2 k q (gl k q h)⟩, hr⟩
/-- behind a call of the class's: the rest of the law's world is as it was -/
theorem hl_behind (hA : ∀ q, s.heap.size ≤ q → A q) (hh : hg_H (p, e, s, m, args, below, meth, c, Q, A) R D (S.1 ++ F, S.2) H locs) (hl : lv_has ls nL lv)
    (hr : va_Run p l e R s m args below meth c H locs (R.cells - S.2.2.1) (R.slots - S.2.2.2) S.2.2.1 S.2.2.2 (F0 m pc ls st0) rest (hg_Qr D G S v u a) (va_A S.1 S.2.1))
    (kk : hg_G (p, e, s, m, args, below, meth, c, Q, A) l R D nL (u.1 ++ F, u.2) (pc + 3) lv (v.toList ++ rest)) : W p l e R s m args below meth c H locs (R.cells - S.2.2.1) (R.slots - S.2.2.2) Q (F0 m pc ls st0) := by
  refine hg_know fun hk1 hk2 => ?_
  have hin := hg_in (G := G) hA (hl_sub hh)
  obtain ⟨hP, hD, hS, hz, hc, h1, h2⟩ := hh
  have hz : H.size = S.2.1 := hz
  have hc : S.2.1 + S.2.2.1 = s.heap.size + R.cells := hc
  have h1 : S.2.2.1 ≤ R.cells := h1
  have h2 : S.2.2.2 ≤ R.slots := h2
  intro T hT Y
  obtain ⟨v', st₀, t, T', L, h0, Y', hL, e1, e2, ⟨hv, ⟨hP1, hK1, hD1⟩, hz1, hc1, hr1, hs1, ht1, hF⟩, st⟩ := hr T hT Y
  cases hv
  rw [h0] at ht1
  have hz2 : H.size ≤ T'.heap.size := by rw [e1, ← h0]; exact hF.1
  have hk3 : ∀ q : Nat, q < H.size → ¬ va_A S.1 S.2.1 q → T'.heap[q]? = H[q]? := fun q h3 h4 => by rw [e1]; rw [← h0] at h3 ⊢; exact hF.2 q h3 h4
  have Y2 := hg_tight (k := R.cells - u.2.2.1) (n := R.slots - u.2.2.2) Y' (by rw [e1, hz1]; omega) (by rw [e1]; omega)
  obtain ⟨hP2, hD2⟩ := hl_frame (wl := []) (wm := S.1) (wr := F) (w1 := u.1) hP hD hz (fun q h => hA q (Nat.le_trans hS.1 (by rw [hz]; exact h))) hk3 (by rw [e1]; exact hP1) hD1
  obtain ⟨t2, a1, b1⟩ := kk T'.heap (locs ++ L) ls ⟨hP2, hD2, ⟨Nat.le_trans hS.1 hz2, fun q h3 h4 => (hk3 q (Nat.lt_of_lt_of_le h3 hS.1) (fun z => h4 (hin q z))).trans (hS.2.1 q h3 h4), fun q hq => by
      rcases List.mem_append.mp hq with h | h
      · exact hS.2.2 q h
      · exact hin _ (hL q h)⟩, by rw [e1]; exact hz1, by show u.2.1 + u.2.2.1 = _; omega, by show u.2.2.1 ≤ _; omega, by show u.2.2.2 ≤ _; omega⟩ hl T' rfl Y2
  exact ⟨t2, st t2 a1, b1⟩
end HLF
section HLC
variable {X : dc_X} {l : Launch} {R : Room} {D : va_G} {G : hg_E} {cc bytes : ByteArray} {nL pc index maxL fr lo : Nat} {own : String} {S : hg_S} {F : va_W} {lv : List (Nat × Value)} {rest st0 As : List Value} {y : MethodName} {ret : Option FieldType}
theorem hl_cV (hC : hg_K X D G cc nL own) {v : Option Value} {u : hg_S} (hw : dc_VW own index y bytes maxL ret As.length) {b : Nat} (hM : hg_C l y bytes maxL ret fr lo D G (.ref b :: As) S (.inl (v, u))) (hR : fr + 1 ≤ R.frames ∧ 8 + (maxL + 11) + lo ≤ R.locals) (hrv : hg_is S b y.cls) (hstack : st0 = As.reverse ++ .ref b :: rest) (hW : (rest.map fun v => v.category).sum ≤ 8) (d : decode cc pc = .ok (.invokevirtual index, 3))
    (kk : hg_G X l R D nL (u.1 ++ F, u.2) (pc + 3) lv (v.toList ++ rest)) : hg_G X l R D nL (S.1 ++ F, S.2) pc lv st0 := by
  obtain ⟨p, e, s, m, args, below, meth, c, Q, A⟩ := X
  obtain ⟨hx, hb, hml, hown, hts, hK, hE, hA⟩ := hC
  obtain ⟨m5, m4, m1, m2, m3, hdd⟩ := hw
  obtain ⟨q0, ci, q, fs, h1, h2, h3⟩ := hrv
  intro H locs ls hh hl
  have hs := hl_sub hh
  have hv := va_recv hK hs.1 h1 h2
  rw [h3] at hv
  exact hl_behind (S := S) (F := F) (G := G) hA hh hl (va_runV (Ts := tt) (own := own) (C := y.cls) (As := As) (rest := rest) ⟨hx, hb, hml, hown, hts⟩ hM ⟨hg_cB (p := p) (m := m) As.length hts m5 m4 m1 hdd hR, hts _ m2, hts _ m3⟩ ⟨hg_blind, hv, hg_pcall hs.2.2.2.1 hs.1 hK hs.2.1 hE hs.2.2.1 (hg_in (G := G) hA hs)⟩ rfl rfl hl.1 hstack (lv_room hW) d ⟨by have := hs.2.2.2.2.2.1; omega, by have := hs.2.2.2.2.2.2; omega⟩) kk
/-- a call of the reference's: on its block alone; it makes nothing -/
def hl_KM (X : dc_X) (D : va_G) (tys : List (ClassId × FieldType)) : Prop :=
  match X with
  | (_, _, s, _, _, _, _, _, _, _) => va_K D cl tys s
theorem hl_mrun {p : Program} {e : Env} {s : State} {m : MethodId} {args : Array Value} {below : List Frame} {meth : Method} {c : Code} {Q : State → Prop} {A : Nat → Prop} {tys : List (ClassId × FieldType)} {wl wm wr : va_W} {S2 : Nat × Nat × Nat} {H : Heap} {locs : List Loc} {ls : Array Slot} {Qc : Array Value → State → Outcome → State → Prop} {free : Addr → Prop} (hx : p.tables.exec = Jvm.exec) (hb : c.code = cc) (hml : c.maxLocals = nL) (hown : s.vm.findClass own = some m.cls) (hts : ∀ w ∈ tt, w.before args s = true) (hKm : va_K D cl tys s) (hE : hg_env G A s s.heap) (hA : ∀ q, s.heap.size ≤ q → A q) (hw : dc_VW own index y bytes maxL ret As.length) {b : Nat} (hM : Met l y (tw y bytes maxL ret) { frames := fr, cells := 0, slots := 0, locals := lo } (va_Pc (.ref b :: As) (xp G.2.1 G.2.2.1 D wm tys H.size)) Qc 0 0 free) (hR : fr + 1 ≤ R.frames ∧ 8 + (maxL + 11) + lo ≤ R.locals) (hrv : ∃ (q0 ci : Nat) (q : vw_C) (fs : List Value), cl[ci]? = some q ∧ wm[q0]? = some (b, .inr (ci, fs)) ∧ q.1 = y.cls) (hstack : st0 = As.reverse ++ .ref b :: rest) (hW : (rest.map fun v => v.category).sum ≤ 8) (d : decode cc pc = .ok (.invokevirtual index, 3))
    (hh : hg_H (p, e, s, m, args, below, meth, c, Q, A) R D (wl ++ (wm ++ wr), S2) H locs) (hl : ls.size = nL) : va_Run p l e R s m args below meth c H locs (R.cells - S2.2.1) (R.slots - S2.2.2) 0 0 (F0 m pc ls st0) rest (Qc (Value.ref b :: As).toArray) free := by
  obtain ⟨m5, m4, m1, m2, m3, hdd⟩ := hw
  obtain ⟨hP, hD, hS, hz, hc, h1, h2⟩ := hh
  have gm : ∀ (k : Nat) (q : Nat × va_E), wm[k]? = some q → (wl ++ (wm ++ wr))[wl.length + k]? = some q := fun k q h => by
    rw [List.getElem?_append_right (by omega), show wl.length + k - wl.length = k by omega, List.getElem?_append_left (List.getElem?_eq_some_iff.mp h).1]; exact h
  have hPm : va_P D cl wm H := fun k q h => hP _ _ (gm k q h)
  have hDm : va_D A wm := ⟨fun i j p q h1 h2 h3 => by have := hD.1 _ _ p q (gm i p h1) (gm j q h2) h3; omega, fun k q h => hD.2 _ _ (gm k q h)⟩
  have hFc : ∀ q, va_A wm H.size q → A q := by
    rintro q (⟨k, e, hk⟩ | hq)
    · exact hDm.2 k _ hk
    · exact hA q (Nat.le_trans hS.1 hq)
  obtain ⟨q0, ci, q, fs, g1, g2, g3⟩ := hrv
  have hv := va_recv hKm hPm g1 g2
  rw [g3] at hv
  exact va_runV (Ts := tt) (own := own) (C := y.cls) (As := As) (rest := rest) ⟨hx, hb, hml, hown, hts⟩ hM ⟨callB_of As.length hts (tw_goodL m5) rfl rfl rfl (hts _ m4) (hts _ m1) hdd hR, hts _ m2, hts _ m3⟩ ⟨xp_blind, hv, xp_call hPm hKm hDm hE.1 hS hFc⟩ rfl rfl hl hstack (lv_room hW) d ⟨by omega, by omega⟩
theorem hl_mback {p : Program} {e : Env} {s : State} {m : MethodId} {args : Array Value} {below : List Frame} {meth : Method} {c : Code} {Q : State → Prop} {A : Nat → Prop} {wl wm wr w1 : va_W} {S2 : Nat × Nat × Nat} {H H1 : Heap} {locs locs1 : List Loc} {g : JFrame} (hA : ∀ q, s.heap.size ≤ q → A q) (hh : hg_H (p, e, s, m, args, below, meth, c, Q, A) R D (wl ++ (wm ++ wr), S2) H locs) (hP1 : va_P D cl w1 H1) (hD1 : va_D (va_A wm H.size) w1) (hz1 : H.size ≤ H1.size) (hk : ∀ q : Nat, q < H.size → ¬ va_A wm H.size q → H1[q]? = H[q]?) (hS1 : va_S A s.heap H1 locs1)
    (kk : hg_H (p, e, s, m, args, below, meth, c, Q, A) R D (wl ++ (w1 ++ wr), S2) H1 locs1 → W p l e R s m args below meth c H1 locs1 (R.cells - S2.2.1 + 0) (R.slots - S2.2.2 + 0) Q g) : W p l e R s m args below meth c H1 locs1 (R.cells - S2.2.1 + 0) (R.slots - S2.2.2 + 0) Q g := by
  obtain ⟨hP, hD, hS, hz, hc, h1, h2⟩ := hh
  have hz : H.size = S2.1 := hz
  have hc : S2.1 + S2.2.1 = s.heap.size + R.cells := hc
  have h1 : S2.2.1 ≤ R.cells := h1
  obtain ⟨hP2, hD2⟩ := hl_frame hP hD rfl (fun q h => hA q (Nat.le_trans hS.1 h)) hk hP1 hD1
  refine hg_know fun hk1 _ => kk ⟨hP2, hD2, hS1, ?_, hc, h1, h2⟩
  show H1.size = S2.1
  omega
theorem hl_in {p : Program} {e : Env} {s : State} {m : MethodId} {args : Array Value} {below : List Frame} {meth : Method} {c : Code} {Q : State → Prop} {A : Nat → Prop} {wl wm wr : va_W} {S2 : Nat × Nat × Nat} {H : Heap} {locs : List Loc} (hA : ∀ q, s.heap.size ≤ q → A q) (hh : hg_H (p, e, s, m, args, below, meth, c, Q, A) R D (wl ++ (wm ++ wr), S2) H locs) : ∀ q, va_A wm H.size q → A q := by
  have gm : ∀ (k : Nat) (q : Nat × va_E), wm[k]? = some q → (wl ++ (wm ++ wr))[wl.length + k]? = some q := fun k q h => by
    rw [List.getElem?_append_right (by omega), show wl.length + k - wl.length = k by omega, List.getElem?_append_left (List.getElem?_eq_some_iff.mp h).1]; exact h
  rintro q (⟨k, e, hk⟩ | hq)
  · exact hh.2.1.2 _ _ (gm k _ hk)
  · exact hA q (Nat.le_trans hh.2.2.1.1 hq)
end HLC
section HLM
variable {X : dc_X} {l : Launch} {R : Room} {D : va_G} {G : hg_E} {cc bytes : ByteArray} {nL pc index maxL fr lo : Nat} {own : String} {S2 : Nat × Nat × Nat} {wl wm wr : va_W} {tys : List (ClassId × FieldType)} {lv : List (Nat × Value)} {rest st0 As : List Value} {y : MethodName} {ret : Option FieldType}
theorem hl_mVi (hC : hg_K X D G cc nL own) (hKm : hl_KM X D tys) (hw : dc_VW own index y bytes maxL ret As.length) {b : Nat} {Kp : Int32 → va_W → Prop} (hM : dc_Ci l y bytes maxL ret fr lo D tys G.2.1 G.2.2.1 (.ref b :: As) wm Kp 0 0) (hR : fr + 1 ≤ R.frames ∧ 8 + (maxL + 11) + lo ≤ R.locals) (hrv : ∃ (q0 ci : Nat) (q : vw_C) (fs : List Value), cl[ci]? = some q ∧ wm[q0]? = some (b, .inr (ci, fs)) ∧ q.1 = y.cls) (hstack : st0 = As.reverse ++ .ref b :: rest) (hW : (rest.map fun v => v.category).sum ≤ 8) (d : decode cc pc = .ok (.invokevirtual index, 3))
    (kk : ∀ (r : Int32) (w1 : va_W), Kp r w1 → hg_G X l R D nL (wl ++ (w1 ++ wr), S2) (pc + 3) lv (.int r :: rest)) : hg_G X l R D nL (wl ++ (wm ++ wr), S2) pc lv st0 := by
  obtain ⟨p, e, s, m, args, below, meth, c, Q, A⟩ := X
  obtain ⟨hx, hb, hml, hown, hts, hK, hE, hA⟩ := hC
  intro H locs ls hh hl
  refine va_calli (hl_mrun (G := G) (locs := locs) hx hb hml hown hts hKm hE hA hw (hM H.size) hR hrv hstack hW d hh hl.1) hh.2.2.1 (fun q _ h => hl_in hA hh q h) (hl_in hA hh) (fun r u t H1 locs1 ht hvm hw1 hB hz1 hk1 hS1 => ?_)
  obtain ⟨hP1, hK1, hD1⟩ := hB
  rw [ht] at hP1
  exact hl_mback hA hh hP1 hD1 hz1 hk1 hS1 (fun h3 => kk r u hw1 H1 locs1 ls h3 hl)
theorem hl_mVl (hC : hg_K X D G cc nL own) (hKm : hl_KM X D tys) (hw : dc_VW own index y bytes maxL ret As.length) {b : Nat} {Kp : Int64 → va_W → Prop} (hM : dc_Cl l y bytes maxL ret fr lo D tys G.2.1 G.2.2.1 (.ref b :: As) wm Kp 0 0) (hR : fr + 1 ≤ R.frames ∧ 8 + (maxL + 11) + lo ≤ R.locals) (hrv : ∃ (q0 ci : Nat) (q : vw_C) (fs : List Value), cl[ci]? = some q ∧ wm[q0]? = some (b, .inr (ci, fs)) ∧ q.1 = y.cls) (hstack : st0 = As.reverse ++ .ref b :: rest) (hW : (rest.map fun v => v.category).sum ≤ 8) (d : decode cc pc = .ok (.invokevirtual index, 3))
    (kk : ∀ (r : Int64) (w1 : va_W), Kp r w1 → hg_G X l R D nL (wl ++ (w1 ++ wr), S2) (pc + 3) lv (.long r :: rest)) : hg_G X l R D nL (wl ++ (wm ++ wr), S2) pc lv st0 := by
  obtain ⟨p, e, s, m, args, below, meth, c, Q, A⟩ := X
  obtain ⟨hx, hb, hml, hown, hts, hK, hE, hA⟩ := hC
  intro H locs ls hh hl
  refine va_calll (hl_mrun (G := G) (locs := locs) hx hb hml hown hts hKm hE hA hw (hM H.size) hR hrv hstack hW d hh hl.1) hh.2.2.1 (fun q _ h => hl_in hA hh q h) (hl_in hA hh) (fun r u t H1 locs1 ht hvm hw1 hB hz1 hk1 hS1 => ?_)
  obtain ⟨hP1, hK1, hD1⟩ := hB
  rw [ht] at hP1
  exact hl_mback hA hh hP1 hD1 hz1 hk1 hS1 (fun h3 => kk r u hw1 H1 locs1 ls h3 hl)
theorem hl_mVv (hC : hg_K X D G cc nL own) (hKm : hl_KM X D tys) (hw : dc_VW own index y bytes maxL ret As.length) {b : Nat} {Kp : va_W → Prop} (hM : dc_Cv l y bytes maxL ret fr lo D tys G.2.1 G.2.2.1 (.ref b :: As) wm Kp 0 0) (hR : fr + 1 ≤ R.frames ∧ 8 + (maxL + 11) + lo ≤ R.locals) (hrv : ∃ (q0 ci : Nat) (q : vw_C) (fs : List Value), cl[ci]? = some q ∧ wm[q0]? = some (b, .inr (ci, fs)) ∧ q.1 = y.cls) (hstack : st0 = As.reverse ++ .ref b :: rest) (hW : (rest.map fun v => v.category).sum ≤ 8) (d : decode cc pc = .ok (.invokevirtual index, 3))
    (kk : ∀ (w1 : va_W), Kp w1 → hg_G X l R D nL (wl ++ (w1 ++ wr), S2) (pc + 3) lv rest) : hg_G X l R D nL (wl ++ (wm ++ wr), S2) pc lv st0 := by
  obtain ⟨p, e, s, m, args, below, meth, c, Q, A⟩ := X
  obtain ⟨hx, hb, hml, hown, hts, hK, hE, hA⟩ := hC
  intro H locs ls hh hl
  refine va_callv (hl_mrun (G := G) (locs := locs) hx hb hml hown hts hKm hE hA hw (hM H.size) hR hrv hstack hW d hh hl.1) hh.2.2.1 (fun q _ h => hl_in hA hh q h) (hl_in hA hh) (fun u t H1 locs1 ht hvm hw1 hB hz1 hk1 hS1 => ?_)
  obtain ⟨hP1, hK1, hD1⟩ := hB
  rw [ht] at hP1
  exact hl_mback hA hh hP1 hD1 hz1 hk1 hS1 (fun h3 => kk u hw1 H1 locs1 ls h3 hl)
theorem hl_w {X : dc_X} {S S3 : hg_S} {st : List Value} (e : S = S3) (kk : hg_G X l R D nL S3 pc lv st) : hg_G X l R D nL S pc lv st := by
  subst e; exact kk
end HLM
/-- the law's world: the class's cells, the array for answers, the reference's cells -/
def lw_o (G : hg_E) (w : Nat) (v : Int64) : Nat × va_E := (w, .inl (G.1 4, 1, .inr (.inl (fun _ => v))))
def lw_W (G : hg_E) (w o : Nat) (a : Nat → Nat) (ca : Nat → ClassId) (S : hg_S) (v : Int64) (M : md_S) : hg_S := (S.1 ++ (lw_o G w v :: md_W o a ca M), S.2)
theorem lw_W1 {G : hg_E} {w o : Nat} {a : Nat → Nat} {ca : Nat → ClassId} {S : hg_S} {v : Int64} {M : md_S} : lw_W G w o a ca S v M = (([] : va_W) ++ ((S.1 ++ [lw_o G w v]) ++ md_W o a ca M), S.2) := by
  simp [lw_W]
theorem lw_W2 {G : hg_E} {w o : Nat} {a : Nat → Nat} {ca : Nat → ClassId} {S : hg_S} {v : Int64} {M : md_S} : lw_W G w o a ca S v M = ((S.1 ++ [lw_o G w v]) ++ (md_W o a ca M ++ []), S.2) := by
  simp [lw_W]
theorem lw_W3 {G : hg_E} {w o : Nat} {a : Nat → Nat} {ca : Nat → ClassId} {S : hg_S} {v : Int64} {M : md_S} : lw_W G w o a ca S v M = (((S.1 ++ [lw_o G w v], S.2) : hg_S).1 ++ md_W o a ca M, ((S.1 ++ [lw_o G w v], S.2) : hg_S).2) := by
  simp [lw_W]
section LWR
variable {X : dc_X} {l : Launch} {R : Room} {D : va_G} {G : hg_E} {cc bytes : ByteArray} {nL pc index maxL fr lo w o : Nat} {a : Nat → Nat} {ca : Nat → ClassId} {own : String} {S : hg_S} {v : Int64} {M : md_S} {lv : List (Nat × Value)} {rest st0 As : List Value} {y : MethodName} {ret : Option FieldType}
/-- the class's method, by what is told -/
theorem lw_ci (hC : hg_K X D G cc nL own) (hw : dc_VW own index y bytes maxL ret As.length) {b : Nat} {ρ : Type} {Ec : Option ρ} {vo : ρ → Int32} {so : ρ → hg_S} (hM : ∀ q, Ec = some q → hg_C l y bytes maxL ret fr lo D G (.ref b :: As) S (.inl (some (.int (vo q)), so q))) (hfr : fr + 1 ≤ R.frames) (hlo : 8 + (maxL + 11) + lo ≤ R.locals) (hrv : hg_is S b y.cls) (hstack : st0 = As.reverse ++ va_rf (some b) :: rest) (hW : (rest.map fun v => v.category).sum ≤ 8) (d : decode cc pc = .ok (.invokevirtual index, 3)) {τ : Type} {E : ρ → Option τ} {F : τ → Prop} (h : dc_wp (Ec.bind E) F) (kk : ∀ q, dc_wp (E q) F → hg_G X l R D nL (lw_W G w o a ca (so q) v M) (pc + 3) lv (.int (vo q) :: rest)) : hg_G X l R D nL (lw_W G w o a ca S v M) pc lv st0 := by
  obtain ⟨q, h1, h2⟩ := dc_bind h
  exact hl_cV hC hw (hM q h1) ⟨hfr, hlo⟩ hrv hstack hW d (kk q h2)
/-- the reference's method -/
theorem lw_mi (hC : hg_K X D G cc nL own) (hKm : hl_KM X D (md_T ca)) (hw : dc_VW own index y bytes maxL ret As.length) {ρ : Type} {Em : Option ρ} {rv : ρ → Int32} {sv : ρ → md_S} (hM : ∀ F' : ρ → Prop, dc_wp Em F' → dc_Ci l y bytes maxL ret fr lo D (md_T ca) G.2.1 G.2.2.1 (.ref o :: As) (md_W o a ca M) (fun r w => ∃ q, F' q ∧ r = rv q ∧ w = md_W o a ca (sv q)) 0 0) (hfr : fr + 1 ≤ R.frames) (hlo : 8 + (maxL + 11) + lo ≤ R.locals) (hy : y.cls = "SignalEngineModel") (hstack : st0 = As.reverse ++ va_rf (some o) :: rest) (hW : (rest.map fun v => v.category).sum ≤ 8) (d : decode cc pc = .ok (.invokevirtual index, 3)) {τ : Type} {E : ρ → Option τ} {F : τ → Prop} (h : dc_wp (Em.bind E) F) (kk : ∀ q, dc_wp (E q) F → hg_G X l R D nL (lw_W G w o a ca S v (sv q)) (pc + 3) lv (.int (rv q) :: rest)) : hg_G X l R D nL (lw_W G w o a ca S v M) pc lv st0 := by
  refine hl_w lw_W2 (hl_mVi hC hKm hw (hM _ (dc_bind h)) ⟨hfr, hlo⟩ ⟨0, 1, _, _, rfl, rfl, hy.symm⟩ hstack hW d ?_)
  rintro r w1 ⟨q, h2, rfl, rfl⟩
  exact hl_w lw_W2.symm (kk q h2)
theorem lw_ml (hC : hg_K X D G cc nL own) (hKm : hl_KM X D (md_T ca)) (hw : dc_VW own index y bytes maxL ret As.length) {ρ : Type} {Em : Option ρ} {rv : ρ → Int64} {sv : ρ → md_S} (hM : ∀ F' : ρ → Prop, dc_wp Em F' → dc_Cl l y bytes maxL ret fr lo D (md_T ca) G.2.1 G.2.2.1 (.ref o :: As) (md_W o a ca M) (fun r w => ∃ q, F' q ∧ r = rv q ∧ w = md_W o a ca (sv q)) 0 0) (hfr : fr + 1 ≤ R.frames) (hlo : 8 + (maxL + 11) + lo ≤ R.locals) (hy : y.cls = "SignalEngineModel") (hstack : st0 = As.reverse ++ va_rf (some o) :: rest) (hW : (rest.map fun v => v.category).sum ≤ 8) (d : decode cc pc = .ok (.invokevirtual index, 3)) {τ : Type} {E : ρ → Option τ} {F : τ → Prop} (h : dc_wp (Em.bind E) F) (kk : ∀ q, dc_wp (E q) F → hg_G X l R D nL (lw_W G w o a ca S v (sv q)) (pc + 3) lv (.long (rv q) :: rest)) : hg_G X l R D nL (lw_W G w o a ca S v M) pc lv st0 := by
  refine hl_w lw_W2 (hl_mVl hC hKm hw (hM _ (dc_bind h)) ⟨hfr, hlo⟩ ⟨0, 1, _, _, rfl, rfl, hy.symm⟩ hstack hW d ?_)
  rintro r w1 ⟨q, h2, rfl, rfl⟩
  exact hl_w lw_W2.symm (kk q h2)
theorem lw_mv (hC : hg_K X D G cc nL own) (hKm : hl_KM X D (md_T ca)) (hw : dc_VW own index y bytes maxL ret As.length) {ρ : Type} {Em : Option ρ} {sv : ρ → md_S} (hM : ∀ F' : ρ → Prop, dc_wp Em F' → dc_Cv l y bytes maxL ret fr lo D (md_T ca) G.2.1 G.2.2.1 (.ref o :: As) (md_W o a ca M) (fun w => ∃ q, F' q ∧ w = md_W o a ca (sv q)) 0 0) (hfr : fr + 1 ≤ R.frames) (hlo : 8 + (maxL + 11) + lo ≤ R.locals) (hy : y.cls = "SignalEngineModel") (hstack : st0 = As.reverse ++ va_rf (some o) :: rest) (hW : (rest.map fun v => v.category).sum ≤ 8) (d : decode cc pc = .ok (.invokevirtual index, 3)) {τ : Type} {E : ρ → Option τ} {F : τ → Prop} (h : dc_wp (Em.bind E) F) (kk : ∀ q, dc_wp (E q) F → hg_G X l R D nL (lw_W G w o a ca S v (sv q)) (pc + 3) lv rest) : hg_G X l R D nL (lw_W G w o a ca S v M) pc lv st0 := by
  refine hl_w lw_W2 (hl_mVv hC hKm hw (hM _ (dc_bind h)) ⟨hfr, hlo⟩ ⟨0, 1, _, _, rfl, rfl, hy.symm⟩ hstack hW d ?_)
  rintro w1 ⟨q, h2, rfl⟩
  exact hl_w lw_W2.symm (kk q h2)
/-- the script -/
def lw_X (X : dc_X) (b L : Nat) (xs : Nat → Int32) : Prop :=
  match X with
  | (_, _, s, _, _, _, _, _, _, A) => va_X b L xs s s.heap ∧ b < s.heap.size ∧ ¬ A b
theorem lw_sld (hC : hg_K X D G cc nL own) {b L : Nat} {xs : Nat → Int32} (hX : lw_X X b L xs) {S : hg_S} {i : Int32} (d : decode cc pc = .ok (.iaload, 1)) {τ : Type} {E : Nat → Option τ} {F : τ → Prop} (h : dc_wp ((dc_ix i L).bind E) F) (kk : ∀ j, dc_wp (E j) F → hg_G X l R D nL S (pc + 1) lv (.int (xs j) :: rest)) : hg_G X l R D nL S pc lv (.int i :: va_rf (some b) :: rest) := by
  obtain ⟨hin, h2⟩ := dc_ix_wp (dc_bind h)
  have kk2 := kk _ h2
  obtain ⟨p, e, s, m, args, below, meth, c, Q, A⟩ := X
  obtain ⟨hx, hb, hml, hown, hts, hK, hE, hA⟩ := hC
  obtain ⟨h3, h4, h5⟩ := hX
  exact fun H locs ls hh hl => va_sld hx hb h3 h4 h5 hh.2.2.1 hin d (kk2 H locs ls hh hl)
theorem lw_sln (hC : hg_K X D G cc nL own) {b L : Nat} {xs : Nat → Int32} (hX : lw_X X b L xs) {S : hg_S} (d : decode cc pc = .ok (.arraylength, 1)) (kk : hg_G X l R D nL S (pc + 1) lv (.int (Int32.ofNat L) :: rest)) : hg_G X l R D nL S pc lv (va_rf (some b) :: rest) := by
  obtain ⟨p, e, s, m, args, below, meth, c, Q, A⟩ := X
  obtain ⟨hx, hb, hml, hown, hts, hK, hE, hA⟩ := hC
  obtain ⟨h3, h4, h5⟩ := hX
  exact fun H locs ls hh hl => va_slen hx hb h3 h4 h5 hh.2.2.1 d (kk H locs ls hh hl)
/-- the array for answers -/
theorem lw_lald (hC : hg_K X D G cc nL own) (d : decode cc pc = .ok (.laload, 1)) (kk : hg_G X l R D nL (lw_W G w o a ca S v M) (pc + 1) lv (.long v :: rest)) : hg_G X l R D nL (lw_W G w o a ca S v M) pc lv (.int 0 :: va_rf (some w) :: rest) := by
  obtain ⟨p, e, s, m, args, below, meth, c, Q, A⟩ := X
  obtain ⟨hx, hb, hml, hown, hts, hK, hE, hA⟩ := hC
  intro H locs ls hh hl
  have he : (lw_W G w o a ca S v M).1[S.1.length]? = some (w, .inl (G.1 4, 1, .inr (.inl (fun _ => v)))) := by
    show (S.1 ++ (lw_o G w v :: md_W o a ca M))[S.1.length]? = _
    rw [List.getElem?_append_right (Nat.le_refl _), Nat.sub_self]; rfl
  exact va_lald (D := D) hx hb hK hh.1 S.1.length 4 he rfl (i := 0) (by unfold vp_in; decide) d (kk H locs ls hh hl)
theorem lw_last (hC : hg_K X D G cc nL own) {ws F : va_W} {S2 : Nat × Nat × Nat} {x : Int64} (d : decode cc pc = .ok (.lastore, 1)) (kk : hg_G X l R D nL (ws ++ (lw_o G w x :: F), S2) (pc + 1) lv rest) : hg_G X l R D nL (ws ++ (lw_o G w v :: F), S2) pc lv (.long x :: .int 0 :: va_rf (some w) :: rest) := by
  obtain ⟨p, e, s, m, args, below, meth, c, Q, A⟩ := X
  obtain ⟨hx, hb, hml, hown, hts, hK, hE, hA⟩ := hC
  intro H locs ls hh hl
  have he : (ws ++ (lw_o G w v :: F))[ws.length]? = some (w, .inl (G.1 4, 1, .inr (.inl (fun _ => v)))) := by
    rw [List.getElem?_append_right (Nat.le_refl _), Nat.sub_self]; rfl
  refine va_last (D := D) hx hb hK hh.1 hh.2.1 (hg_same hh) ws.length 4 he rfl (i := 0) (by unfold vp_in; decide) d (fun H1 locs1 hP1 hD1 hS1 => ?_)
  have ef : vp_updL (fun _ => v) (Int32.toNatClampNeg 0) x = va_up (fun _ => v) 0 x := by
    funext j; unfold vp_updL va_up; rfl
  have eo : (ws ++ (lw_o G w v :: F)).set ws.length (w, .inl (G.1 4, 1, .inr (.inl (vp_updL (fun _ => v) (Int32.toNatClampNeg 0) x)))) = ws ++ ((w, .inl (G.1 4, 1, .inr (.inl (vp_updL (fun _ => v) (Int32.toNatClampNeg 0) x)))) :: F) := by
    rw [List.set_append_right _ _ (Nat.le_refl _), Nat.sub_self]; rfl
  rw [eo] at hP1 hD1
  refine hg_back hh hP1 hD1 hS1 (fun h3 => ?_)
  obtain ⟨g1, g2, g3⟩ := h3
  have hkeep : ∀ (k : Nat) (q : Nat × va_E), (ws ++ (lw_o G w x :: F))[k]? = some q → ∃ q2 : Nat × va_E, (ws ++ ((w, .inl (G.1 4, 1, .inr (.inl (vp_updL (fun _ => v) (Int32.toNatClampNeg 0) x)))) :: F))[k]? = some q2 ∧ q2.1 = q.1 ∧ (q2 = q ∨ (k = ws.length ∧ q = lw_o G w x ∧ q2 = (w, .inl (G.1 4, 1, .inr (.inl (vp_updL (fun _ => v) (Int32.toNatClampNeg 0) x)))))) := by
    intro k q hq
    by_cases hk : k < ws.length
    · rw [List.getElem?_append_left hk] at hq
      exact ⟨q, by rw [List.getElem?_append_left hk]; exact hq, rfl, Or.inl rfl⟩
    · rw [List.getElem?_append_right (by omega)] at hq
      by_cases hk2 : k - ws.length = 0
      · rw [hk2] at hq
        cases hq
        exact ⟨(w, .inl (G.1 4, 1, .inr (.inl (vp_updL (fun _ => v) (Int32.toNatClampNeg 0) x)))), by rw [List.getElem?_append_right (by omega), hk2]; rfl, rfl, Or.inr ⟨by omega, rfl, rfl⟩⟩
      · obtain ⟨k2, hk3⟩ : ∃ k2, k - ws.length = k2 + 1 := ⟨k - ws.length - 1, by omega⟩
        rw [hk3] at hq
        exact ⟨q, by rw [List.getElem?_append_right (by omega), hk3]; exact hq, rfl, Or.inl rfl⟩
  refine kk H1 locs1 ls ⟨?_, ?_, g3⟩ hl
  · intro k q hq
    obtain ⟨q2, h1, h2, h3 | ⟨h3, h4, h5⟩⟩ := hkeep k q hq
    · rw [← h3]; exact g1 k q2 h1
    · subst h4
      have h6 := g1 k q2 h1
      rw [h5] at h6
      have h7 : H1[w]? = some (vp_cell (G.1 4) (1, .inr (.inl (vp_updL (fun _ => v) (Int32.toNatClampNeg 0) x)))) := h6
      show H1[w]? = some (vp_cell (G.1 4) (1, .inr (.inl (fun _ => x))))
      rw [h7]
      congr 1
  · refine ⟨fun i j p q h1 h2 h3 => ?_, fun k q hq => ?_⟩
    · obtain ⟨p2, e1, e2, -⟩ := hkeep i p h1
      obtain ⟨q2, e3, e4, -⟩ := hkeep j q h2
      exact g2.1 i j p2 q2 e1 e3 (by rw [e2, e4]; exact h3)
    · obtain ⟨q2, e1, e2, -⟩ := hkeep k q hq
      rw [← e2]; exact g2.2 k q2 e1
end LWR
