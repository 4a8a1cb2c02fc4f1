/-! an array's clone -/
theorem hg_rcln {X : dc_X} {l : Launch} {R : Room} {D : va_G} {G : hg_E} {cc : ByteArray} {nL pc index : Nat} {own : String} {S : hg_S} {lv : List (Nat × Value)} {rest : List Value} (hC : hg_K X D G cc nL own) {t : Nat} {ty : FieldType} (ht : (hg_T G.1)[t]? = some (G.1 t, ty)) {nma : String} (hra : ∀ s : State, va_RA s (G.1 t) ty → s.vm.findClass nma = some (G.1 t))
    (w1 : Cond.methodLink own index ⟨nma, "clone", "()Ljava/lang/Object;"⟩ ∈ tt) (w2 : Cond.sameMethod nma "java/lang/Object" "clone" "()Ljava/lang/Object;" ∈ tt) (w3 : Cond.native ⟨"java/lang/Object", "clone", "()Ljava/lang/Object;"⟩ ∈ tt) (w4 : Cond.instanceMethod ⟨"java/lang/Object", "clone", "()Ljava/lang/Object;"⟩ ∈ tt) (w5 : Cond.selects nma ⟨nma, "clone", "()Ljava/lang/Object;"⟩ ⟨"java/lang/Object", "clone", "()Ljava/lang/Object;"⟩ ∈ tt) (w6 : Cond.castable nma "java/lang/Cloneable" ∈ nn)
    (hfr : 1 ≤ R.frames) (hlo : (rest.map fun v => v.category).sum + 14 ≤ R.locals) {r : Option Nat} (d : decode cc pc = .ok (.invokevirtual index, 3)) {τ : Type} {E : hg_S → Option τ} {F : τ → Prop} (h : dc_wp ((hg_cln G S t ty r).bind E) F) (kk : ∀ S1, dc_wp (E S1) F → hg_G X l R D nL S1 (pc + 3) lv (va_rf (some S.2.1) :: rest)) : hg_G X l R D nL S pc lv (va_rf r :: rest) := by
  obtain ⟨S1, h1, h2⟩ := dc_bind h
  obtain ⟨q, h3, h4⟩ := dc_bind (F := fun v => v = S1) ⟨S1, h1, rfl⟩
  obtain ⟨rfl, q0, he⟩ := hg_ia_of h3
  rcases dc_ite h4 with ⟨hr, h7⟩ | ⟨_, h7⟩
  · have e0 := dc_some h7
    subst e0
    have kk2 := kk _ h2
    obtain ⟨p, e, s, m, args, below, meth, c, Q, A⟩ := X
    obtain ⟨hx, hb, hml, hown, hts, hK, hE, hA⟩ := hC
    intro H locs ls hh hl
    obtain ⟨hP, hD, hS, hz, hcz, hle1, hle2⟩ := hh
    have hnm := hra s (hK.2 t _ ht).2
    obtain ⟨c0, t0', f1, f2, f3⟩ := Cond.castable_spec (va_Nw.use (A := args) rfl (hE.1.1 _ w6))
    have hc0 : G.1 t = c0 := Option.some.inj (hnm.symm.trans f1)
    subst hc0
    intro T hT Y
    have hsz : (vp_cell (G.1 t) (q.2.1, .inl q.2.2)).slots.size = q.2.1 := arrV_size _ _ _
    have hcellT : T.heap[q.1]? = some (vp_cell (G.1 t) (q.2.1, .inl q.2.2)) := by rw [hT]; exact hP q0 _ he
    obtain ⟨-, kA, hkA, comp, hkind⟩ := State.isArrayOf_alike Y.warmed.alike ((hK.2 t _ ht).1 0 (fun _ => .null))
    obtain ⟨-, kS, hkS, compS, hkindS⟩ := (hK.2 t _ ht).1 0 (fun _ => .null)
    obtain ⟨vm', Y', st⟩ := Y.cloneArray hx hown (hts _ w1) (hts _ w2) (hts _ w3) (hts _ w4) (hts _ w5) (a := q.1) (cell := vp_cell (G.1 t) (q.2.1, .inl q.2.2)) hcellT (fun k h => by cases h) (fun h => by cases h) hnm f2 f3
      (fun i v hv => by
        have hi : i < q.2.1 := by rw [← hsz]; exact (Array.getElem?_eq_some_iff.mp hv).1
        have hv2 : (vp_cell (G.1 t) (q.2.1, .inl q.2.2)).slots[i]? = some (.int (q.2.2 i)) := arrV_read _ _ hi
        have hv3 : v = .int (q.2.2 i) := Option.some.inj (hv.symm.trans hv2)
        have hk' : T.vm.classes[G.1 t]? = some kA := hkA
        have h9 := hr.2.2 i hi
        rw [hv3]
        show T.fitsSlot (G.1 t) _ i _ = true
        simpa [State.fitsSlot, State.slotType?, hk', hkind] using h9)
      (g := F0 m pc ls (.ref q.1 :: rest)) rfl (by rw [hml]; exact hl.1) rfl (by rw [hb]; exact d) hfr (by show 2 * 0 + _ + 14 ≤ _; omega) (by omega) (by rw [hsz]; omega) (hloader := Vm.clonesLoader_of_array hkS hkindS)
    rw [hsz] at Y'
    generalize hH1 : H.push (vp_cell (G.1 t) (q.2.1, .inl q.2.2)) = H1
    have z1 : H1.size = H.size + 1 := by rw [← hH1, Array.size_push]
    have e1 : H1[H.size]? = some (vp_cell (G.1 t) (q.2.1, .inl q.2.2)) := by rw [← hH1, Array.getElem?_push_size]
    have ho : ∀ q : Nat, q < H.size → H1[q]? = H[q]? := fun q hq => by rw [← hH1, Array.getElem?_push, if_neg (Nat.ne_of_lt hq)]
    have hk : ∀ (k : Nat) (x : Nat × va_E), S.1[k]? = some x → H1[x.1]? = H[x.1]? := fun k x hx => ho x.1 ((hP k x hx).lt)
    have e2 : R.cells - S.2.2.1 + 1 = R.cells - (S.2.2.1 - 1) := by omega
    have e3 : R.slots - S.2.2.2 + q.2.1 = R.slots - (S.2.2.2 - q.2.1) := by omega
    rw [e2, e3] at Y'
    obtain ⟨t2, b1, b2⟩ := kk2 H1 locs ls ⟨(hP.kept hk).app (fun k x hx => by
        have hz2 : k < 1 := (List.getElem?_eq_some_iff.mp hx).1
        rw [show k = 0 by omega] at hx
        cases hx
        show H1[S.2.1]? = some (vp_cell _ _)
        rw [← hz, e1]), hD.push hP hz.symm (hA _ (by rw [← hz]; exact hS.1)), ⟨Nat.le_trans hS.1 (by omega), fun x h1 h2 => (ho x (Nat.lt_of_lt_of_le h1 hS.1)).trans (hS.2.1 x h1 h2), hS.2.2⟩, by rw [z1, hz], by show S.2.1 + 1 + (S.2.2.1 - 1) = _; omega, by show S.2.2.1 - 1 ≤ _; omega, by show S.2.2.2 - q.2.1 ≤ _; omega⟩ hl ((T.setVm vm').pushCell (vp_cell (G.1 t) (q.2.1, .inl q.2.2))) (by rw [← hH1, ← hT]; rfl) Y'
    refine ⟨t2, st t2 ?_, b2⟩
    rw [hT, hz]
    exact b1
  · exact (dc_not h7).elim
