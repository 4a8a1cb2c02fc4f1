/-! a node made; the list of nodes grows -/
theorem vq_oa {S : hg_S} {a n : Nat} {c : ClassId} {g : Nat → Option Nat} (h : hg_at S.1 a = some (.inl (c, n, .inr (.inr (.inr (.inr g)))))) : hg_oa S (some a) c = some (a, n, g) := by
  unfold hg_oa
  dsimp only
  rw [h]
  dsimp only
  rw [if_pos rfl]
theorem vq_chk {S : hg_S} {a ci : Nat} {fs : List Value} (h : hg_at S.1 a = some (.inr (ci, fs))) : hg_chk S (some a) ci = some a := by
  unfold hg_chk
  dsimp only
  rw [h]
  dsimp only
  rw [if_pos rfl]
theorem va_rf_s {a : Nat} : va_rf (some a) = .ref a := rfl
section NDI
variable {G : hg_E} {S : hg_S} {o : Nat}
theorem ndi_w {x0 x1 x2 x3 x4 x5 x6 x9 x11 : Value} (h : hg_at S.1 o = some (.inr (8, [x0, x1, x2, x3, x4, x5, x6, .int 0, .int 0, x9, .int 0, x11, .int 0]))) {k l : Int32} {c1 c2 : Option Nat} : dc_wp (hm_ND_init G S o k l c1 c2) (fun S' => hg_at S'.1 o = some (.inr (8, [.int k, .int l, va_rf c1, va_rf c2, .int (-1), .int (-1), .int (-1), .int 0, .int 0, .int (-1), .int 0, .int 1, .int 0])) ∧ of1 S S' o) := by
  have st : ∀ (T : hg_S) (fs fs' : List Value) (kk : Nat) (v : Value) (E : hg_S → Option hg_S) (F : hg_S → Prop), hg_at T.1 o = some (.inr (8, fs)) → kk < fs.length → fs.set kk v = fs' → of1 S T o → (∀ T', hg_at T'.1 o = some (.inr (8, fs')) → of1 S T' o → dc_wp (E T') F) → dc_wp ((hg_pf T (some o) 8 kk v).bind E) F := by
    intro T fs fs' kk v E F hT hk hfs ho kk2
    refine wq_pfT (fs' := fs') hT hk hfs ?_
    intro T' eT
    refine kk2 T' (by rw [← eT]; exact hu_self hT) ⟨by rw [← eT]; exact ho.1, fun b hb => ?_⟩
    rw [← eT, hu_ne hb]
    exact ho.2 b hb
  delta hm_ND_init
  refine st S _ _ _ _ _ _ h (Nat.le_of_ble_eq_true rfl) rfl ⟨rfl, fun _ _ => rfl⟩ (fun S1 h o1 => ?_)
  refine st S1 _ _ _ _ _ _ h (Nat.le_of_ble_eq_true rfl) rfl o1 (fun S1 h o1 => ?_)
  refine st S1 _ _ _ _ _ _ h (Nat.le_of_ble_eq_true rfl) rfl o1 (fun S1 h o1 => ?_)
  refine st S1 _ _ _ _ _ _ h (Nat.le_of_ble_eq_true rfl) rfl o1 (fun S1 h o1 => ?_)
  refine st S1 _ _ _ _ _ _ h (Nat.le_of_ble_eq_true rfl) rfl o1 (fun S1 h o1 => ?_)
  refine st S1 _ _ _ _ _ _ h (Nat.le_of_ble_eq_true rfl) rfl o1 (fun S1 h o1 => ?_)
  refine st S1 _ _ _ _ _ _ h (Nat.le_of_ble_eq_true rfl) rfl o1 (fun S1 h o1 => ?_)
  refine st S1 _ _ _ _ _ _ h (Nat.le_of_ble_eq_true rfl) rfl o1 (fun S1 h o1 => ?_)
  refine st S1 _ _ _ _ _ _ h (Nat.le_of_ble_eq_true rfl) rfl o1 (fun S1 h o1 => ?_)
  exact ⟨S1, rfl, h, o1⟩
end NDI
theorem shr1 {x : Int32} (h0 : 0 ≤ x.toInt) : (x >>> (1 &&& (31 : Int32))).toInt = x.toInt / 2 := by
  have e : (1 &&& (31 : Int32)) = 1 := by decide
  rw [e]
  show (BitVec.sshiftRight' x.toBitVec ((1 : Int32).toBitVec.smod 32)).toInt = x.toInt / 2
  rw [BitVec.toInt_sshiftRight', show ((1 : Int32).toBitVec.smod 32).toNat = 1 by decide, Int.shiftRight_eq_div_pow]
  rfl
section ALW
variable {G : hg_E} {S : hg_S} {a e cap : Nat} {el : Nat → Option Nat} {size mod : Int32}
/-- a new array of places, with what the old one holds -/
theorem cpO_w (h : hg_at S.1 e = some (.inl (G.1 3, cap, .inr (.inr (.inr (.inr el)))))) (he : ¬ e = G.2.2.1) (hw0 : hw S) {x : Int32} {N : Nat} (hx : x.toInt = (N : Int)) (hN : cap < N) (hN2 : N ≤ 1000000) (hc : 1 ≤ S.2.2.1) (hs : N ≤ S.2.2.2) (hel : ∀ i, i < cap → ∃ p fs, el i = some p ∧ hg_at S.1 p = some (.inr (8, fs))) : dc_wp (hm_JA_copyO G S (some e) x) (fun q => q.2 = some S.2.1 ∧ ∃ g', hg_at q.1.1 S.2.1 = some (.inl (G.1 3, N, .inr (.inr (.inr (.inr g'))))) ∧ (∀ i, i < cap → g' i = el i) ∧ (∀ b, b ≠ S.2.1 → hg_at q.1.1 b = hg_at S.1 b) ∧ q.1.2 = (S.2.1 + 1, S.2.2.1 - 1, S.2.2.2 - N) ∧ hw q.1) := by
  have aN : (Int32.ofNat cap).toInt = (cap : Int) := Int32.toInt_ofNat_of_lt (by omega)
  have hr := hw0.lt h
  have xc : x.toNatClampNeg = N := by
    show x.toInt.toNat = N
    omega
  have x0 : ¬ x < 0 := fun z => by have := i_lt.mp z; rw [il_0] at this; omega
  delta hm_JA_copyO hm_JA_copyP
  rw [vq_oa h, Option.bind_some, if_pos rfl]
  have n1 : hg_newo G S x = some (hp S (.inl (G.1 3, N, .inr (.inr (.inr (.inr (fun _ => none)))))) N) := by
    unfold hg_newo
    rw [if_pos ⟨x0, hc, by rw [xc]; exact hs, by rw [xc]; omega⟩, xc]
    rfl
  rw [n1]
  generalize eT : hp S (.inl (G.1 3, N, .inr (.inr (.inr (.inr (fun _ => none)))))) N = T
  have b1 : hg_at T.1 e = some (.inl (G.1 3, cap, .inr (.inr (.inr (.inr el))))) := by
    rw [← eT, hp_ne (by omega)]; exact h
  have b2 : hg_at T.1 S.2.1 = some (.inl (G.1 3, N, .inr (.inr (.inr (.inr (fun _ => none)))))) := by
    rw [← eT]; exact hp_self hw0
  have l1 : hg_oln G T (some e) = some (Int32.ofNat cap) := by
    unfold hg_oln
    rw [if_neg (fun z => he (Option.some.inj z)), vq_oa b1]
    rfl
  have m1 : hg_min (Int32.ofNat cap) x = Int32.ofNat cap := by
    unfold hg_min
    rw [if_neg (fun z => by have z2 := i_lt.mp z; rw [hx, aN] at z2; omega)]
  have ac : (Int32.ofNat cap).toNatClampNeg = cap := by
    show (Int32.ofNat cap).toInt.toNat = cap
    omega
  have a0 : ¬ Int32.ofNat cap < 0 := fun z => by have := i_lt.mp z; rw [il_0] at this; omega
  have z0 : (0 : Int32).toNatClampNeg = 0 := rfl
  have c1 : hg_ocpy G T 8 (some e) 0 (some S.2.1) 0 (Int32.ofNat cap) = some (hu T S.2.1 (.inl (G.1 3, N, .inr (.inr (.inr (.inr (va_cpy el (fun _ => none) 0 0 cap))))))) := by
    unfold hg_ocpy
    rw [vq_oa b1, vq_oa b2]
    show (if _ then _ else _) = _
    rw [if_pos]
    · rw [ac, z0]; rfl
    · refine ⟨by decide, by decide, a0, ?_, ?_, ?_⟩
      · show (0 : Int32).toNatClampNeg + (Int32.ofNat cap).toNatClampNeg ≤ cap
        rw [ac, z0]; omega
      · show (0 : Int32).toNatClampNeg + (Int32.ofNat cap).toNatClampNeg ≤ N
        rw [ac, z0]; omega
      · intro i hi
        rw [ac] at hi
        obtain ⟨p, fs, p1, p2⟩ := hel i hi
        show (hg_chk T (el ((0 : Int32).toNatClampNeg + i)) 8).isSome = true
        rw [z0, Nat.zero_add, p1]
        have p3 : hg_at T.1 p = some (.inr (8, fs)) := by
          rw [← eT, hp_ne (by have := hw0.lt p2; omega)]; exact p2
        rw [vq_chk p3]
        rfl
  show dc_wp (((hg_oln G T (some e)).bind _).bind _) _
  rw [l1]
  show dc_wp (((hg_ocpy G T 8 (some e) 0 (some S.2.1) 0 (hg_min (Int32.ofNat cap) x)).bind _).bind _) _
  rw [m1, c1]
  refine ⟨_, rfl, rfl, _, hu_self b2, fun i hi => ?_, fun b hb => ?_, ?_, ?_⟩
  · show va_cpy el (fun _ => none) 0 0 cap i = el i
    unfold va_cpy
    rw [if_pos ⟨Nat.zero_le _, by omega⟩, show 0 + (i - 0) = i by omega]
  · rw [hu_ne hb, ← eT, hp_ne hb]
  · rw [← eT]; rfl
  · rw [← eT]; exact (hw0.hp).hu
end ALW
