/-! names: one more -/
theorem cpI_w {G : hg_E} {S : hg_S} {r n N : Nat} {g : Nat → Int32} (h : hg_at S.1 r = some (.inl (G.1 0, n, .inl g))) (hw0 : hw S) {x : Int32} (hx : x.toInt = (N : Int)) (hN : n < N) (hN2 : N ≤ 1000000) (hc : 1 ≤ S.2.2.1) (hs : N ≤ S.2.2.2) : dc_wp (hm_JA_copyOf G S (some r) x) (fun q => q.2 = some S.2.1 ∧ ∃ g', hg_at q.1.1 S.2.1 = some (.inl (G.1 0, N, .inl g')) ∧ (∀ i, i < n → g' i = g i) ∧ (∀ b, b ≠ S.2.1 → hg_at q.1.1 b = hg_at S.1 b) ∧ q.1.2 = (S.2.1 + 1, S.2.2.1 - 1, S.2.2.2 - N) ∧ hw q.1) := by
  have aN : (Int32.ofNat n).toInt = (n : Int) := Int32.toInt_ofNat_of_lt (by omega)
  have hr := hw0.lt h
  delta hm_JA_copyOf
  refine wq_ln h ?_
  refine wq_if (fun z => ?_) (fun _ => ?_)
  · exfalso
    have z2 := i_eq.mp z
    rw [hx, aN] at z2
    omega
  · refine wq_newa (N := N) hx hc hs (by omega) ?_
    refine wq_let (fun v hv => ?_)
    subst hv
    have b1 : hg_at (hp S (.inl (G.1 0, N, .inl (fun _ => 0))) N).1 r = some (.inl (G.1 0, n, .inl g)) := by
      rw [hp_ne (by omega)]; exact h
    have b2 : hg_at (hp S (.inl (G.1 0, N, .inl (fun _ => 0))) N).1 S.2.1 = some (.inl (G.1 0, N, .inl (fun _ => 0))) := hp_self hw0
    refine wq_ln b1 ?_
    have m1 : hg_min (Int32.ofNat n) x = Int32.ofNat n := by
      unfold hg_min
      rw [if_neg (fun z => by have z2 := i_lt.mp z; rw [hx, aN] at z2; omega)]
    rw [m1]
    refine wq_cpy b1 b2 (by rw [il_0]; omega) (by rw [il_0]; omega) (by rw [aN]; omega) (by rw [aN, il_0]; omega) (by rw [aN, il_0]; omega) (fun i hi => rfl) ?_
    rw [aN, il_0]
    refine ⟨_, rfl, rfl, _, hu_self b2, fun i hi => ?_, fun b hb => ?_, rfl, (hw0.hp).hu⟩
    · show va_cpy g (fun _ => 0) 0 0 (n : Int).toNat i = g i
      unfold va_cpy
      rw [if_pos ⟨Nat.zero_le _, by omega⟩, show 0 + (i - 0) = i by omega]
    · rw [hu_ne hb, hp_ne hb]
/-- six different places -/
def ndp (a fA eA sA o tx : Nat) : Prop := (a ≠ fA ∧ a ≠ eA ∧ a ≠ sA ∧ a ≠ o ∧ a ≠ tx) ∧ (fA ≠ eA ∧ fA ≠ sA ∧ fA ≠ o ∧ fA ≠ tx) ∧ (eA ≠ sA ∧ eA ≠ o ∧ eA ≠ tx) ∧ (sA ≠ o ∧ sA ≠ tx) ∧ o ≠ tx
section BRING
variable {G : hg_E} {S : hg_S} {a tx fA eA sA cap o n : Nat} {ff ee ss f : Nat → Int32} {made sc : Int32} {tk : Option Nat} {fr to ln fa : Int32}
theorem br63 (h : nmv G S a tx fA eA sA cap ff ee ss made sc) (v : lxv G S o tx n f tk fr to ln fa) (d : ndp a fA eA sA o tx) (m0 : 0 ≤ made.toInt) (m1 : made.toInt < (cap : Int)) (s0 : 0 ≤ sc.toInt) (s1 : sc.toInt < (cap : Int)) (hcap : cap ≤ 200000) : dc_wp (hm_NM_bring_L63 G S a (some o)) (fun q => q.2 = made ∧ nmv G q.1 a tx fA eA sA cap (upd ff made.toInt.toNat fr) (upd ee made.toInt.toNat (to - fr)) (upd ss sc.toInt.toNat made) (made + 1) (sc + 1) ∧ lxv G q.1 o tx n f tk fr to ln fa ∧ q.1.2 = S.2 ∧ ∀ b, b ≠ a → b ≠ fA → b ≠ eA → b ≠ sA → hg_at q.1.1 b = hg_at S.1 b) := by
  obtain ⟨⟨d1, d2, d3, d4, d5⟩, ⟨d6, d7, d8, d9⟩, ⟨d10, d11, d12⟩, ⟨d13, d14⟩, d15⟩ := d
  obtain ⟨h1, h2, h3, h4⟩ := h
  obtain ⟨v1, v2, v3⟩ := v
  have me : made + 1 - 1 = made := by
    have e1 : (made + 1).toInt = made.toInt + 1 := by rw [i_addS (by rw [il_1]; omega), il_1]
    rw [i_eq, i_subS (by rw [il_1, e1]; omega), il_1, e1]
    omega
  delta hm_NM_bring_L63
  refine wq_gr (x := some fA) h1 rfl ?_
  refine wq_gi (x := made) h1 rfl ?_
  refine wq_gi (x := fr) v1 rfl ?_
  refine wq_st h2 m0 m1 ?_
  generalize hT1 : hu S fA (.inl (G.1 0, cap, .inl (upd ff made.toInt.toNat fr))) = T1
  have a1 : hg_at T1.1 a = some (.inr (3, [.ref tx, .ref fA, .ref eA, .ref sA, .int made, .int sc])) := by rw [← hT1, hu_ne (by omega)]; exact h1
  have a2 : hg_at T1.1 fA = some (.inl (G.1 0, cap, .inl (upd ff made.toInt.toNat fr))) := by rw [← hT1]; exact hu_self h2
  have a3 : hg_at T1.1 eA = some (.inl (G.1 0, cap, .inl ee)) := by rw [← hT1, hu_ne (by omega)]; exact h3
  have a4 : hg_at T1.1 sA = some (.inl (G.1 0, cap, .inl ss)) := by rw [← hT1, hu_ne (by omega)]; exact h4
  have a5 : hg_at T1.1 o = some (.inr (2, [.ref tx, va_rf tk, .int fr, .int to, .int ln, .int fa])) := by rw [← hT1, hu_ne (by omega)]; exact v1
  have a6 : hg_at T1.1 tx = some (.inl (G.1 1, n, .inl f)) := by rw [← hT1, hu_ne (by omega)]; exact v2
  have a7 : ∀ b, b ≠ fA → hg_at T1.1 b = hg_at S.1 b := fun b hb => by rw [← hT1, hu_ne hb]
  have a8 : T1.2 = S.2 := by rw [← hT1]; rfl
  refine wq_gr (x := some eA) a1 rfl ?_
  refine wq_gi (x := made) a1 rfl ?_
  refine wq_gi (x := to) a5 rfl ?_
  refine wq_gi (x := fr) a5 rfl ?_
  refine wq_st a3 m0 m1 ?_
  generalize hT2 : hu T1 eA (.inl (G.1 0, cap, .inl (upd ee made.toInt.toNat (to - fr)))) = T2
  have b1 : hg_at T2.1 a = some (.inr (3, [.ref tx, .ref fA, .ref eA, .ref sA, .int made, .int sc])) := by rw [← hT2, hu_ne (by omega)]; exact a1
  have b2 : hg_at T2.1 fA = some (.inl (G.1 0, cap, .inl (upd ff made.toInt.toNat fr))) := by rw [← hT2, hu_ne (by omega)]; exact a2
  have b3 : hg_at T2.1 eA = some (.inl (G.1 0, cap, .inl (upd ee made.toInt.toNat (to - fr)))) := by rw [← hT2]; exact hu_self a3
  have b4 : hg_at T2.1 sA = some (.inl (G.1 0, cap, .inl ss)) := by rw [← hT2, hu_ne (by omega)]; exact a4
  have b5 : hg_at T2.1 o = some (.inr (2, [.ref tx, va_rf tk, .int fr, .int to, .int ln, .int fa])) := by rw [← hT2, hu_ne (by omega)]; exact a5
  have b6 : hg_at T2.1 tx = some (.inl (G.1 1, n, .inl f)) := by rw [← hT2, hu_ne (by omega)]; exact a6
  have b7 : ∀ b, b ≠ fA → b ≠ eA → hg_at T2.1 b = hg_at S.1 b := fun b hb1 hb2 => by rw [← hT2, hu_ne hb2]; exact a7 b hb1
  have b8 : T2.2 = S.2 := by rw [← hT2]; exact a8
  refine wq_gr (x := some sA) b1 rfl ?_
  refine wq_gi (x := sc) b1 rfl ?_
  refine wq_gi (x := made) b1 rfl ?_
  refine wq_st b4 s0 s1 ?_
  generalize hT3 : hu T2 sA (.inl (G.1 0, cap, .inl (upd ss sc.toInt.toNat made))) = T3
  have c1 : hg_at T3.1 a = some (.inr (3, [.ref tx, .ref fA, .ref eA, .ref sA, .int made, .int sc])) := by rw [← hT3, hu_ne (by omega)]; exact b1
  have c4 : hg_at T3.1 sA = some (.inl (G.1 0, cap, .inl (upd ss sc.toInt.toNat made))) := by rw [← hT3]; exact hu_self b4
  have c7 : ∀ b, b ≠ sA → hg_at T3.1 b = hg_at T2.1 b := fun b hb => by rw [← hT3, hu_ne hb]
  have c8 : T3.2 = S.2 := by rw [← hT3]; exact b8
  refine wq_gi (x := sc) c1 rfl ?_
  refine wq_pf c1 (by simp) ?_
  have e1 : hg_at (hu T3 a (.inr (3, [.ref tx, .ref fA, .ref eA, .ref sA, .int made, .int (sc + 1)]))).1 a = some (.inr (3, [.ref tx, .ref fA, .ref eA, .ref sA, .int made, .int (sc + 1)])) := hu_self c1
  refine wq_gi (x := made) e1 rfl ?_
  refine wq_pf e1 (by simp) ?_
  have e2 : hg_at (hu (hu T3 a (.inr (3, [.ref tx, .ref fA, .ref eA, .ref sA, .int made, .int (sc + 1)]))) a (.inr (3, [.ref tx, .ref fA, .ref eA, .ref sA, .int (made + 1), .int (sc + 1)]))).1 a = some (.inr (3, [.ref tx, .ref fA, .ref eA, .ref sA, .int (made + 1), .int (sc + 1)])) := hu_self e1
  refine wq_gi (x := made + 1) e2 rfl ?_
  have e3 : ∀ b, b ≠ a → hg_at (hu (hu T3 a (.inr (3, [.ref tx, .ref fA, .ref eA, .ref sA, .int made, .int (sc + 1)]))) a (.inr (3, [.ref tx, .ref fA, .ref eA, .ref sA, .int (made + 1), .int (sc + 1)]))).1 b = hg_at T3.1 b := fun b hb => by rw [hu_ne hb, hu_ne hb]
  refine ⟨_, rfl, me, ⟨e2, ?_, ?_, ?_⟩, ⟨?_, ?_, d15⟩, c8, fun b hb1 hb2 hb3 hb4 => ?_⟩
  · exact (e3 fA (by omega)).trans ((c7 fA (by omega)).trans b2)
  · exact (e3 eA (by omega)).trans ((c7 eA (by omega)).trans b3)
  · exact (e3 sA (by omega)).trans c4
  · exact (e3 o (by omega)).trans ((c7 o (by omega)).trans b5)
  · exact (e3 tx (by omega)).trans ((c7 tx (by omega)).trans b6)
  · exact (e3 b hb1).trans ((c7 b hb4).trans (b7 b hb2 hb3))
end BRING
