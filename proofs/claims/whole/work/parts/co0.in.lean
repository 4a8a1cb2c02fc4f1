/-! the class's instant in step with the reference's -/
section INS
variable {G : hg_E} {S S1 : hg_S} {M : md_S} {T : tT} {t0 u n ps sg io pa o t : Nat} {R : Nat → Nat → Int32} {c : Nat → Int32} {X : Nat → Nat → Int32} {cn : Nat → Int32} {hf sf : Nat → Int32} {nn f st en rn ex la x1 : Int32} {ta tn : Value}
/-- the end of an instant that reacts -/
theorem in_101 {Sx : hg_S} {q' : rsT} {nm : Nat} {y v : Int32} (hy : y = 0 ∨ y = 1) (ho : o < u) (hR : RV G (ldE S u nm n ps sg io pa R c) S1 q') (hE : enH G S1 Sx o u io pa (enL t nn f (.ref u) (.ref (u + 18)) (.ref (u + 30)) (.ref (u + 31)) 1 en rn ta tn ex la) hf sf) (hpa : pa ≤ 200) (hch : ∀ p, q'.1 11 p = 0 ∨ q'.1 11 p = 1) : dc_wp (hm_SE_instant_L101 G Sx o v y) (fun z => ∃ S', z = .inl (S', v) ∧ enH G S1 S' o u io pa (enL t nn f (.ref u) (.ref (u + 18)) (.ref (u + 30)) (.ref (u + 31)) 1 y (rn + 1) ta tn ex la) (va_cpy (q'.1 11) hf 0 0 pa) sf) := by
  have t0 : (0 : Int32).toInt = 0 := by decide
  have tp : (Int32.ofNat pa).toInt = (pa : Int) := Int32.toInt_ofNat_of_lt (by omega)
  have tpn : (Int32.ofNat pa).toInt.toNat = pa := by omega
  have t0n : (0 : Int32).toInt.toNat = 0 := by decide
  have hc := hR.2.1.2 11 (by decide) (by decide)
  have hc : hg_at S1.1 (reB (u + 19) 11) = some (.inl (G.1 2, pa, .inl (q'.1 11))) := hc
  have ho1 := hR.2.1.1
  have bb := reB_b (u := u) (i := 11) (by decide) (by decide)
  delta hm_SE_instant_L101
  refine zb_s hy ?_
  refine wq_pfT (fs' := enL t nn f (.ref u) (.ref (u + 18)) (.ref (u + 30)) (.ref (u + 31)) 1 y rn ta tn ex la) hE.2.1 (Nat.le_of_ble_eq_true rfl) rfl (fun S2 e2 => ?_)
  have hE1 : enH G S1 S2 o u io pa (enL t nn f (.ref u) (.ref (u + 18)) (.ref (u + 30)) (.ref (u + 31)) 1 y rn ta tn ex la) hf sf := by rw [← e2]; exact enH_f ho hE
  refine wq_gi hE1.2.1 rfl ?_
  refine wq_pfT (fs' := enL t nn f (.ref u) (.ref (u + 18)) (.ref (u + 30)) (.ref (u + 31)) 1 y (rn + 1) ta tn ex la) hE1.2.1 (Nat.le_of_ble_eq_true rfl) rfl (fun S4 e4 => ?_)
  have hE2 : enH G S1 S4 o u io pa (enL t nn f (.ref u) (.ref (u + 18)) (.ref (u + 30)) (.ref (u + 31)) 1 y (rn + 1) ta tn ex la) hf sf := by rw [← e4]; exact enH_f ho hE1
  obtain ⟨⟨w1, w2⟩, w3, w4, w5, w6⟩ := hE2
  refine wq_gr (x := some (u + 18)) w3 rfl ?_
  have r18 : hg_at S4.1 (u + 18) = hg_at S1.1 (u + 18) := w4 (u + 18) (by omega) (by omega) (by omega)
  have ho2 := ho1
  rw [← show hg_at S4.1 (vO (ldE S u nm n ps sg io pa R c)) = hg_at S1.1 (vO (ldE S u nm n ps sg io pa R c)) from r18] at ho2
  refine wq_gr (x := some (vB (ldE S u nm n ps sg io pa R c) 11)) (a := u + 18) (k := 11) ho2 rfl ?_
  show dc_wp ((hg_gr S4 (some o) 0 7).bind fun e7 => (hg_gr S4 (some o) 0 7).bind fun e8 => (hg_ln S4 e8 (G.1 2)).bind fun e9 => (hg_cpy G S4 2 .boolean (some (reB (u + 19) 11)) 0 e7 0 e9).bind fun S10 => hm_SE_instant_L135 G S10 o v) _
  refine wq_gr (x := some (u + 30)) w3 rfl ?_
  refine wq_gr (x := some (u + 30)) w3 rfl ?_
  refine wq_ln w5 ?_
  have hc4 : hg_at S4.1 (reB (u + 19) 11) = some (.inl (G.1 2, pa, .inl (q'.1 11))) := by rw [w4 _ (by omega) (by omega) (by omega)]; exact hc
  refine wq_cpy hc4 w5 (by omega) (by omega) (by omega) (by omega) (by omega) (fun i hi => ?_) ?_
  · rcases hch ((0 : Int32).toInt.toNat + i) with e | e <;> (rw [e]; decide)
  · rw [t0n, tpn]
    delta hm_SE_instant_L135
    exact ⟨_, rfl, _, rfl, enH_h ho ⟨⟨w1, w2⟩, w3, w4, w5, w6⟩⟩
end INS
