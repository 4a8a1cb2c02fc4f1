/-! the class's net is made: init, build -/
abbrev nt0 : List Value := [.null, .null, .null, .null, .null, .null, .null, .null, .null, .int 0, .int 0, .int 0, .int 0, .int 0, .int 0]
section NTI
variable {G : hg_E} {S : hg_S} {o : Nat}
theorem nti_w (h0 : hw S) (ho : hg_at S.1 o = some (.inr (12, nt0))) (r1 : 9 ≤ S.2.2.1) (r2 : 9549 ≤ S.2.2.2) : dc_wp (hm_NT_init G S o) (fun S' => (hw S' ∧ S'.2 = (S.2.1 + 9, S.2.2.1 - 9, S.2.2.2 - 9549)) ∧ (∀ b, b < S.2.1 → b ≠ o → hg_at S'.1 b = hg_at S.1 b) ∧ NTv G S' o (fun i => S.2.1 + i) 256 (fun _ _ => 0) (fun _ => 0)) := by
  have t1 : (4096 : Int32).toInt = ((4096 : Nat) : Int) := by decide
  have t2 : (13 : Int32).toInt = ((13 : Nat) : Int) := by decide
  have t3 : (64 : Int32).toInt = ((64 : Nat) : Int) := by decide
  have t4 : (256 : Int32).toInt = ((256 : Nat) : Int) := by decide
  have v0 : AV S S o 12 nt0 0 0 (fun _ => .inl (G.1 0, 256, .inl (fun _ => 0))) := AV_0 h0 ho
  delta hm_NT_init
  refine wa_nf v0 t1 (by omega) (by omega) (by omega) (Nat.le_of_ble_eq_true rfl) (fun S1 v1 => ?_)
  refine wa_nf v1 t1 (by omega) (by omega) (by omega) (Nat.le_of_ble_eq_true rfl) (fun S2 v2 => ?_)
  refine wa_nf v2 t2 (by omega) (by omega) (by omega) (Nat.le_of_ble_eq_true rfl) (fun S3 v3 => ?_)
  refine wa_nf v3 t3 (by omega) (by omega) (by omega) (Nat.le_of_ble_eq_true rfl) (fun S4 v4 => ?_)
  refine wa_nf v4 t4 (by omega) (by omega) (by omega) (Nat.le_of_ble_eq_true rfl) (fun S5 v5 => ?_)
  refine wa_nf v5 t4 (by omega) (by omega) (by omega) (Nat.le_of_ble_eq_true rfl) (fun S6 v6 => ?_)
  refine wa_nf v6 t4 (by omega) (by omega) (by omega) (Nat.le_of_ble_eq_true rfl) (fun S7 v7 => ?_)
  refine wa_nf v7 t4 (by omega) (by omega) (by omega) (Nat.le_of_ble_eq_true rfl) (fun S8 v8 => ?_)
  refine wa_nf v8 t4 (by omega) (by omega) (by omega) (Nat.le_of_ble_eq_true rfl) (fun S9 v9 => ?_)
  clear v0 v1 v2 v3 v4 v5 v6 v7 v8
  obtain ⟨⟨y1, y2⟩, y3, y4, y5, y6⟩ := v9
  refine ⟨S9, rfl, ⟨y1, y4⟩, y5, y3, fun i hi => ?_⟩
  have : i = 0 ∨ i = 1 ∨ i = 2 ∨ i = 3 ∨ i = 4 ∨ i = 5 ∨ i = 6 ∨ i = 7 ∨ i = 8 := by omega
  rcases this with e | e | e | e | e | e | e | e | e <;> subst e
  · exact y6 0 (by omega)
  · exact y6 1 (by omega)
  · exact y6 2 (by omega)
  · exact y6 3 (by omega)
  · exact y6 4 (by omega)
  · exact y6 5 (by omega)
  · exact y6 6 (by omega)
  · exact y6 7 (by omega)
  · exact y6 8 (by omega)
end NTI
/-- roots of the functions before i -/
def ntR (q : rsT) (r : md_S) (n made : Nat) (ph : Nat → Nat) (i : Nat) : Prop := ∀ j, j < i → ∃ k, k < made ∧ q.1 3 j = Int32.ofNat k ∧ vr r n (tbv r j) 13 0 (nvC ph k)
section BLD
variable {G : hg_E} {E : nwE} {S : hg_S} {qa : rsT} {M r : md_S} {n oA cnt pa ins out : Nat} {bA : Nat → Nat}
/-- all functions -/
theorem bd_l (hE : nwS E) (hA : netA G E oA bA qa) (hX : EXa G E.1 M oA bA qa cnt pa ins) (hL : LYo M r cnt ins out pa n) (ho : out ≤ 31) {bb : Nat → Nat} {cap : Nat} {q : rsT} {ph : Nat → Nat} (hq : netN q ins out pa) (hN : NW G E S bb cap q) (hI : ncI q r n 2 ph cap) : dc_wp (hm_NT_build_L75 G S E.2.1 (some oA) 0) (fun S' => ∃ bb' cap' q' made ph', NW G E S' bb' cap' q' ∧ ncI q' r n made ph' cap' ∧ (netN q' ins out pa ∧ q'.2 14 = q.2 14) ∧ ntR q' r n made ph' (out + pa + 1)) := by
  obtain ⟨-, ⟨-, -, hn⟩, ⟨hU, -⟩, -, hR, -⟩ := id hL
  have p8 := hX.2.2.1.2.2.2
  have tF : (Int32.ofNat (out + pa + 1)).toInt = ((out + pa + 1 : Nat) : Int) := Int32.toInt_ofNat_of_lt (by omega)
  have key := dc_itK (step := hm_NT_build_s75 G E.2.1 (some oA)) (fun d (y : hg_S × Int32) => ∃ i bb' cap' q' made ph', y.2 = Int32.ofNat i ∧ i ≤ out + pa + 1 ∧ d = out + pa + 1 - i ∧ NW G E y.1 bb' cap' q' ∧ ncI q' r n made ph' cap' ∧ (netN q' ins out pa ∧ q'.2 14 = q.2 14) ∧ ntR q' r n made ph' i) (F := fun S' => ∃ bb' cap' q' made ph', NW G E S' bb' cap' q' ∧ ncI q' r n made ph' cap' ∧ (netN q' ins out pa ∧ q'.2 14 = q.2 14) ∧ ntR q' r n made ph' (out + pa + 1)) (by
    rintro d ⟨Y, y⟩ ⟨i, bb1, cap1, q1, made1, ph1, ey, i1, ed, N1, I1, ⟨Q1, z1⟩, R1⟩
    have ey : y = Int32.ofNat i := ey
    have N1 : NW G E Y bb1 cap1 q1 := N1
    subst ey
    have ti : (Int32.ofNat i).toInt = (i : Int) := Int32.toInt_ofNat_of_lt (by omega)
    show dc_wp (hm_NT_build_b75 G Y E.2.1 (some oA) (Int32.ofNat i)) _
    delta hm_NT_build_b75
    refine nw_i N1 (i := 13) (by decide) (by decide) ?_
    rw [Q1.2.2.2]
    refine wq_if (fun a => ?_) (fun a => ?_)
    · have a := i_lt.mp a
      rw [ti, tF] at a
      have hi : i < out + pa + 1 := by omega
      refine nw_c N1 ?_
      have f1 : foW G E Y r n q1 made1 ph1 q1 made1 ph1 := ⟨bb1, cap1, N1, I1, ⟨rfl, fun _ _ => rfl⟩, Nat.le_refl _, fun _ _ => rfl⟩
      refine wq_call (fo_w (fi := 0) hE hA hX hL ho hi Q1 (by omega) f1) ?_
      rintro ⟨S2, v2⟩ ⟨k2, q2, made2, ph2, e2, l2, f2, m2, p2, w2⟩
      have e2 : v2 = Int32.ofNat k2 := e2
      have f2 : foW G E S2 r n q1 made1 ph1 q2 made2 ph2 := f2
      subst e2
      obtain ⟨bb2, cap2, N2, I2, G2, -, -⟩ := id f2
      refine (show dc_wp ((hg_chk S2 (some E.2.1) 12).bind _) _ from ?_)
      refine nw_c N2 ?_
      refine wq_call (fo_w (fi := 1) hE hA hX hL ho hi Q1 (by omega) f2) ?_
      rintro ⟨S3, v3⟩ ⟨k3, q3, made3, ph3, e3, l3, f3, m3, p3, w3⟩
      have e3 : v3 = Int32.ofNat k3 := e3
      have f3 : foW G E S3 r n q1 made1 ph1 q3 made3 ph3 := f3
      subst e3
      obtain ⟨bb3, cap3, N3, I3, G3, -, p30⟩ := id f3
      refine (show dc_wp ((hg_gr S3 (some E.2.1) 12 3).bind _) _ from ?_)
      refine nw_g N3 (i := 3) (by decide) ?_
      refine nw_c N3 ?_
      have w2' : vr r n (tbv r i) 12 (2 * 0) (nvC ph3 k2) := by rw [p3 k2 l2]; exact w2
      have w3' : vr r n (tbv r i) 12 (2 * 0 + 1) (nvC ph3 k3) := w3
      refine fo_m (b := 12) (a := k2) (c := k3) (e := 0) hE hn hU (by omega) f3 (by omega) l3 w2' w3' (hR i hi) (fun S4 v q4 made4 ph4 f4 g0 g1 g2 g3 => ?_)
      obtain ⟨k, k1, ek, kv⟩ := g3
      obtain ⟨bb4, cap4, N4, I4, G4, m40, p40⟩ := id f4
      have b3 : bb3 3 = bb4 3 := (N3.2.2.2.1.2 3 (by omega)).trans (N4.2.2.2.1.2 3 (by omega)).symm
      show dc_wp ((hg_st S4 (some (bb3 3)) (G.1 0) (Int32.ofNat i) v).bind _) _
      rw [b3]
      refine nw_s N4 (i := 3) (by decide) (by omega) (by show (Int32.ofNat i).toInt < ((64 : Nat) : Int); omega) (fun S5 N5 => ?_)
      rw [show (Int32.ofNat i).toInt.toNat = i by omega] at N5
      refine ⟨_, rfl, out + pa + 1 - (i + 1), by omega, i + 1, bb4, cap4, _, made4, ph4, ad_m (by omega), by omega, rfl, N5, nc_l I4 (fun x _ h3 => uX_n h3) rfl, ⟨⟨(G4.2 10 (by omega)).trans Q1.1, (G4.2 11 (by omega)).trans Q1.2.1, (G4.2 12 (by omega)).trans Q1.2.2.1, (G4.2 13 (by omega)).trans Q1.2.2.2⟩, (G4.2 14 (by omega)).trans z1⟩, fun j hj => ?_⟩
      by_cases ej : j = i
      · rw [ej]
        exact ⟨k, k1, by rw [uX_s, upd_s]; exact ek, kv⟩
      · obtain ⟨kk, kk1, kk2, kk3⟩ := R1 j (by omega)
        exact ⟨kk, by omega, by rw [uX_s, upd_n ej, G4.1]; exact kk2, by rw [p40 kk kk1]; exact kk3⟩
    · have a : ¬ (Int32.ofNat i).toInt < (Int32.ofNat (out + pa + 1)).toInt := fun z => a (i_lt.mpr z)
      rw [ti, tF] at a
      have ei : i = out + pa + 1 := by omega
      rw [ei] at R1
      exact ⟨_, rfl, bb1, cap1, q1, made1, ph1, N1, I1, ⟨Q1, z1⟩, R1⟩)
  delta hm_NT_build_L75
  refine wq_call (key (out + pa + 1) (S, 0) ⟨0, bb, cap, q, 2, ph, rfl, by omega, rfl, hN, hI, ⟨hq, rfl⟩, fun j hj => absurd hj (by omega)⟩) ?_
  intro S' h
  delta hm_NT_build_L123
  exact ⟨_, rfl, h⟩
/-- a net made for the program beside the reference's -/
theorem bd_w (hE : nwS E) (hA : netA G E oA bA qa) (hX : EXa G E.1 M oA bA qa cnt pa ins) (hL : LYo M r cnt ins out pa n) (ho : out ≤ 31) {q : rsT} (hN : NW G E E.1 E.2.2.1 E.2.2.2 q) (hcap : E.2.2.2 ≤ 32768) {u : Nat} {f9 : List Value} (hu : hg_at E.1.1 u = some (.inr (9, f9))) (u1 : f9[1]? = some (.int (Int32.ofNat ins))) (u2 : f9[2]? = some (.int (Int32.ofNat out))) (u3 : f9[3]? = some (.int (Int32.ofNat pa))) (un : u < E.1.2.1 ∧ u ≠ E.2.1 ∧ ∀ i, i < 9 → u ≠ E.2.2.1 i) : dc_wp (hm_NT_build G E.1 E.2.1 (some u) (some oA)) (fun S' => ∃ bb' cap' q' made ph', NW G E S' bb' cap' q' ∧ ncI q' r n made ph' cap' ∧ (netN q' ins out pa ∧ q'.2 14 = 0) ∧ ntR q' r n made ph' (out + pa + 1)) := by
  have p8 := hX.2.2.1.2.2.2
  have i4 := hX.2.2.1.2.2.1
  obtain ⟨x, ex⟩ := hE.1
  have c256 : 256 ≤ E.2.2.2 := by
    rw [ex]
    exact Nat.le_mul_of_pos_right _ (Nat.pow_pos (by decide))
  have uA : ∀ {S' : hg_S} {b : Nat → Nat} {cp : Nat} {q' : rsT}, NW G E S' b cp q' → hg_at S'.1 u = some (.inr (9, f9)) := fun h => by rw [h.2.2.1 u un.1 un.2.1 un.2.2]; exact hu
  delta hm_NT_build
  refine nw_g hN (i := 1) (by decide) ?_
  refine wq_call (fil_w hN.1.1 (hN.2.1.2 1 (by omega)) (by show 4096 ≤ 100000; decide)) ?_
  rintro S1 ⟨⟨a1, a2⟩, a3, a4⟩
  have N1 := NW_u hN (i := 1) (by omega) a1 a2 a3 a4
  refine nw_g N1 (i := 2) (by decide) ?_
  refine wq_call (fil_w N1.1.1 (N1.2.1.2 2 (by omega)) (by show 13 ≤ 100000; decide)) ?_
  rintro S2 ⟨⟨b1, b2⟩, b3, b4⟩
  have N2 := NW_u N1 (i := 2) (by omega) b1 b2 b3 b4
  refine nw_g N2 (i := 8) (by decide) ?_
  refine wq_call (fil_w N2.1.1 (N2.2.1.2 8 (by omega)) (by show E.2.2.2 ≤ 100000; omega)) ?_
  rintro S3 ⟨⟨c1, c2⟩, c3, c4⟩
  have N3 := NW_u N2 (i := 8) (by omega) c1 c2 c3 c4
  clear N1 N2 a1 a2 a3 a4 b1 b2 b3 b4 c1 c2 c3 c4
  refine nw_f N3 (j := 14) (by decide) (by decide) (fun S4 N4 => ?_)
  refine nw_f N4 (j := 9) (by decide) (by decide) (fun S5 N5 => ?_)
  refine wq_gi (uA N5) u1 ?_
  refine nw_f N5 (j := 10) (by decide) (by decide) (fun S6 N6 => ?_)
  refine wq_gi (uA N6) u2 ?_
  refine nw_f N6 (j := 11) (by decide) (by decide) (fun S7 N7 => ?_)
  refine wq_gi (uA N7) u3 ?_
  refine nw_f N7 (j := 12) (by decide) (by decide) (fun S8 N8 => ?_)
  refine nw_i N8 (i := 11) (by decide) (by decide) ?_
  refine nw_i N8 (i := 12) (by decide) (by decide) ?_
  refine nw_f N8 (j := 13) (by decide) (by decide) (fun S9 N9 => ?_)
  clear N3 N4 N5 N6 N7
  generalize hq8 : uC (uC (uC (uC (uC (fX (fX (fX q 1 (fun p => if p < nN E.2.2.2 1 then -1 else q.1 1 p)) 2 (fun p => if p < nN E.2.2.2 2 then 0 else (fX q 1 (fun p => if p < nN E.2.2.2 1 then -1 else q.1 1 p)).1 2 p)) 8 (fun p => if p < nN E.2.2.2 8 then 0 else (fX (fX q 1 (fun p => if p < nN E.2.2.2 1 then -1 else q.1 1 p)) 2 (fun p => if p < nN E.2.2.2 2 then 0 else (fX q 1 (fun p => if p < nN E.2.2.2 1 then -1 else q.1 1 p)).1 2 p)).1 8 p)) 14 0) 9 2) 10 (Int32.ofNat ins)) 11 (Int32.ofNat out)) 12 (Int32.ofNat pa) = q8 at N9
  have h1 : ∀ h, h < 4096 → q8.1 1 h = -1 := fun h hh => by
    rw [← hq8, uC_1, uC_1, uC_1, uC_1, uC_1, fX_n (by omega), fX_n (by omega), fX_s]
    exact if_pos hh
  have h2 : ∀ b, b < 13 → q8.1 2 b = 0 := fun b hb => by
    rw [← hq8, uC_1, uC_1, uC_1, uC_1, uC_1, fX_n (by omega), fX_s]
    exact if_pos hb
  have h8 : ∀ k, k < E.2.2.2 → q8.1 8 k = 0 := fun k hk => by
    rw [← hq8, uC_1, uC_1, uC_1, uC_1, uC_1, fX_s]
    exact if_pos hk
  have n9 : q8.2 9 = 2 := by rw [← hq8, uC_n (by omega), uC_n (by omega), uC_n (by omega), uC_s]
  have n10 : q8.2 10 = Int32.ofNat ins := by rw [← hq8, uC_n (by omega), uC_n (by omega), uC_s]
  have n11 : q8.2 11 = Int32.ofNat out := by rw [← hq8, uC_n (by omega), uC_s]
  have n12 : q8.2 12 = Int32.ofNat pa := by rw [← hq8, uC_s]
  have n14 : q8.2 14 = 0 := by rw [← hq8, uC_n (by omega), uC_n (by omega), uC_n (by omega), uC_n (by omega), uC_s]
  rw [n11, n12, ← Int32.ofNat_add, ad_m (by omega)] at N9
  have no : ∀ h k, k < 2 → ¬ onC (uC q8 13 (Int32.ofNat (out + pa + 1))) h k := fun h k hk z => by
    have := z.1
    omega
  have I0 : ncI (uC q8 13 (Int32.ofNat (out + pa + 1))) r n 2 (fun _ => 0) E.2.2.2 := by
    refine ⟨⟨by rw [uC_n (by omega), n9]; rfl, by omega, by omega, hcap⟩, fun k k1 k2 => absurd k1 (by omega), fun k k' k1 k2 => absurd k1 (by omega), ⟨fun h hh => Or.inl ⟨h1 h hh, fun p hp => no h p hp⟩, fun k h hk _ z => absurd z (no h k hk)⟩, fun b hb => ?_, h8⟩
    rw [uC_1, h2 b hb]
    have e1 : ∀ m, m ≤ 2 → ctP (fun k => 2 ≤ k ∧ q8.1 4 k = Int32.ofNat b) m = 0 := by
      intro m
      induction m with
      | zero => exact fun _ => rfl
      | succ m ih =>
        intro hm
        have nn : ¬ (2 ≤ m ∧ q8.1 4 m = Int32.ofNat b) := fun z => by have := z.1; omega
        have e := ctP_n (P := fun k => 2 ≤ k ∧ q8.1 4 k = Int32.ofNat b) nn
        rw [e, ih (by omega)]
    show 0 = Int32.ofNat (ctP (fun k => 2 ≤ k ∧ q8.1 4 k = Int32.ofNat b) 2)
    rw [e1 2 (by omega)]
    rfl
  refine wq_w (bd_l hE hA hX hL ho ⟨by rw [uC_n (by omega)]; exact n10, by rw [uC_n (by omega)]; exact n11, by rw [uC_n (by omega)]; exact n12, uC_s⟩ N9 I0) ?_
  rintro S' ⟨bb', cap', q', made, ph', k1, k2, ⟨k3, k4⟩, k5⟩
  exact ⟨bb', cap', q', made, ph', k1, k2, ⟨k3, by rw [k4, uC_n (by omega)]; exact n14⟩, k5⟩
end BLD
