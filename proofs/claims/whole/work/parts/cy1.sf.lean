/-! the reference's safety, out of what holds between calls -/
def zkN (M : md_S) : Prop :=
  ((0 ≤ M.1 2 ∧ M.1 2 ≤ 32768) ∧ (M.1 82 = 1 → M.1 41 = 1) ∧ (M.1 41 = 0 ∨ M.1 41 = 1)) ∧
  (M.1 42 ≤ 1200 ∧ M.1 43 ≤ 1000 ∧ M.1 44 ≤ 400 ∧ sb_le (M.1 44) (M.2.1 69)) ∧
  ((0 ≤ M.1 45 ∧ M.1 45 ≤ 31) ∧ (0 ≤ M.1 46 ∧ M.1 46 ≤ 31) ∧ (0 ≤ M.1 47 ∧ M.1 47 ≤ 200)) ∧
  ((0 ≤ M.1 87 ∧ M.1 87 ≤ 257) ∧ (0 < M.1 87 → (1 ≤ ((1 : Int32) <<< ((M.1 45) &&& (31 : Int32))) ∧ ((1 : Int32) <<< ((M.1 45) &&& (31 : Int32))) ≤ 16)) ∧ (0 < M.1 87 → ¬ M.1 45 = 31)) ∧
  ((0 ≤ M.1 106 ∧ M.1 106 ≤ 24000) ∧ (¬ M.1 86 = 0 → M.1 47 ≤ 8) ∧ sb_ub (M.1 106) 24000 (M.2.1 102) ∧ sb_ub (M.1 106) 24000 (M.2.1 103))
section ZKN
variable {G : hg_E} {S : hg_S} {M : md_S} {sz k : Nat}
theorem zk_n {x y : Int32} {n m : Nat} (e : x = Int32.ofNat n) (h : n ≤ m) (hm : m ≤ 100000) (ey : y.toInt = (m : Int)) : 0 ≤ x ∧ x ≤ y := by
  have e1 : (Int32.ofNat n).toInt = (n : Int) := Int32.toInt_ofNat_of_lt (by omega)
  rw [e]
  exact ⟨i_0le.mpr (by rw [e1]; omega), i_le.mpr (by rw [e1, ey]; omega)⟩
theorem zk_vl {m d : Nat} {x : Int32} (h : vl M m d x) (hm : m ≤ 24000) : x.toInt < (24000 : Int32).toInt := by
  rw [il_24000]
  rcases h with e | e | ⟨k, hk, e, -⟩
  · rw [e]; decide
  · rw [e]; decide
  · rw [e, Int32.toInt_ofNat_of_lt (by omega)]; omega
theorem zk_87 {pa oA oN cap : Nat} {bA bN : Nat → Nat} {ta tn : Value} {ex la : Int32} (h : jX G S M k pa oA oN cap bA bN ta tn ex la) : ((0 ≤ M.1 87 ∧ M.1 87 ≤ 257) ∧ (0 < M.1 87 → (1 ≤ ((1 : Int32) <<< ((M.1 45) &&& (31 : Int32))) ∧ ((1 : Int32) <<< ((M.1 45) &&& (31 : Int32))) ≤ 16)) ∧ (0 < M.1 87 → ¬ M.1 45 = 31)) := by
  rcases h with ⟨-, -, -, -, x87, -⟩ | ⟨-, -, -, -, q, cnt, ins, out, hE, -, -⟩
  · rw [x87]
    exact ⟨by decide, fun z => absurd z (by decide), fun z => absurd z (by decide)⟩
  · obtain ⟨-, ⟨⟨⟨-, e87, c257⟩, -⟩, -, -⟩, ⟨-, e45, i4, -⟩, -⟩ := hE
    refine ⟨zk_n e87 c257 (by omega) il_257, fun _ => ?_, fun _ z => ?_⟩
    · obtain ⟨s1, s2, s3⟩ := sh_ins ins i4
      rw [e45, s1]
      generalize 2 ^ ins = w at s2 s3 ⊢
      have e : (Int32.ofNat w).toInt = (w : Int) := Int32.toInt_ofNat_of_lt (by omega)
      exact ⟨i_le.mpr (by rw [il_1, e]; omega), i_le.mpr (by rw [il_16, e]; omega)⟩
    · have e := congrArg Int32.toInt (e45.symm.trans z)
      rw [Int32.toInt_ofNat_of_lt (by omega), il_31] at e
      omega
theorem zk_106 {pa oA oN cap : Nat} {bA bN : Nat → Nat} {ta tn : Value} {ex la : Int32} (e47 : M.1 47 = Int32.ofNat pa) (h : jX G S M k pa oA oN cap bA bN ta tn ex la) : ((0 ≤ M.1 106 ∧ M.1 106 ≤ 24000) ∧ (¬ M.1 86 = 0 → M.1 47 ≤ 8) ∧ sb_ub (M.1 106) 24000 (M.2.1 102) ∧ sb_ub (M.1 106) 24000 (M.2.1 103)) := by
  have z0 : M.1 86 = 0 → M.1 106 = 0 → ((0 ≤ M.1 106 ∧ M.1 106 ≤ 24000) ∧ (¬ M.1 86 = 0 → M.1 47 ≤ 8) ∧ sb_ub (M.1 106) 24000 (M.2.1 102) ∧ sb_ub (M.1 106) 24000 (M.2.1 103)) := fun z1 z2 => by
    rw [z2, z1]
    refine ⟨by decide, fun z => absurd rfl z, fun i hi => ?_, fun i hi => ?_⟩
    · rw [il_0] at hi; omega
    · rw [il_0] at hi; omega
  rcases h with ⟨-, -, -, x86, -, x106⟩ | ⟨-, -, -, -, q, cnt, ins, out, hE, -, ⟨-, x86, x106⟩ | ⟨-, -, -, qn, m, -, hL, -⟩⟩
  · exact z0 x86 x106
  · exact z0 x86 x106
  · obtain ⟨-, -, ⟨-, -, -, p8⟩, -⟩ := hE
    obtain ⟨⟨e106, m24⟩, ⟨-, hL⟩, -⟩ := hL
    have tm : (Int32.ofNat m).toInt = (m : Int) := Int32.toInt_ofNat_of_lt (by omega)
    refine ⟨zk_n e106 m24 (by omega) il_24000, fun _ => (zk_n e47 p8 (by omega) il_8).2, fun i hi => ?_, fun i hi => ?_⟩
    · rw [e106, tm] at hi
      obtain ⟨l, -, -, v1, -, -⟩ := hL i (by omega)
      exact zk_vl v1 (by omega)
    · rw [e106, tm] at hi
      obtain ⟨l, -, -, -, v1, -⟩ := hL i (by omega)
      exact zk_vl v1 (by omega)
theorem zk_num (h : wJ zkS G sz k S M) : zkN M := by
  have hK := wJ_K h
  obtain ⟨t, N, g, nn, f, st, en, rn, ex, la, pg, rc, hd, sh, ta, tn, oA, oN, cap, bA, bN, -, ⟨hT, hsz⟩, hO, hR, hP⟩ := id h
  obtain ⟨-, ⟨t1, -, -⟩, -, t5a, t5b, -⟩ := hT
  have e2 : 0 ≤ M.1 2 ∧ M.1 2 ≤ 32768 := by
    rw [← t1]
    exact ⟨i_0le.mpr t5a, i_le.mpr (by rw [il_32768]; exact t5b)⟩
  rcases hP with ⟨⟨⟨z41, z42, z43, z44, z45, z46, z47, -, -, -, z82, -, -, z86, z87, z106⟩, -, -⟩, -⟩ | ⟨u, t0, T, n, ps, sg, io, pa, R, c, X, cn, hf, sf, -, ⟨q2, -, q4⟩, -, q6⟩
  · unfold zkN
    rw [z82, z41, z42, z43, z44, z45, z46, z47, z87, z106, z86]
    refine ⟨⟨e2, fun z => absurd z (by decide), Or.inl rfl⟩, ⟨by decide, by decide, by decide, fun i hi => ?_⟩, by decide, ⟨by decide, fun z => absurd z (by decide), fun z => absurd z (by decide)⟩, by decide, fun z => absurd rfl z, fun i hi => ?_, fun i hi => ?_⟩
    · rw [il_0] at hi; omega
    · rw [il_0] at hi; omega
    · rw [il_0] at hi; omega
  · obtain ⟨⟨⟨-, -, ⟨m42, m43, m44, -, -, -, -, -, -, m47⟩, ⟨⟨-, b1⟩, b2, b3, -, -, b4⟩, c1, c2, c3, c4⟩, -, -⟩, -⟩ := q2
    exact ⟨⟨e2, fun _ => q4, Or.inr q4⟩, ⟨(zk_n m42 b1 (by omega) il_1200).2, (zk_n m43 b2 (by omega) il_1000).2, (zk_n m44 b3 (by omega) il_400).2, (hK.1 q4).2.2.2.2.2.2⟩, ⟨⟨i_0le.mpr c1, i_le.mpr (by rw [il_31]; exact c2)⟩, ⟨i_0le.mpr c3, i_le.mpr (by rw [il_31]; exact c4)⟩, zk_n m47 b4 (by omega) il_200⟩, zk_87 q6, zk_106 m47 q6⟩
/-- the reference comes to its end at every call -/
theorem zk_sf (G : hg_E) (sz k : Nat) (S : hg_S) (M : md_S) (h : wJ zkS G sz k S M) : sfM zkS M := by
  have hK := wJ_K h
  obtain ⟨⟨⟨a0, a1⟩, a82, a41⟩, ⟨b42, b43, b44, ble⟩, ⟨⟨c45, d45⟩, ⟨c46, d46⟩, c47, d47⟩, ⟨⟨c87, d87⟩, e87, f87⟩, ⟨c106, d106⟩, e86, u2, u3⟩ := zk_num h
  refine ⟨?_, fun p q => mm_node_II_s M p q b42, fun p q => mm_piece_II_s M p q b43, fun p q => mm_letter_II_s M p q b44 ble, ?_, fun p => ?_, fun p => mm_status_s M p c45 d45 c46 d46, fun p => mm_selected_s M p d47, fun p => ?_, ?_, fun p => mm_distance_s M p c87 d87, fun p q => mm_next_s M p q c87 d87 e87 f87, fun p q => mm_shows_s M p q c87 d87 e87 f87, fun p => mm_doubt_s M p c87 d87 e87, fun p => mm_ever_s M p c87 d87 e87, fun p q => mm_together_s M p q c87 d87 e87, mm_classes_s M c87 d87, fun p => mm_alike_s M p c87 d87, ⟨fun r hr => ?_, fun h85 => ?_⟩, fun p => mm_pass_s M p, fun p => mm_level_s M p c106 d106, fun p => ?_, fun p => mm_count_s M p c87 d87 e87 c47 d47⟩
  · obtain ⟨r, hr, -, hd⟩ := mm_read_l (S := M) a0 a1
    have fr := mm_read_fr M r hr
    refine ⟨r, hr, fun z => ?_, zk_RW hK.2.1 (fr.2.1 71 (by decide)) (fr.2.1 73 (by decide)), zk_read r hr⟩
    rcases hd with no | ⟨pf, -⟩
    · rw [no 41 (by decide)] at z
      exact absurd z (by decide)
    · exact pf
  · obtain ⟨r, hr, -⟩ := mm_restart_s M
    have f := mm_restart_fr M r hr
    exact ⟨r, hr, zk_fr hK f (by decide) (by decide) (f.1 41 (by decide)) (f.2.1 71 (by decide)) (f.2.1 73 (by decide)) (zk_restart hK.2.2 r hr)⟩
  · obtain ⟨r, hr, hd⟩ := mm_instant_l (S := M) p (fun z => ⟨hK.1 (a82 z), hK.2.1, hK.2.2⟩) hK.2.1
    refine ⟨r, hr, ?_⟩
    rcases hd with ⟨-, -, ⟨v1, v2, v3⟩, -⟩ | ⟨-, f⟩
    · exact ⟨fun _ => v1, v2, v3⟩
    · exact zk_fr hK f (by decide) (by decide) (f.1 41 (by decide)) (f.2.1 71 (by decide)) (f.2.1 73 (by decide)) (zk74_e hK.2.2 (f.2.1 74 (by decide)))
  · obtain ⟨r, hr, -⟩ := mm_go_s M p c87 d87
    have f := mm_go_fr M p r hr
    exact ⟨r, hr, zk_fr hK f (by decide) (by decide) (f.1 41 (by decide)) (f.2.1 71 (by decide)) (f.2.1 73 (by decide)) (zk_go hK.2.2 p r hr)⟩
  · rcases a41 with z | z
    · delta mm_explore mm_explore_L13
      rw [if_pos z, fl_1]
      exact ⟨(md_i M 0 1, 0), rfl, zk_s M 1 hK⟩
    · obtain ⟨r, hr, v1, v2, v3⟩ := exp_t (M := M) zk_exK ⟨hK.1 z, hK.2.1, hK.2.2⟩ z hK.2.2 (i_0le.mp c45) ⟨i_0le.mp c46, by have := i_le.mp d46; rw [il_31] at this; exact this⟩ (i_0le.mp c47)
      exact ⟨r, hr, fun _ => v1, v2, v3⟩
  · have f := mm_lay_0_fr M r hr
    exact zk_fr hK f (by decide) (by decide) (f.1 41 (by decide)) (f.2.1 71 (by decide)) (f.2.1 73 (by decide)) (zk74_e hK.2.2 (f.2.1 74 (by decide)))
  · delta mm_lay_0 mm_lay_0_L13
    rw [if_pos h85, fl_1]
    exact ⟨(md_i M 0 1, 0), rfl, trivial⟩
  · obtain ⟨r, hr, -⟩ := mm_size_s M p c106 d106 c46 d46 c47 e86 d47 u2 u3
    have f := mm_size_fr M p r hr
    exact ⟨r, hr, zk_fr hK f (by decide) (by decide) (f.1 41 (by decide)) (f.2.1 71 (by decide)) (f.2.1 73 (by decide)) (zk74_e hK.2.2 (f.2.1 74 (by decide)))⟩
end ZKN
