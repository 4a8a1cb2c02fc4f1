/-! read, between calls -/
section RDB
variable {Ks : md_S → Prop} {G : hg_E} {S : hg_S} {M : md_S} {sz k : Nat}
theorem th_read (hok : lw_ok G sz) (PS : prS) (h : wJ Ks G sz k S M) (hk5 : k ≤ 511) (hs : dc_wp (mm_read M) (fun r => Ks r.1)) : ∃ r, mm_read M = some r ∧ dc_wp (hm_SE_read G S sz) (fun z => z.2 = r.2 ∧ wJ Ks G sz (k + 1) z.1 r.1) := by
  obtain ⟨r, hr, hKr⟩ := hs
  obtain ⟨t, N, g, nn, f, st, en, rn, ex, la, pg, rc, hd, sh, ta, tn, oA, oN, cap, bA, bN, hK, ⟨hT, hsz⟩, hO, hR, hP⟩ := id h
  obtain ⟨⟨⟨v1, v2⟩, w0, ot⟩, ⟨t1, t2, t3⟩, t4, t5⟩ := id hT
  obtain ⟨kA, kN, x, r1, r2, r3, r4⟩ := hR
  have cx : 256 * 2 ^ x ≤ 32768 ∧ x ≤ 7 := by
    have hx : 256 * 2 ^ x ≤ 32768 := by
      rcases r2 with ⟨-, -, e⟩ | ⟨e, -, ec⟩
      · rw [e]; decide
      · rw [← ec]
        rcases hO.2.1 with z | ⟨-, -, -, -, z⟩
        · rw [z] at e; cases e
        · exact z
    refine ⟨hx, ?_⟩
    rcases Nat.lt_or_ge x 8 with h | h
    · omega
    · have := Nat.pow_le_pow_right (show 0 < 2 by decide) h
      have e8 : (2 : Nat) ^ 8 = 256 := by decide
      omega
  have kn : kN ≤ 1 := by rcases r2 with ⟨-, e, -⟩ | ⟨-, e, -⟩ <;> omega
  have ka := r1.1
  have v70 : ∀ i, v3 (M.2.1 70 i) := by
    rcases hP with ⟨-, -, -, q⟩ | ⟨u, t0, T, n, ps, sg, io, pa, R, c, X, cn, hf, sf, -, ⟨q, -⟩, -⟩
    · exact q
    · exact q.2.2.2.2
  have fr := mm_read_fr M r hr
  have r70 : ∀ i, v3 (r.1.2.1 70 i) := by rw [fr.2.1 70 (by decide)]; exact v70
  refine ⟨r, hr, wq_w (read_l (sz := sz) hok PS (by omega) hT hr (by omega) (by omega)) ?_⟩
  rintro ⟨S', v⟩ ⟨ev, ⟨w', hl⟩, hb, ⟨c1, c2⟩, M1, q25, hz, hp, -, -, hrd⟩
  refine ⟨ev, ?_⟩
  have w1 : hw S' := w'
  have hl1 : S.2.1 ≤ S'.2.1 := hl
  have hb1 : ∀ b, b < S.2.1 → b ≠ sz → hg_at S'.1 b = hg_at S.1 b := hb
  have c11 : S.2.2.1 ≤ S'.2.2.1 + 40 * nn.toInt.toNat + 300 := c1
  have c21 : S.2.2.2 ≤ S'.2.2.2 + 301 * nn.toInt.toNat + 3600 := c2
  have hrd1 : rdR G S.2.1 (fun b => hg_at S'.1 b) sz t ta tn q25.1 r S' := hrd
  show wJ Ks G sz (k + 1) S' r.1
  have pf := mm_program_fr M1 q25 hp
  obtain ⟨lA, lN⟩ := jO_lt w0 hO
  have fA : ta = .ref oA → hg_at S'.1 oA = hg_at S.1 oA ∧ ∀ i, i < 8 → hg_at S'.1 (bA i) = hg_at S.1 (bA i) := fun z => by
    rcases hO.1 with z' | ⟨-, ⟨XA, cA, a2⟩, -⟩
    · rw [z'] at z; cases z
    · exact ⟨hb1 _ (lA z).1 (at_ne a2.1 v1 (fun z => by cases z)), fun i hi => hb1 _ ((lA z).2 i hi) (at_ne (a2.2 i hi) v1 (fun z => by cases z))⟩
  have fN : tn = .ref oN → hg_at S'.1 oN = hg_at S.1 oN ∧ ∀ i, i < 9 → hg_at S'.1 (bN i) = hg_at S.1 (bN i) := fun z => by
    rcases hO.2.1 with z' | ⟨-, ⟨XN, cN, a2⟩, -⟩
    · rw [z'] at z; cases z
    · exact ⟨hb1 _ (lN z).1 (at_ne a2.1 v1 (fun z => by cases z)), fun i hi => hb1 _ ((lN z).2 i hi) (at_ne (a2.2 i hi) v1 (fun z => by cases z))⟩
  have ft : hg_at S'.1 t = hg_at S.1 t := hb1 t (w0.lt v2) (fun z => ot z.symm)
  have i0 : (0 : Int32).toInt = 0 := by decide
  have jr : jR S' (k + 1) (0 : Int32).toInt.toNat N oA oN cap ta tn := ⟨kA, kN, x, r1, r2, by rw [i0]; show 600957 + 40 * 0 ≤ _; omega, by rw [i0]; show 6865417 + 301 * 0 ≤ _; omega⟩
  have tb : 0 ≤ (0 : Int32).toInt ∧ (0 : Int32).toInt ≤ 32768 ∧ (0 : Int32).toInt ≤ (N : Int) ∧ 20 ≤ N ∧ N ≤ 65536 ∧ (¬ (0 : Int32) = 0 → 20 ≤ (0 : Int32).toInt) := by
    rw [i0]
    exact ⟨by omega, by omega, by omega, t5.2.2.2.1, t5.2.2.2.2.1, fun z => absurd rfl z⟩
  rcases hrd1 with ⟨ne, he', Y, -, y2, y3, -, -, hf⟩ | ⟨e0, u, T, n, ps, sg, io, pa, R, c, f', ⟨lu, lu2⟩, he', hpg, hpt, hpb, hre, hpl, hh, hsh, m1, ⟨m2, m3, m41, m77, m82⟩, m74, m84⟩
  · have ff := mm_forget_fr Y r.1 hf
    refine ⟨t, N, g, 0, 0, 0, 0, 0, 0, 0, .null, .null, .null, .null, ta, tn, oA, oN, cap, bA, bN, hKr, ⟨⟨⟨⟨he', by rw [ft]; exact v2⟩, w1, ot⟩, ⟨by rw [ff.1 2 (by decide), y2], by rw [ff.1 3 (by decide), y3], fun i hi => by rw [i0] at hi; exact absurd hi (Nat.not_lt_zero i)⟩, t4, tb⟩, by omega⟩, jO_f hO fA fN, jr, Or.inl ⟨fgt_w hf, ⟨rfl, rfl, rfl, rfl⟩, ⟨rfl, rfl, rfl, rfl, rfl⟩, r70⟩⟩
  · have qz : ∀ i, i = 83 ∨ i = 85 ∨ i = 86 ∨ i = 87 ∨ i = 106 → r.1.1 i = M1.1 i := fun i hi => by
      rw [m1 i (by omega)]
      exact pf.1 i (by rcases hi with e | e | e | e | e <;> subst e <;> decide)
    obtain ⟨⟨-, -, -, -, -, -, -, -, -, -, -, z83, z85, z86, z87, z106⟩, z74, z84⟩ := hz
    have k74 : ∀ i, i < 200 → r.1.2.1 74 i = 0 := fun i hi => by rw [m74, pf.2.1 74 (by decide)]; exact z74 i hi
    have k84 : ∀ i, i < 62 → r.1.2.1 84 i = 0 := fun i hi => by rw [m84, pf.2.1 84 (by decide)]; exact z84 i hi
    obtain ⟨hld, hle⟩ := ld_rd hpg hpt hpb hre hpl hh hsh m77 m82 (by rw [qz 83 (by omega)]; exact z83) k74 k84 r70
    refine ⟨t, N, g, 0, 0, 0, 0, 0, 0, 0, .ref u, .ref (u + 18), .ref (u + 30), .ref (u + 31), ta, tn, oA, oN, cap, bA, bN, hKr, ⟨⟨⟨⟨he', by rw [ft]; exact v2⟩, w1, ot⟩, ⟨m2.symm, m3.symm, fun i hi => by rw [i0] at hi; exact absurd hi (Nat.not_lt_zero i)⟩, t4, tb⟩, by omega⟩, jO_f hO fA fN, jr, Or.inr ⟨u, S.2.1, T, n, ps, sg, io, pa, R, c, _, _, _, _, ⟨rfl, rfl, rfl, rfl⟩, ⟨hld, hle, m41⟩, ⟨⟨hsz, lu⟩, Or.inl (w0.lt v2), fun z => ⟨Or.inl (lA z).1, fun i hi => Or.inl ((lA z).2 i hi)⟩, fun z => ⟨Or.inl (lN z).1, fun i hi => Or.inl ((lN z).2 i hi)⟩⟩, Or.inl ⟨rfl, rfl, by rw [qz 85 (by omega)]; exact z85, by rw [qz 86 (by omega)]; exact z86, by rw [qz 87 (by omega)]; exact z87, by rw [qz 106 (by omega)]; exact z106⟩⟩⟩
end RDB
