/-! the reference's lay: a block's multiplexer -/
/-- places at a level at which one may be made; of all levels from v to 9 -/
def pos (v : Nat) : Nat := if v = 0 then 1 else 2 ^ (v - 1) + 1
def alq : Nat → Nat
  | 0 => 0
  | k + 1 => alq k + pos (9 - k)
def als (v : Nat) : Nat := alq (10 - v)
def alw (v c : Nat) : Nat := if v ≤ 9 then als (v + 1) + (if c < pos v then c else pos v) else 0
theorem als_s {v : Nat} (h : v ≤ 9) : als v = als (v + 1) + pos v := by
  unfold als
  rw [show 10 - v = (10 - (v + 1)) + 1 by omega]
  show alq (10 - (v + 1)) + pos (9 - (10 - (v + 1))) = _
  rw [show 9 - (10 - (v + 1)) = v by omega]
theorem als_b : ∀ v, v ≤ 13 → als v ≤ 521 := by decide +kernel
theorem alw_b {v c : Nat} (h : v ≤ 12) : alw v c ≤ 521 := by
  unfold alw
  by_cases d : v ≤ 9
  · rw [if_pos d]
    have := als_s d
    have := als_b v (by omega)
    split <;> omega
  · rw [if_neg d]; omega
/-- what lay may write -/
def nlF (M Y : md_S) : Prop := (∀ k, ¬ k = 106 → Y.1 k = M.1 k) ∧ (∀ k, ¬ (99 ≤ k ∧ k ≤ 104) → Y.2.1 k = M.2.1 k) ∧ Y.2.2 = M.2.2
/-- multiplexers made for the functions up to i -/
def nlB (M Y : md_S) (tbf : Nat → Nat → Int32) (n i : Nat) : Prop := nlF M Y ∧ mxI Y n ∧ mxL Y n ∧ (∀ m, m < n → ∃ j d c, j ≤ i ∧ d ≤ 12 ∧ c < 2 ^ (12 - d) ∧ vr Y n (tbf j) (d + 1) c (Int32.ofNat m) ∧ Y.2.1 101 m = Int32.ofNat (12 - d)) ∧ ∀ j, j < i → vr Y n (tbf j) 13 0 (Y.2.1 100 j)
noncomputable def nlN (Y : md_S) (n : Nat) : Nat := @ctP (fun m => ∃ l, l ≤ 9 ∧ Y.2.1 101 m = Int32.ofNat l) n
/-- a level under way -/
def nlC (Y : md_S) (n : Nat) (tb : Nat → Int32) (v c : Nat) : Prop := (∀ k, k < c → vr Y n tb (13 - v) k (Y.2.1 99 k)) ∧ ∀ k, 2 * c ≤ k → k < 2 ^ (v + 1) → vr Y n tb (12 - v) k (Y.2.1 99 k)
section LYR
variable {M Y : md_S} {tbf : Nat → Nat → Int32} {n i v c : Nat}
/-- only blocks, roots and the like were written -/
theorem nlB_b {Z : md_S} (h : nlB M Y tbf n i) (z1 : Z.1 = Y.1) (z2 : ∀ k, ¬ k = 99 → Z.2.1 k = Y.2.1 k) (z3 : Z.2.2 = Y.2.2) : nlB M Z tbf n i ∧ mxG Y Z n n ∧ nlN Z n = nlN Y n := by
  obtain ⟨⟨f1, f2, f3⟩, h2, h3, h4, h5⟩ := h
  have g : mxG Y Z n n := ⟨Nat.le_refl _, fun m _ => ⟨by rw [z2 101 (by omega)], by rw [z2 102 (by omega)], by rw [z2 103 (by omega)]⟩⟩
  refine ⟨⟨⟨fun k hk => by rw [z1]; exact f1 k hk, fun k hk => by rw [z2 k (by omega)]; exact f2 k hk, z3.trans f3⟩, ?_, ?_, ?_, ?_⟩, g, ?_⟩
  · unfold mxI
    rw [z1, z2 101 (by omega), z2 102 (by omega), z2 103 (by omega), z2 104 (by omega)]
    exact h2
  · unfold mxL vl
    rw [z2 101 (by omega), z2 102 (by omega), z2 103 (by omega)]
    exact h3
  · intro m hm
    obtain ⟨j, d, c, a1, a2, a3, a4, a5⟩ := h4 m hm
    exact ⟨j, d, c, a1, a2, a3, vr_m g _ _ _ a4, by rw [z2 101 (by omega)]; exact a5⟩
  · intro j hj
    rw [z2 100 (by omega)]
    exact vr_m g _ _ _ (h5 j hj)
  · unfold nlN
    rw [z2 101 (by omega)]
theorem p2_v : ∀ v, v ≤ 12 → (1 : Int32) <<< (Int32.ofNat v &&& (31 : Int32)) = Int32.ofNat (2 ^ v) ∧ 2 ^ v ≤ 4096 := by decide +kernel
/-- beyond the first places of a level all is false -/
theorem nl_z (hz : ∀ k, 4112 ≤ k → k < 8192 → tbf i k = -2) (hv : v ≤ 9) (hc : c < 2 ^ v) (hp : ¬ c < pos v) {y z : Int32} (h1 : vr Y n (tbf i) (12 - v) (2 * c) y) (h2 : vr Y n (tbf i) (12 - v) (2 * c + 1) z) : y = z := by
  have a : ∀ w, (∀ k, w * 2 ^ (12 - v) ≤ k → k < (w + 1) * 2 ^ (12 - v) → 4112 ≤ k ∧ k < 8192) → ∀ x, vr Y n (tbf i) (12 - v) w x → x = -2 := fun w hw x hx => vr_z (12 - v) w (fun k k1 k2 => hz k (hw k k1 k2).1 (hw k k1 k2).2) x hx
  have cs : v = 0 ∨ v = 1 ∨ v = 2 ∨ v = 3 ∨ v = 4 ∨ v = 5 ∨ v = 6 ∨ v = 7 ∨ v = 8 ∨ v = 9 := by omega
  rw [a (2 * c) (fun k k1 k2 => ?_) y h1, a (2 * c + 1) (fun k k1 k2 => ?_) z h2]
  · rcases cs with e | e | e | e | e | e | e | e | e | e <;> subst e <;> simp [pos] at hp hc k1 k2 <;> omega
  · rcases cs with e | e | e | e | e | e | e | e | e | e <;> subst e <;> simp [pos] at hp hc k1 k2 <;> omega
theorem nl_118 (htb : ∀ k, tbf i k = -1 ∨ tbf i k = -2) (hz : ∀ k, 4112 ≤ k → k < 8192 → tbf i k = -2) (hi : i < 40) (hv : v ≤ 12) (hc : c < 2 ^ v) (hB : nlB M Y tbf n i) (hC : nlC Y n (tbf i) v c) (hN : nlN Y n ≤ 521 * i + alw v c) : dc_wp (mm_lay_0_b118 Y (Int32.ofNat i) (Int32.ofNat v) (Int32.ofNat c)) (fun z => ∃ Z n', z = .inl (Z, Int32.ofNat (c + 1)) ∧ nlB M Z tbf n' i ∧ nlC Z n' (tbf i) v (c + 1) ∧ nlN Z n' ≤ 521 * i + alw v (c + 1)) := by
  obtain ⟨p1, p2⟩ := p2_v v hv
  have tc : (Int32.ofNat c).toInt = (c : Int) := Int32.toInt_ofNat_of_lt (by omega)
  have tv : (Int32.ofNat (2 ^ v)).toInt = ((2 ^ v : Nat) : Int) := Int32.toInt_ofNat_of_lt (by omega)
  have d1 : (2 : Int32) * Int32.ofNat c = Int32.ofNat (2 * c) := by rw [show (2 : Int32) = Int32.ofNat 2 from rfl, ← Int32.ofNat_mul]
  have t2 : (Int32.ofNat (2 * c)).toInt = ((2 * c : Nat) : Int) := Int32.toInt_ofNat_of_lt (by omega)
  have t3 : (Int32.ofNat (2 * c + 1)).toInt = ((2 * c + 1 : Nat) : Int) := Int32.toInt_ofNat_of_lt (by omega)
  have e2 : 2 ^ (v + 1) = 2 * 2 ^ v := by rw [Nat.pow_succ]; omega
  have alm : alw v c ≤ alw v (c + 1) := by
    unfold alw
    by_cases d : v ≤ 9
    · rw [if_pos d, if_pos d]
      split <;> split <;> omega
    · rw [if_neg d]; exact Nat.zero_le _
  have hy := hC.2 (2 * c) (by omega) (by omega)
  have hzz := hC.2 (2 * c + 1) (by omega) (by omega)
  -- the block is put down
  have put : ∀ (S1 : md_S) (n1 : Nat) (x : Int32), nlB M S1 tbf n1 i → mxG Y S1 n n1 → S1.2.1 99 = Y.2.1 99 → nlN S1 n1 ≤ 521 * i + alw v (c + 1) → vr S1 n1 (tbf i) (13 - v) c x → dc_wp (mm_lay_0_L173 S1 (Int32.ofNat i) (Int32.ofNat v) (Int32.ofNat c) x (Int32.ofNat c)) (fun z => ∃ Z n', z = .inl (Z, Int32.ofNat (c + 1)) ∧ nlB M Z tbf n' i ∧ nlC Z n' (tbf i) v (c + 1) ∧ nlN Z n' ≤ 521 * i + alw v (c + 1)) := by
    intro S1 n1 x b1 g1 b99 bn bx
    delta mm_lay_0_L173
    refine wq_ix (by omega) (by omega) ?_
    rw [show (Int32.ofNat c).toInt.toNat = c by omega]
    refine wq_let (fun Z eZ => ?_)
    obtain ⟨k1, k2, k3⟩ := nlB_b (Z := Z) b1 (by rw [eZ]; rfl) (fun k hk => by rw [eZ, md_a2, if_neg hk]) (by rw [eZ]; rfl)
    have z99 : Z.2.1 99 = upd (Y.2.1 99) c x := by rw [eZ, md_a2, if_pos rfl, b99]
    refine ⟨_, rfl, Z, n1, by rw [ad_m (by omega)], k1, ⟨fun k hk => ?_, fun k hk1 hk2 => ?_⟩, by rw [k3]; exact bn⟩
    · rw [z99]
      by_cases e : k = c
      · rw [e, upd_s]; exact vr_m k2 _ _ _ bx
      · rw [upd_n e]
        exact vr_m k2 _ _ _ (vr_m g1 _ _ _ (hC.1 k (by omega)))
    · rw [z99, upd_n (by omega)]
      exact vr_m k2 _ _ _ (vr_m g1 _ _ _ (hC.2 k (by omega) hk2))
  have dv : 13 - v = (12 - v) + 1 := by omega
  delta mm_lay_0_b118
  rw [p1, if_pos (by rw [i_lt, tc, tv]; omega), d1, ad_m (by omega)]
  refine wq_ix (by omega) (by omega) ?_
  rw [show (Int32.ofNat (2 * c)).toInt.toNat = 2 * c by omega]
  refine wq_let (fun y ey => ?_)
  refine wq_ix (by omega) (by omega) ?_
  rw [show (Int32.ofNat (2 * c + 1)).toInt.toNat = 2 * c + 1 by omega]
  refine wq_let (fun z ez => ?_)
  rw [← ey] at hy
  rw [← ez] at hzz
  refine wq_if (fun e => ?_) (fun e => ?_)
  · refine put Y n y hB mxG_r rfl (by omega) ?_
    rw [dv]
    exact ⟨y, z, hy, hzz, Or.inl ⟨e, rfl⟩⟩
  · have hB0 := hB
    obtain ⟨hf, hI, hL, hM, hR⟩ := hB
    have hU : mxU Y n := hI.2.2.2.2
    have n24 := hI.1.2
    have nb := mx_n n24 hL hU
    have nb2 : n ≤ 256 + nlN Y n := nb
    have ab := alw_b (v := v) (c := c) hv
    refine wq_call (mx_t (v := Int32.ofNat v) (a := y) (b := z) hI (by omega)) ?_
    rintro ⟨S1, w⟩ ⟨m, ew, hO⟩
    have ew : w = Int32.ofNat m := ew
    have hO : mxO Y S1 n (Int32.ofNat v) y z m := hO
    subst ew
    show dc_wp (mm_lay_0_L173 S1 (Int32.ofNat i) (Int32.ofNat v) (Int32.ofNat c) (Int32.ofNat m) (Int32.ofNat c)) _
    rcases hO with ⟨e1, m1, m2, m3, m4⟩ | ⟨em, no, mi, r1, rr, q1, q2, q3, q5⟩
    · have e1 : S1 = Y := e1
      rw [e1]
      refine put Y n _ hB0 mxG_r rfl (by omega) ?_
      rw [dv]
      exact ⟨y, z, hy, hzz, Or.inr ⟨e, m, m1, rfl, by rw [show 12 - (12 - v) = v by omega]; exact m2, m3, m4⟩⟩
    · subst em
      have g : mxG Y S1 m (m + 1) := ⟨by omega, fun k hk => ⟨by rw [q1, upd_n (by omega)], by rw [q2, upd_n (by omega)], by rw [q3, upd_n (by omega)]⟩⟩
      have nv : vr S1 (m + 1) (tbf i) (13 - v) c (Int32.ofNat m) := by
        rw [dv]
        exact ⟨y, z, vr_m g _ _ _ hy, vr_m g _ _ _ hzz, Or.inr ⟨e, m, by omega, rfl, by rw [q1, upd_s, show 12 - (12 - v) = v by omega], by rw [q2, upd_s], by rw [q3, upd_s]⟩⟩
      refine put S1 (m + 1) _ ⟨⟨fun k hk => by rw [r1 k hk]; exact hf.1 k hk, fun k hk => by rw [rr k (by omega)]; exact hf.2.1 k hk, q5.trans hf.2.2⟩, mi, fun k hk => ?_, fun k hk => ?_, fun j hj => ?_⟩ g (rr 99 (by omega)) ?_ nv
      · by_cases ek : k = m
        · refine ⟨v, hv, by rw [ek, q1, upd_s], ?_, ?_, ?_⟩
          · rw [ek, q2, upd_s]
            exact vl_m g (Nat.le_refl _) (vr_v htb (12 - v) (by omega) _ _ hy)
          · rw [ek, q3, upd_s]
            exact vl_m g (Nat.le_refl _) (vr_v htb (12 - v) (by omega) _ _ hzz)
          · rw [ek, q2, q3, upd_s, upd_s]; exact e
        · obtain ⟨l, l1, l2, l3, l4, l5⟩ := hL k (by omega)
          obtain ⟨g1, g2, g3⟩ := g.2 k (by omega)
          exact ⟨l, l1, by rw [g1]; exact l2, by rw [g2]; exact vl_m g (by omega) l3, by rw [g3]; exact vl_m g (by omega) l4, by rw [g2, g3]; exact l5⟩
      · by_cases ek : k = m
        · refine ⟨i, 12 - v, c, Nat.le_refl _, by omega, by rw [show 12 - (12 - v) = v by omega]; exact hc, by rw [ek, ← dv]; exact nv, by rw [ek, q1, upd_s, show 12 - (12 - v) = v by omega]⟩
        · obtain ⟨j, d, c', a1, a2, a3, a4, a5⟩ := hM k (by omega)
          exact ⟨j, d, c', a1, a2, a3, vr_m g _ _ _ a4, by rw [(g.2 k (by omega)).1]; exact a5⟩
      · rw [rr 100 (by omega)]
        exact vr_m g _ _ _ (hR j hj)
      · have cg : ctP (fun k => ∃ l, l ≤ 9 ∧ S1.2.1 101 k = Int32.ofNat l) m = nlN Y m := ctP_cg m (fun k hk => by
          show (∃ l, l ≤ 9 ∧ S1.2.1 101 k = Int32.ofNat l) ↔ _
          rw [(g.2 k hk).1])
        show ctP (fun k => ∃ l, l ≤ 9 ∧ S1.2.1 101 k = Int32.ofNat l) (m + 1) ≤ _
        by_cases d : v ≤ 9
        · have hp : c < pos v := by
            apply Classical.byContradiction
            intro hp
            exact e (nl_z hz d hc hp hy hzz)
          have yes : ∃ l, l ≤ 9 ∧ S1.2.1 101 m = Int32.ofNat l := ⟨v, d, by rw [q1, upd_s]⟩
          rw [ctP_y (P := fun k => ∃ l, l ≤ 9 ∧ S1.2.1 101 k = Int32.ofNat l) yes, cg]
          have al1 : alw v (c + 1) = alw v c + 1 := by
            unfold alw
            rw [if_pos d, if_pos d, if_pos hp]
            split <;> omega
          omega
        · have nop : ¬ ∃ l, l ≤ 9 ∧ S1.2.1 101 m = Int32.ofNat l := by
            rintro ⟨l, l1, l2⟩
            rw [q1, upd_s] at l2
            have := ofN_j (by omega) (by omega) l2
            omega
          rw [ctP_n (P := fun k => ∃ l, l ≤ 9 ∧ S1.2.1 101 k = Int32.ofNat l) nop, cg]
          omega
end LYR
