/-! lay once more: the reference lays anew, the class keeps its net -/
section LY2
variable {A B : md_S} {a b : Nat} {tA tB : Nat → Nat → Int32}
theorem vr_pw {t c : Nat} (h : c < 2 ^ (13 - (t + 1))) (ht : t + 1 ≤ 13) : 2 * c < 2 ^ (13 - t) ∧ 2 * c + 1 < 2 ^ (13 - t) := by
  rw [show 13 - t = (13 - (t + 1)) + 1 by omega, Nat.pow_succ]
  omega
theorem vl_no (hn : a ≤ 24000) {d m : Nat} (hd : d ≤ 12) (h : vl A a d (Int32.ofNat m)) (hm : m < a) (hl : A.2.1 101 m = Int32.ofNat (12 - d)) : False := by
  have tm : (Int32.ofNat m).toInt = (m : Int) := Int32.toInt_ofNat_of_lt (by omega)
  rcases h with z | z | ⟨k, k1, k2, l, l1, l2, l3⟩
  · have z := i_eq.mp z; rw [tm, il_m1] at z; omega
  · have z := i_eq.mp z; rw [tm, il_m2] at z; omega
  · have e := ofN_j (by omega) (by omega) k2
    rw [← e, hl] at l3
    have := ofN_j (by omega) (by omega) l3
    omega
/-- one way: the same there, the same here -/
theorem vr_e1 (hnA : a ≤ 24000) (hA : ∀ j c, tA j c = -1 ∨ tA j c = -2) (uB : mxU B b) {d : Nat} (hd : d + 1 ≤ 13) {j1 j2 c1 c2 : Nat} {x1 x2 x1' x2' : Int32} (h1 : vr A a (tA j1) (d + 1) c1 x1) (h2 : vr A a (tA j2) (d + 1) c2 x2) (h1' : vr B b (tB j1) (d + 1) c1 x1') (h2' : vr B b (tB j2) (d + 1) c2 x2') (ih : ∀ i1 i2 e1 e2 y1 y2 y1' y2', (i1 = j1 ∨ i1 = j2) → (i2 = j1 ∨ i2 = j2) → e1 < 2 ^ (13 - d) → e2 < 2 ^ (13 - d) → vr A a (tA i1) d e1 y1 → vr A a (tA i2) d e2 y2 → vr B b (tB i1) d e1 y1' → vr B b (tB i2) d e2 y2' → (y1 = y2 ↔ y1' = y2')) (l1 : c1 < 2 ^ (13 - (d + 1))) (l2 : c2 < 2 ^ (13 - (d + 1))) (e : x1 = x2) : x1' = x2' := by
  obtain ⟨p1, p2⟩ := vr_pw l1 hd
  obtain ⟨p3, p4⟩ := vr_pw l2 hd
  obtain ⟨y, z, a1, a2, a3⟩ := h1
  obtain ⟨y', z', b1, b2, b3⟩ := h1'
  obtain ⟨w, v, a4, a5, a6⟩ := h2
  obtain ⟨w', v', b4, b5, b6⟩ := h2'
  have i1 := ih j1 j1 _ _ _ _ _ _ (Or.inl rfl) (Or.inl rfl) p1 p2 a1 a2 b1 b2
  have i2 := ih j2 j2 _ _ _ _ _ _ (Or.inr rfl) (Or.inr rfl) p3 p4 a4 a5 b4 b5
  have i3 := ih j1 j2 _ _ _ _ _ _ (Or.inl rfl) (Or.inr rfl) p1 p3 a1 a4 b1 b4
  have i4 := ih j1 j2 _ _ _ _ _ _ (Or.inl rfl) (Or.inr rfl) p2 p4 a2 a5 b2 b5
  rcases a3 with ⟨g1, g2⟩ | ⟨g1, m, m1, m2, m3, m4, m5⟩
  · have f1 : x1' = y' := b3.elim (fun h => h.2) (fun h => absurd (i1.mp g1) h.1)
    rcases a6 with ⟨g3, g4⟩ | ⟨g3, k, k1, k2, k3, k4, k5⟩
    · have f2 : x2' = w' := b6.elim (fun h => h.2) (fun h => absurd (i2.mp g3) h.1)
      rw [f1, f2]
      exact i3.mp (by rw [← g2, ← g4, e])
    · exact (vl_no hnA (by omega) (by rw [← k2, ← e, g2]; exact vr_v (hA j1) d (by omega) _ _ a1) k1 k3).elim
  · rcases a6 with ⟨g3, g4⟩ | ⟨g3, k, k1, k2, k3, k4, k5⟩
    · exact (vl_no hnA (by omega) (by rw [← m2, e, g4]; exact vr_v (hA j2) d (by omega) _ _ a4) m1 m3).elim
    · have em : m = k := ofN_j (by omega) (by omega) (by rw [← m2, ← k2, e])
      subst em
      have ey := i3.mp (m4.symm.trans k4)
      have ez := i4.mp (m5.symm.trans k5)
      rcases b3 with ⟨q1, -⟩ | ⟨-, m', r1, r2, r3, r4, r5⟩
      · exact absurd (i1.mpr q1) g1
      · rcases b6 with ⟨q1, -⟩ | ⟨-, k', s1, s2, s3, s4, s5⟩
        · exact absurd (i2.mpr q1) g3
        · rw [r2, s2, uB m' k' r1 s1 (r3.trans s3.symm) (by rw [r4, s4, ey]) (by rw [r5, s5, ez])]
/-- the same on one side, the same on the other -/
theorem vr_eq (hnA : a ≤ 24000) (hnB : b ≤ 24000) (uA : mxU A a) (uB : mxU B b) (hA : ∀ j c, tA j c = -1 ∨ tA j c = -2) (hB : ∀ j c, tB j c = -1 ∨ tB j c = -2) (ht : ∀ j c, c < 8192 → tA j c = tB j c) : ∀ d, d ≤ 13 → ∀ j1 j2 c1 c2 x1 x2 x1' x2', c1 < 2 ^ (13 - d) → c2 < 2 ^ (13 - d) → vr A a (tA j1) d c1 x1 → vr A a (tA j2) d c2 x2 → vr B b (tB j1) d c1 x1' → vr B b (tB j2) d c2 x2' → (x1 = x2 ↔ x1' = x2')
  | 0, _, j1, j2, c1, c2, x1, x2, x1', x2', l1, l2, h1, h2, h1', h2' => by
    have e : (2 : Nat) ^ (13 - 0) = 8192 := by decide
    rw [e] at l1 l2
    have g1 : x1 = tA j1 c1 := h1
    have g2 : x2 = tA j2 c2 := h2
    have g3 : x1' = tB j1 c1 := h1'
    have g4 : x2' = tB j2 c2 := h2'
    rw [g1, g2, g3, g4, ht j1 c1 l1, ht j2 c2 l2]
  | d + 1, hd, j1, j2, c1, c2, x1, x2, x1', x2', l1, l2, h1, h2, h1', h2' => by
    have ih := vr_eq hnA hnB uA uB hA hB ht d (by omega)
    exact ⟨vr_e1 hnA hA uB hd h1 h2 h1' h2' (fun i1 i2 e1 e2 y1 y2 y1' y2' _ _ p1 p2 v1 v2 v3 v4 => ih i1 i2 e1 e2 y1 y2 y1' y2' p1 p2 v1 v2 v3 v4) l1 l2, vr_e1 hnB hB uA hd h1' h2' h1 h2 (fun i1 i2 e1 e2 y1 y2 y1' y2' _ _ p1 p2 v1 v2 v3 v4 => (ih i1 i2 e1 e2 y1' y2' y1 y2 p1 p2 v3 v4 v1 v2).symm) l1 l2⟩
end LY2
section LY3
variable {r r' : md_S} {n n' made cap F : Nat} {q : rsT} {ph ph' : Nat → Nat}
theorem tbv_2 (M : md_S) (j c : Nat) : tbv M j c = -1 ∨ tbv M j c = -2 := by
  unfold tbv
  split
  · exact Or.inl rfl
  · exact Or.inr rfl
/-- those of the new numbering -/
def rnBk (r r' : md_S) (n n' made F : Nat) (ph ph' : Nat → Nat) : Prop := ∀ k, 2 ≤ k → k < made → ph' k < n' ∧ ∃ j d c, j < F ∧ d ≤ 12 ∧ c < 2 ^ (12 - d) ∧ vr r n (tbv r j) (d + 1) c (Int32.ofNat (ph k)) ∧ r.2.1 101 (ph k) = Int32.ofNat (12 - d) ∧ vr r' n' (tbv r' j) (d + 1) c (Int32.ofNat (ph' k)) ∧ r'.2.1 101 (ph' k) = Int32.ofNat (12 - d)
theorem rnBk_x (hL : LYn r n F) (hL' : LYn r' n' F) (ht : ∀ j c, c < 8192 → tbv r j c = tbv r' j c) (hI : ncI q r n made ph cap) : ∃ ph', rnBk r r' n n' made F ph ph' := by
  have ex : ∀ k, ∃ m', 2 ≤ k → k < made → m' < n' ∧ ∃ j d c, j < F ∧ d ≤ 12 ∧ c < 2 ^ (12 - d) ∧ vr r n (tbv r j) (d + 1) c (Int32.ofNat (ph k)) ∧ r.2.1 101 (ph k) = Int32.ofNat (12 - d) ∧ vr r' n' (tbv r' j) (d + 1) c (Int32.ofNat m') ∧ r'.2.1 101 m' = Int32.ofNat (12 - d) := by
    intro k
    by_cases hk : 2 ≤ k ∧ k < made
    · have p1 := (hI.2.1 k hk.1 hk.2).1
      obtain ⟨j, d, c, j1, d1, c1, v1, v2⟩ := hL.2.2.1 (ph k) p1
      obtain ⟨x', hx'⟩ := vr_all (hL'.2.2.2 j j1) (12 - d) (by omega) c c1
      rw [show 13 - (12 - d) = d + 1 by omega] at hx'
      have hx0 := hx'
      have v0 := v1
      obtain ⟨y, z, a1, a2, a3⟩ := v1
      obtain ⟨y', z', b1, b2, b3⟩ := hx'
      have cc : c < 2 ^ (13 - (d + 1)) := by rw [show 13 - (d + 1) = 12 - d by omega]; exact c1
      obtain ⟨q1, q2⟩ := vr_pw cc (by omega)
      have i1 := vr_eq hL.1.2 hL'.1.2 hL.2.1.1 hL'.2.1.1 (tbv_2 r) (tbv_2 r') ht d (by omega) j j _ _ _ _ _ _ q1 q2 a1 a2 b1 b2
      have ne : ¬ y = z := by
        rcases a3 with ⟨g1, g2⟩ | ⟨g1, -⟩
        · exact (vl_no hL.1.2 d1 (by rw [g2]; exact vr_v (tbv_2 r j) d (by omega) _ _ a1) p1 v2).elim
        · exact g1
      rcases b3 with ⟨g1, -⟩ | ⟨-, m', m1, m2, m3, -⟩
      · exact absurd (i1.mpr g1) ne
      · exact ⟨m', fun _ _ => ⟨m1, j, d, c, j1, d1, c1, v0, v2, by rw [← m2]; exact hx0, m3⟩⟩
    · exact ⟨0, fun h1 h2 => absurd ⟨h1, h2⟩ hk⟩
  exact Classical.axiomOfChoice ex
theorem nvC_2 {k : Nat} (h : 2 ≤ k) : nvC ph k = Int32.ofNat (ph k) := by
  unfold nvC
  rw [if_neg (by omega), if_neg (by omega)]
/-- what stands for a block stands for it anew -/
theorem rn_v (hL : LYn r n F) (hL' : LYn r' n' F) (ht : ∀ j c, c < 8192 → tbv r j c = tbv r' j c) (hI : ncI q r n made ph cap) (hB : rnBk r r' n n' made F ph ph') {j : Nat} (hj : j < F) : ∀ d, d ≤ 13 → ∀ c, c < 2 ^ (13 - d) → ∀ k, k < made → vr r n (tbv r j) d c (nvC ph k) → vr r' n' (tbv r' j) d c (nvC ph' k)
  | 0, _, c, hc, k, hk, h => by
    have e : (2 : Nat) ^ (13 - 0) = 8192 := by decide
    rw [e] at hc
    have h : nvC ph k = tbv r j c := h
    show nvC ph' k = tbv r' j c
    rw [← ht j c hc, ← h]
    by_cases c0 : k = 0
    · rw [c0]; rfl
    · by_cases c1 : k = 1
      · rw [c1]; rfl
      · exfalso
        have n24 := hL.1.2
        have p1 := (hI.2.1 k (by omega) hk).1
        rw [nvC_2 (by omega)] at h
        have tm : (Int32.ofNat (ph k)).toInt = (ph k : Int) := Int32.toInt_ofNat_of_lt (by omega)
        rcases tbv_2 r j c with z | z
        · rw [z] at h; have h := i_eq.mp h; rw [tm, il_m1] at h; omega
        · rw [z] at h; have h := i_eq.mp h; rw [tm, il_m2] at h; omega
  | d + 1, hd, c, hc, k, hk, h => by
    obtain ⟨p1, p2⟩ := vr_pw hc hd
    have h0 := h
    obtain ⟨y, z, a1, a2, a3⟩ := h
    have n24 := hL.1.2
    rcases a3 with ⟨g1, g2⟩ | ⟨g1, m, m1, m2, m3, m4, m5⟩
    · have b1 := rn_v hL hL' ht hI hB hj d (by omega) _ p1 k hk (by rw [g2]; exact a1)
      have b2 := rn_v hL hL' ht hI hB hj d (by omega) _ p2 k hk (by rw [g2, g1]; exact a2)
      exact ⟨_, _, b1, b2, Or.inl ⟨rfl, rfl⟩⟩
    · obtain ⟨k2, ek⟩ := nvC_n hI n24 hk m1 m2.symm
      obtain ⟨q1, j', d', c', j1, d1, c1, v1, v2, v3, v4⟩ := hB k k2 hk
      rw [ek, m3] at v2
      have ed := ofN_j (by omega) (by omega) v2
      have ed : d' = d := by omega
      subst ed
      rw [nvC_2 k2]
      rw [nvC_2 k2] at h0
      obtain ⟨x', hx'⟩ := vr_all (hL'.2.2.2 j hj) (12 - d') (by omega) c (by rw [show 12 - d' = 13 - (d' + 1) by omega]; exact hc)
      rw [show 13 - (12 - d') = d' + 1 by omega] at hx'
      have e := (vr_eq n24 hL'.1.2 hL.2.1.1 hL'.2.1.1 (tbv_2 r) (tbv_2 r') ht (d' + 1) hd j j' c c' _ _ _ _ hc (by rw [show 13 - (d' + 1) = 12 - d' by omega]; exact c1) h0 v1 hx' v3).mp rfl
      rw [← e]
      exact hx'
/-- the class's net beside the reference's new one -/
theorem rn_w (hL : LYn r n F) (hL' : LYn r' n' F) (ht : ∀ j c, c < 8192 → tbv r j c = tbv r' j c) (hI : ncI q r n made ph cap) (hR : ntR q r n made ph F) : ∃ ph', ncI q r' n' made ph' cap ∧ ntR q r' n' made ph' F := by
  obtain ⟨ph', hB⟩ := rnBk_x hL hL' ht hI
  have n24 := hL.1.2
  have n24' := hL'.1.2
  refine ⟨ph', ⟨hI.1, fun k k2 km => ?_, fun k k' k2 km k2' km' e => ?_, hI.2.2.2⟩, fun j hj => ?_⟩
  · obtain ⟨p1, l, x, z, l1, l2, l3, l4, l5, l6, l7, l8, l9⟩ := hI.2.1 k k2 km
    obtain ⟨q1, j, d, c, j1, d1, c1, v1, v2, v3, v4⟩ := hB k k2 km
    have el : l = 12 - d := ofN_j (by omega) (by omega) (l5.symm.trans v2)
    have cc : c < 2 ^ (13 - (d + 1)) := by rw [show 13 - (d + 1) = 12 - d by omega]; exact c1
    obtain ⟨w1, w2⟩ := vr_pw cc (by omega)
    obtain ⟨y, y2, a1, a2, a3⟩ := v1
    obtain ⟨y', y2', b1, b2, b3⟩ := v3
    have fA : r.2.1 102 (ph k) = y ∧ r.2.1 103 (ph k) = y2 := by
      rcases a3 with ⟨g1, g2⟩ | ⟨g1, m, m1, m2, m3, m4, m5⟩
      · exact (vl_no n24 d1 (by rw [g2]; exact vr_v (tbv_2 r j) d (by omega) _ _ a1) p1 v2).elim
      · rw [ofN_j (by omega) (by omega) m2]; exact ⟨m4, m5⟩
    have fB : r'.2.1 102 (ph' k) = y' ∧ r'.2.1 103 (ph' k) = y2' := by
      rcases b3 with ⟨g1, g2⟩ | ⟨g1, m, m1, m2, m3, m4, m5⟩
      · exact (vl_no n24' d1 (by rw [g2]; exact vr_v (tbv_2 r' j) d (by omega) _ _ b1) q1 v4).elim
      · rw [ofN_j (by omega) (by omega) m2]; exact ⟨m4, m5⟩
    have r1 := rn_v hL hL' ht hI hB j1 d (by omega) _ w1 x (by omega) (by rw [← l7, fA.1]; exact a1)
    have r2 := rn_v hL hL' ht hI hB j1 d (by omega) _ w2 z (by omega) (by rw [← l9, fA.2]; exact a2)
    refine ⟨q1, l, x, z, l1, l2, l3, l4, by rw [el]; exact v4, l6, ?_, l8, ?_⟩
    · rw [fB.1]; exact vr_u hL'.2.1.1 _ _ _ _ b1 r1
    · rw [fB.2]; exact vr_u hL'.2.1.1 _ _ _ _ b2 r2
  · obtain ⟨q1, j, d, c, j1, d1, c1, v1, v2, v3, v4⟩ := hB k k2 km
    obtain ⟨q1', j', d', c', j1', d1', c1', v1', v2', v3', v4'⟩ := hB k' k2' km'
    rw [← e, v4] at v4'
    have ed := ofN_j (by omega) (by omega) v4'
    have ed : d' = d := by omega
    subst ed
    rw [← e] at v3'
    have cc : 12 - d' = 13 - (d' + 1) := by omega
    rw [cc] at c1 c1'
    have eq := (vr_eq n24 n24' hL.2.1.1 hL'.2.1.1 (tbv_2 r) (tbv_2 r') ht (d' + 1) (by omega) j j' c c' _ _ _ _ c1 c1' v1 v1' v3 v3').mpr rfl
    have p1 := (hI.2.1 k k2 km).1
    have p2 := (hI.2.1 k' k2' km').1
    exact hI.2.2.1 k k' k2 km k2' km' (ofN_j (by omega) (by omega) eq)
  · obtain ⟨k, k1, k2, k3⟩ := hR j hj
    exact ⟨k, k1, k2, rn_v hL hL' ht hI hB hj 13 (by omega) 0 (by decide) k k1 k3⟩
end LY3
section LY4
variable {G : hg_E} {S : hg_S} {M : md_S} {oN n cap cnt ins out pa : Nat} {bN : Nat → Nat} {q : rsT} {o t : Nat} {nn f st en rn : Int32} {ta rc hd sh pg : Value}
/-- lay of what was laid -/
theorem ntl_2 (he : hg_at S.1 o = some (.inr (0, enL t nn f pg rc hd sh st en rn ta (.ref oN) 1 1))) (h : NLa G S M oN bN cap q n (out + pa + 1)) (hL : LYn M n (out + pa + 1)) (hT : ∀ c, c < 8192 → tbC M cnt ins out pa c (M.2.2.2 c)) (hH : tbH M cnt ins out pa) (h85 : M.1 85 = 1) {r : md_S × Int32} (hq : mm_lay_0 M = some r) : r.2 = Int32.ofNat n ∧ LYo M r.1 cnt ins out pa n ∧ NLa G S r.1 oN bN cap q n (out + pa + 1) ∧ dc_wp (hm_SE_lay G S o) (fun z => z = .inl (S, r.2)) := by
  obtain ⟨r0, er0, n', enn, hL'⟩ := lay_t hH h85
  have err : r0 = r := Option.some.inj (er0.symm.trans hq)
  subst err
  obtain ⟨⟨hv, hinj⟩, h2, h3, h4, made, ph, hI, hR⟩ := h
  have ht : ∀ j c, c < 8192 → tbv M j c = tbv r0.1 j c := fun j c hc => by
    have e1 := hT c hc j
    have e2 := hL'.2.2.2.2.2 c hc j
    unfold tbv
    by_cases x : g64 (M.2.2.2 c) j = true
    · rw [if_pos x, if_pos (e2.mpr (e1.mp x))]
    · rw [if_neg x, if_neg (fun y => x (e1.mpr (e2.mp y)))]
  obtain ⟨ph', hI', hR'⟩ := rn_w hL (LYo_n hL') ht hI hR
  have c1 := cnt_w hL hI hR
  have c2 := cnt_w (LYo_n hL') hI' hR'
  have en2 : n' = n := by omega
  subst en2
  refine ⟨enn, hL', ⟨⟨hv, hinj⟩, h2, h3, h4, made, ph', hI', hR'⟩, ?_⟩
  delta hm_SE_lay hm_SE_lay_L60
  refine wq_gi (x := 1) he rfl ?_
  rw [if_neg (by decide)]
  refine wq_gi (x := 1) he rfl ?_
  rw [if_neg (by decide)]
  refine wq_gr (x := some oN) he rfl ?_
  refine wq_chk hv.1 ?_
  have m2 : Int32.ofNat made - 2 = Int32.ofNat n' := by
    rw [c1, Int32.ofNat_add]
    exact Int32.add_sub_cancel _ _
  have e9 : q.2 9 = Int32.ofNat made := hI.1.1
  refine wq_call (P := fun v => v = Int32.ofNat n') ?_ (fun v ev => ⟨_, rfl, by rw [ev, enn]⟩)
  delta hm_NT_multiplexers
  refine wq_gi (x := q.2 9) hv.1 rfl ?_
  exact ⟨_, rfl, by rw [e9, m2]⟩
end LY4
