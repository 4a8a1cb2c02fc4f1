/-! the class's net beside the reference's, once laid -/
/-- the reference's multiplexers -/
def LYn (r : md_S) (n F : Nat) : Prop := (r.1 106 = Int32.ofNat n ∧ n ≤ 24000) ∧ (mxU r n ∧ mxL r n) ∧ nlM r (tbv r) n F ∧ ∀ j, j < F → vr r n (tbv r j) 13 0 (r.2.1 100 j)
/-- the class's net in its heap, each multiplexer beside one of the reference -/
def NLa (G : hg_E) (S : hg_S) (r : md_S) (oN : Nat) (bN : Nat → Nat) (cap : Nat) (q : rsT) (n F : Nat) : Prop :=
  (NTv G S oN bN cap q.1 q.2 ∧ ∀ i j, i < 9 → j < 9 → bN i = bN j → i = j) ∧ ((∃ x, cap = 256 * 2 ^ x) ∧ cap ≤ 32768) ∧ (q.2 13 = Int32.ofNat F ∧ F ≤ 40) ∧ (∃ L, q.2 14 = Int32.ofNat L ∧ L ≤ 100000 ∧ ∀ k, k < cap → 0 ≤ (q.1 8 k).toInt ∧ (q.1 8 k).toInt ≤ (L : Int)) ∧ ∃ made ph, ncI (fX q 8 (fun _ => 0)) r n made ph cap ∧ ntR q r n made ph F
section NLA
variable {r : md_S} {q : rsT} {n F made cap : Nat} {ph : Nat → Nat}
/-- what stands for a block was made by the class -/
theorem im_w (hL : LYn r n F) (hI : ncI q r n made ph cap) (hR : ntR q r n made ph F) {j : Nat} (hj : j < F) : ∀ t, t ≤ 13 → ∀ c, c < 2 ^ t → ∀ y, vr r n (tbv r j) (13 - t) c y → ∃ k, k < made ∧ y = nvC ph k
  | 0, _, c, hc, y, hy => by
    have e0 : 2 ^ 0 = 1 := rfl
    have : c = 0 := by omega
    subst this
    obtain ⟨k, k1, k2, k3⟩ := hR j hj
    exact ⟨k, k1, vr_u hL.2.1.1 _ _ _ _ hy k3⟩
  | t + 1, ht, c, hc, y, hy => by
    have e : 2 ^ (t + 1) = 2 * 2 ^ t := by rw [Nat.pow_succ]; omega
    obtain ⟨x, hx⟩ := vr_all (hL.2.2.2 j hj) t (by omega) (c / 2) (by omega)
    obtain ⟨k, k1, k2⟩ := im_w hL hI hR hj t (by omega) (c / 2) (by omega) x hx
    rw [show 13 - t = (13 - (t + 1)) + 1 by omega] at hx
    obtain ⟨u, v, h1, h2, h3⟩ := hx
    have ch : (y = u ∧ c = 2 * (c / 2)) ∨ (y = v ∧ c = 2 * (c / 2) + 1) := by
      by_cases c2 : c % 2 = 0
      · left
        have e2 : 2 * (c / 2) = c := by omega
        rw [e2] at h1
        exact ⟨vr_u hL.2.1.1 _ _ _ _ hy h1, e2.symm⟩
      · right
        have e2 : 2 * (c / 2) + 1 = c := by omega
        rw [e2] at h2
        exact ⟨vr_u hL.2.1.1 _ _ _ _ hy h2, e2.symm⟩
    rcases h3 with ⟨e1, e2⟩ | ⟨-, m, m1, m2, m3, m4, m5⟩
    · refine ⟨k, k1, ?_⟩
      rw [← k2, e2]
      rcases ch with ⟨ch, -⟩ | ⟨ch, -⟩
      · exact ch
      · rw [ch, e1]
    · have kk : 2 ≤ k ∧ ph k = m := by
        have n24 := hL.1.2
        have tm : (Int32.ofNat m).toInt = (m : Int) := Int32.toInt_ofNat_of_lt (by omega)
        rw [m2] at k2
        have k2 := i_eq.mp k2
        rw [tm] at k2
        unfold nvC at k2
        by_cases c0 : k = 0
        · rw [if_pos c0, il_m2] at k2; omega
        · rw [if_neg c0] at k2
          by_cases c1 : k = 1
          · rw [if_pos c1, il_m1] at k2; omega
          · rw [if_neg c1, Int32.toInt_ofNat_of_lt (by have := (hI.2.1 k (by omega) k1).1; omega)] at k2
            exact ⟨by omega, by omega⟩
      obtain ⟨p1, l, a, b, l1, l2, l3, l4, l5, l6, l7, l8, l9⟩ := hI.2.1 k kk.1 k1
      rw [kk.2] at l7 l9
      rcases ch with ⟨ch, -⟩ | ⟨ch, -⟩
      · exact ⟨a, by omega, by rw [ch, ← m4, l7]⟩
      · exact ⟨b, by omega, by rw [ch, ← m5, l9]⟩
theorem nvC_n {k m : Nat} (hI : ncI q r n made ph cap) (hn : n ≤ 24000) (hk : k < made) (hm : m < n) (e : Int32.ofNat m = nvC ph k) : 2 ≤ k ∧ ph k = m := by
  have tm : (Int32.ofNat m).toInt = (m : Int) := Int32.toInt_ofNat_of_lt (by omega)
  have k2 := i_eq.mp e
  rw [tm] at k2
  unfold nvC at k2
  by_cases c0 : k = 0
  · rw [if_pos c0, il_m2] at k2; omega
  · rw [if_neg c0] at k2
    by_cases c1 : k = 1
    · rw [if_pos c1, il_m1] at k2; omega
    · rw [if_neg c1, Int32.toInt_ofNat_of_lt (by have := (hI.2.1 k (by omega) hk).1; omega)] at k2
      exact ⟨by omega, by omega⟩
theorem sur_w (hL : LYn r n F) (hI : ncI q r n made ph cap) (hR : ntR q r n made ph F) : ∃ g : Nat → Nat, ∀ m, m < n → 2 ≤ g m ∧ g m < made ∧ ph (g m) = m := by
  have ex : ∀ m, ∃ k, m < n → 2 ≤ k ∧ k < made ∧ ph k = m := by
    intro m
    by_cases hm : m < n
    · obtain ⟨j, d, c, j1, d1, c1, v1, -⟩ := hL.2.2.1 m hm
      have e : d + 1 = 13 - (12 - d) := by omega
      rw [e] at v1
      obtain ⟨k, k1, k2⟩ := im_w hL hI hR j1 (12 - d) (by omega) c c1 _ v1
      obtain ⟨a1, a2⟩ := nvC_n hI hL.1.2 k1 hm k2
      exact ⟨k, fun _ => ⟨a1, k1, a2⟩⟩
    · exact ⟨0, fun z => absurd z hm⟩
  exact Classical.axiomOfChoice ex
/-- how many: the same on both sides; of each level too -/
theorem cnt_w (hL : LYn r n F) (hI : ncI q r n made ph cap) (hR : ntR q r n made ph F) : made = n + 2 := by
  obtain ⟨g, hg⟩ := sur_w hL hI hR
  have h1 := nc_le hI
  have h2 := ctP_inj (P := fun _ => True) (f := g) (m := made) n (fun k => 2 ≤ k) (fun k hk _ => ⟨(hg k hk).2.1, (hg k hk).1⟩) (fun i j hi hj _ _ e => by rw [← (hg i hi).2.2, ← (hg j hj).2.2, e])
  rw [ct_2, ctP_all n (fun _ _ => trivial)] at h2
  have := hI.1.2.1
  omega
theorem lev_w (hL : LYn r n F) (hI : ncI q r n made ph cap) (hR : ntR q r n made ph F) {l : Nat} (hl : l ≤ 12) : ctP (fun k => 2 ≤ k ∧ q.1 4 k = Int32.ofNat (12 - l)) made = ctP (fun m => r.2.1 101 m = Int32.ofNat l) n := by
  obtain ⟨g, hg⟩ := sur_w hL hI hR
  refine Nat.le_antisymm ?_ ?_
  · refine ctP_inj (f := ph) made _ (fun k hk hP => ?_) (fun i j hi hj hP hQ e => hI.2.2.1 i j hP.1 hi hQ.1 hj e)
    obtain ⟨p1, l', a, b, l1, l2, l3, l4, l5, -⟩ := hI.2.1 k hP.1 hk
    rw [hP.2] at l4
    have := ofN_j (by omega) (by omega) l4
    exact ⟨p1, by rw [l5, show l' = l by omega]⟩
  · refine ctP_inj (f := g) n _ (fun m hm hP => ?_) (fun i j hi hj _ _ e => by rw [← (hg i hi).2.2, ← (hg j hj).2.2, e])
    obtain ⟨g1, g2, g3⟩ := hg m hm
    refine ⟨g2, g1, ?_⟩
    obtain ⟨p1, l', a, b, l1, l2, l3, l4, l5, -⟩ := hI.2.1 (g m) g1 g2
    rw [g3] at l5
    have hP : r.2.1 101 m = Int32.ofNat l := hP
    rw [hP] at l5
    have := ofN_j (by omega) (by omega) l5
    rw [l4, this]
end NLA
section NLC
variable {G : hg_E} {S : hg_S} {M : md_S} {oN n F cap : Nat} {bN : Nat → Nat} {q : rsT} {o t u : Nat} {nn f st en rn ex p1 : Int32} {ta rc hd sh pg : Value}
/-- level -/
theorem xl_level (he : hg_at S.1 o = some (.inr (0, enL t nn f pg rc hd sh st en rn ta (.ref oN) ex 1))) (h : NLa G S M oN bN cap q n F) (hL : LYn M n F) (h86 : M.1 86 = 1) {r : md_S × Int32} (hq : mm_level M p1 = some r) : r.1 = md_i M 0 0 ∧ dc_wp (hm_SE_level G S o p1) (fun v => v = r.2) := by
  obtain ⟨⟨hv, hinj⟩, -, -, -, made, ph, hI, hR⟩ := h
  have hR' : ntR (fX q 8 (fun _ => 0)) M n made ph F := hR
  have n24 := hL.1.2
  have mi : ∀ i, ¬ i = 0 → (md_i M 0 0).1 i = M.1 i := fun i hi => by rw [md_i1, if_neg hi]
  have tn : (Int32.ofNat n).toInt = (n : Int) := Int32.toInt_ofNat_of_lt (by omega)
  have e106 : (md_i M 0 0).1 106 = Int32.ofNat n := by rw [mi 106 (by decide)]; exact hL.1.1
  have e86 : ¬ (md_i M 0 0).1 86 = 0 := by rw [mi 86 (by decide), h86]; decide
  have key : dc_pw (mm_level M p1) (fun r => r = (md_i M 0 0, Int32.ofNat (ctP (fun m => M.2.1 101 m = p1) n))) := by
    delta mm_level mm_level_L9
    refine pw_loop (fun (y : Int32 × Int32) => ∃ k, y.2 = Int32.ofNat k ∧ k ≤ n ∧ y.1 = Int32.ofNat (ctP (fun m => M.2.1 101 m = p1) k)) (fun v => v = Int32.ofNat (ctP (fun m => M.2.1 101 m = p1) n)) ⟨0, rfl, by omega, rfl⟩ ?_ (fun z hz => by
      have hz : z = Int32.ofNat (ctP (fun m => M.2.1 101 m = p1) n) := hz
      rw [hz]
      exact pw_some rfl)
    rintro ⟨y1, y2⟩ ⟨k, e1, k1, e2⟩
    have e1 : y2 = Int32.ofNat k := e1
    have e2 : y1 = Int32.ofNat (ctP (fun m => M.2.1 101 m = p1) k) := e2
    have tk : (Int32.ofNat k).toInt = (k : Int) := Int32.toInt_ofNat_of_lt (by omega)
    have cl := ctP_le (P := fun m => M.2.1 101 m = p1) k
    show dc_pw (mm_level_b9 (md_i M 0 0) p1 y1 y2) _
    rw [e1, e2]
    delta mm_level_b9
    rw [e106]
    refine pw_ifc (fun c => ?_) (fun c => ?_)
    · have c := i_lt.mp c
      rw [tk, tn] at c
      rw [if_neg e86]
      refine pw_ix (fun _ _ => ?_)
      rw [show (Int32.ofNat k).toInt.toNat = k by omega]
      delta mm_level_L40
      refine pw_ifc (fun d => ?_) (fun d => ?_)
      · have d : M.2.1 101 k = p1 := d
        refine pw_some ⟨k + 1, ad_m (by omega), by omega, ?_⟩
        show _ + 1 = _
        rw [ctP_y (P := fun m => M.2.1 101 m = p1) d, ad_m (by omega)]
      · have d : ¬ M.2.1 101 k = p1 := d
        refine pw_some ⟨k + 1, ad_m (by omega), by omega, ?_⟩
        show _ + 0 = _
        rw [ctP_n (P := fun m => M.2.1 101 m = p1) d, Int32.add_zero]
    · have c : ¬ (Int32.ofNat k).toInt < (Int32.ofNat n).toInt := fun z => c (i_lt.mpr z)
      rw [tk, tn] at c
      have ek : k = n := by omega
      rw [ek]
      exact pw_some rfl
  have er := key r hq
  refine ⟨by rw [er], ?_⟩
  rw [er]
  have zero : (∀ l, l ≤ 12 → ¬ p1 = Int32.ofNat l) → Int32.ofNat (ctP (fun m => M.2.1 101 m = p1) n) = 0 := by
    intro hz
    have e0 : ∀ k, k ≤ n → ctP (fun m => M.2.1 101 m = p1) k = 0 := by
      intro k
      induction k with
      | zero => exact fun _ => rfl
      | succ k ih =>
        intro hk
        have no : ¬ M.2.1 101 k = p1 := fun z => by
          obtain ⟨l, l1, l2, -⟩ := hL.2.1.2 k (by omega)
          exact hz l l1 (by rw [← z, l2])
        have e := ctP_n (P := fun m => M.2.1 101 m = p1) no
        rw [e, ih (by omega)]
    rw [e0 n (Nat.le_refl _)]
    rfl
  delta hm_SE_level hm_SE_level_L32 hm_SE_level_L33
  refine wq_gi (x := 1) he rfl ?_
  rw [if_neg (by decide)]
  refine wq_if (fun a => ⟨_, rfl, (zero (fun l hl z => ?_)).symm⟩) (fun a => ?_)
  · have a := i_lt.mp a
    rw [z, Int32.toInt_ofNat_of_lt (by omega), il_0] at a
    omega
  · have a : ¬ p1.toInt < (0 : Int32).toInt := fun z => a (i_lt.mpr z)
    rw [il_0] at a
    refine wq_if (fun b => ?_) (fun b => ⟨_, rfl, (zero (fun l hl z => b (by rw [z, i_lt, Int32.toInt_ofNat_of_lt (by omega), il_13]; omega))).symm⟩)
    have b := i_lt.mp b
    rw [il_13] at b
    obtain ⟨l, el, l12⟩ : ∃ l, p1 = Int32.ofNat l ∧ l ≤ 12 := ⟨p1.toInt.toNat, (ofN_t (by omega) (by omega)).symm, by omega⟩
    refine wq_gr (x := some oN) he rfl ?_
    refine wq_gr (x := some (bN 2)) hv.1 rfl ?_
    have e12 : (12 : Int32) - p1 = Int32.ofNat (12 - l) := by
      rw [el]
      have : ∀ l, l ≤ 12 → (12 : Int32) - Int32.ofNat l = Int32.ofNat (12 - l) := by decide +kernel
      exact this l l12
    rw [e12]
    have t12 : (Int32.ofNat (12 - l)).toInt = ((12 - l : Nat) : Int) := Int32.toInt_ofNat_of_lt (by omega)
    refine wq_ld (hv.2 2 (by omega)) (by omega) (by show (Int32.ofNat (12 - l)).toInt < ((13 : Nat) : Int); omega) ?_
    rw [show (Int32.ofNat (12 - l)).toInt.toNat = 12 - l by omega]
    refine ⟨_, rfl, ?_⟩
    have h9 := hI.2.2.2.2.1 (12 - l) (by omega)
    have e2 : (fX q 8 (fun _ => 0)).1 2 = q.1 2 := fX_n (by omega)
    rw [e2] at h9
    rw [h9, lev_w hL hI hR' l12, el]
/-- count 15 -/
theorem ct_15l (he : hg_at S.1 o = some (.inr (0, enL t nn f (.ref u) rc hd sh st en rn ta (.ref oN) ex 1))) (h : NLa G S M oN bN cap q n F) (hL : LYn M n F) (h86 : M.1 86 = 1) {r : md_S × Int32} (hq : mm_count M 15 = some r) : r.1 = md_i M 0 0 ∧ dc_wp (hm_SE_count G S o 15) (fun v => v = r.2) := by
  obtain ⟨⟨hv, hinj⟩, -, -, -, made, ph, hI, hR⟩ := h
  have hR' : ntR (fX q 8 (fun _ => 0)) M n made ph F := hR
  have mi : ∀ i, ¬ i = 0 → (md_i M 0 0).1 i = M.1 i := fun i hi => by rw [md_i1, if_neg hi]
  delta mm_count dc_let at hq
  dsimp only at hq
  rw [if_neg (by decide), if_neg (by decide), if_neg (by decide), if_neg (by decide), if_neg (by decide), if_neg (by decide), if_neg (by decide), if_neg (by decide), if_neg (by decide), if_neg (by decide), if_neg (by decide), if_neg (by decide), if_neg (by decide), if_neg (by decide), if_neg (by decide), if_pos rfl, if_neg (by rw [mi 86 (by decide), h86]; decide), mi 106 (by decide), hL.1.1] at hq
  have er : r = (md_i M 0 0, Int32.ofNat n) := (Option.some.inj hq).symm
  refine ⟨by rw [er], ?_⟩
  delta hm_SE_count
  rw [if_neg (by decide), if_neg (by decide), if_neg (by decide)]
  refine wq_gr (x := some u) he rfl ?_
  rw [if_neg (fun z => by cases z), if_neg (by decide)]
  refine wq_chk he ?_
  refine wq_call (P := fun v => v = r.2) ?_ (fun v hv => ⟨_, rfl, hv⟩)
  delta hm_SE_figure
  refine wq_let (fun v ev => ?_)
  subst ev
  rw [if_neg (by decide), if_neg (by decide), if_neg (by decide), if_neg (by decide), if_neg (by decide)]
  refine wq_gi (x := 1) he rfl ?_
  rw [if_neg (by decide)]
  refine wq_gr (x := some oN) he rfl ?_
  refine wq_chk hv.1 ?_
  delta hm_NT_multiplexers
  have e9 : q.2 9 = Int32.ofNat made := hI.1.1
  have en := cnt_w hL hI hR'
  have m2 : Int32.ofNat made - 2 = Int32.ofNat n := by
    rw [en, Int32.ofNat_add]
    exact Int32.add_sub_cancel _ _
  refine wq_call (P := fun v => v = Int32.ofNat n) ?_ (fun v hv => ⟨_, rfl, by rw [hv, er]⟩)
  refine wq_gi (x := q.2 9) hv.1 rfl ?_
  exact ⟨_, rfl, by rw [e9, m2]⟩
end NLC
