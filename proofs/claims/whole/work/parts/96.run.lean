/-! an instant of the reference is safe -/
def sb_RW (S : md_S) : Prop := (∀ i : Nat, i < 400 → 0 ≤ (S.2.1 73 i).toInt ∧ (S.2.1 73 i).toInt < 1662) ∧ (∀ i : Nat, i < 1662 → S.2.1 71 i = 0 ∨ S.2.1 71 i = 1)
def sb_RV (S : md_S) : Prop := sb_PF S ∧ sb_RW S ∧ ∀ i : Nat, i < 200 → S.2.1 74 i = 0 ∨ S.2.1 74 i = 1
def sb_ND (S : md_S) (k h : Nat) (w : Int) : Prop := ∃ n t c, sb_L S n h w t k c ∧ ((k + c : Nat) : Int) ≤ (S.1 42).toInt
/-- fields of the program are as they were -/
def sb_PE (S q : md_S) : Prop := (∀ k, k ∈ [42, 43, 44, 45, 46, 47, 50] → q.1 k = S.1 k) ∧ ∀ k, k ∈ [51, 52, 53, 54, 57, 58, 59, 60, 61, 62, 63, 64, 65, 66, 69] → q.2.1 k = S.2.1 k
theorem sb_PE_fr {wi wa : List Nat} {bw bt : Bool} {S q : md_S} (h : md_fr wi wa bw bt S q) (h1 : wi.all (fun k => !([42, 43, 44, 45, 46, 47, 50] : List Nat).contains k) = true) (h2 : wa.all (fun k => !([51, 52, 53, 54, 57, 58, 59, 60, 61, 62, 63, 64, 65, 66, 69] : List Nat).contains k) = true) : sb_PE S q := by
  simp only [List.all_eq_true, Bool.not_eq_true', ← Bool.not_eq_true, List.contains_iff_mem] at h1 h2
  exact ⟨fun k hk => h.1 k (fun hw => h1 k hw hk), fun k hk => h.2.1 k (fun hw => h2 k hw hk)⟩
theorem sb_PE_L {S q : md_S} (e : sb_PE S q) {n h : Nat} {w : Int} {t : Int32} {k c : Nat} (l : sb_L S n h w t k c) : sb_L q n h w t k c := by
  refine sb_L_eq (by rw [e.1 47 (by decide)]; exact Int.le_refl _) (fun x hx => ?_) n (fun j _ _ => ?_) l
  · unfold sb_PR at *; rw [e.1 43 (by decide), e.2 66 (by decide)]; exact hx
  · rw [e.2 51 (by decide), e.2 52 (by decide), e.2 53 (by decide), e.2 54 (by decide), e.2 57 (by decide), e.2 58 (by decide), e.2 60 (by decide)]
    exact ⟨⟨rfl, rfl, rfl, rfl, rfl⟩, fun _ => rfl, fun _ _ => rfl⟩
theorem sb_PE_ND {S q : md_S} (e : sb_PE S q) {k h : Nat} {w : Int} (l : sb_ND S k h w) : sb_ND q k h w := by
  obtain ⟨n, t, c, l, b⟩ := l
  exact ⟨n, t, c, sb_PE_L e l, by rw [e.1 42 (by decide)]; exact b⟩
theorem sb_PE_PF {S q : md_S} (e : sb_PE S q) (p : sb_PF S) : sb_PF q := by
  obtain ⟨p1, ⟨n, p2⟩, p3, p4, p5, p6, p7⟩ := p
  unfold sb_PF
  rw [e.1 42 (by decide), e.1 43 (by decide), e.1 44 (by decide), e.1 45 (by decide), e.1 46 (by decide), e.1 47 (by decide), e.1 50 (by decide), e.2 51 (by decide), e.2 57 (by decide), e.2 59 (by decide), e.2 61 (by decide), e.2 62 (by decide), e.2 69 (by decide)]
  exact ⟨p1, ⟨n, sb_PE_L e p2⟩, p3, p4, fun i hi => sb_pl_eq (by rw [e.2 63 (by decide)]) (by rw [e.2 64 (by decide)]) (by rw [e.2 65 (by decide)]) (p5 i hi), p6, p7⟩
theorem sb_ND_lt {S : md_S} {k h : Nat} {w : Int} (l : sb_ND S k h w) : (k : Int) < (S.1 42).toInt := by
  obtain ⟨n, t, c, l, b⟩ := l
  have := sb_L_pos l
  omega
theorem mm_has_l {S : md_S} (p : sb_PF S) {k : Int32} (h0 : 0 ≤ k.toInt) (h1 : k.toInt < (S.1 42).toInt) : dc_wp (mm_has S k) (fun q => q = 0 ∨ q = 1) := by
  obtain ⟨⟨⟨_, p1⟩, _, _, _, _, _, ⟨_, p2⟩, _⟩, _, p3, p4, _⟩ := p
  have a := (p3 k.toInt.toNat (by omega)).2
  have b := p4 (S.2.1 59 k.toInt.toNat).toInt.toNat (by omega)
  have c := p4 k.toInt.toNat (by omega)
  unfold mm_has
  refine dc_ixT h0 (by show k.toInt < 1200; omega) ?_
  refine dc_ixT (by omega) (by show (S.2.1 59 k.toInt.toNat).toInt < 1201; omega) ?_
  refine dc_ixT b.1 (by show _ < (201 : Int); omega) ?_
  refine dc_ixT h0 (by show k.toInt < 1201; omega) ?_
  refine dc_ixT c.1 (by show _ < (201 : Int); omega) ?_
  exact dc_ifI (fun _ => dc_zbI (.inr rfl) (dc_ret (.inr rfl))) (fun _ => dc_zbI (.inl rfl) (dc_ret (.inl rfl)))
theorem mm_outcome_l (S : md_S) (a b : Int32) : dc_wp (mm_outcome S a b) (fun q => q = md_i (md_i S 81 a) 80 b) := by
  unfold mm_outcome
  refine dc_letB ?_; rintro _ rfl
  refine dc_letB ?_; rintro _ rfl
  exact dc_ret rfl
theorem tr_v {x n : Int32} (h : 0 ≤ x.toInt) (h2 : x.toInt ≤ n.toInt) (h3 : n.toInt ≤ 1000) : (x - 1).toInt < n.toInt ∧ -1 ≤ (x - 1).toInt := by rw [a_sub, il_1]; omega
theorem mm_truth_l {S : md_S} (p : sb_PF S) (rw_ : sb_RW S) {x : Int32} (hx : sb_PR S x) : dc_wp (mm_truth S x) (fun _ => True) := by
  obtain ⟨⟨_, ⟨_, p43⟩, _⟩, _, _, _, p5, _⟩ := p
  obtain ⟨x0, x1, x2⟩ := hx
  have x2 := x2 p43
  unfold mm_truth
  refine dc_ixT x0 (by show x.toInt < 1000; omega) ?_
  refine dc_letB ?_; intro v hv
  have hv1 : v.toInt < (S.1 43).toInt ∧ -1 ≤ v.toInt := by
    rw [hv]; exact tr_v x2.1 x2.2 p43
  clear hv
  unfold mm_truth_L9
  refine dc_loopI (fun z => md_fr [] [67] false false S z.1 ∧ (-1 ≤ z.2.toInt ∧ z.2.toInt < (S.1 43).toInt)) (fun z => (z.2.toInt + 1).toNat) ⟨md_fr_rf, hv1.2, hv1.1⟩ ?_
  rintro ⟨S1, y⟩ ⟨f, g⟩
  replace g : -1 ≤ y.toInt ∧ y.toInt < (S.1 43).toInt := g
  replace f : md_fr [] [67] false false S S1 := f
  unfold mm_truth_s9 mm_truth_b9
  refine dc_ifI (fun _ => ?_) (fun hn => ?_)
  · refine dc_ret ?_
    show dc_wp (mm_truth_L197 S1 x) _
    unfold mm_truth_L197
    exact dc_ixT x0 (by show x.toInt < 1000; omega) (dc_ret trivial)
  · have hy : x.toInt ≤ y.toInt := by
      have : ¬ y.toInt < x.toInt := fun h => hn (i_lt.mpr h)
      omega
    have y0 : 0 ≤ y.toInt := by omega
    have y1 : y.toInt < ((1000 : Nat) : Int) := by show y.toInt < 1000; omega
    have pl := p5 y.toInt.toNat (by omega)
    have e63 : S1.2.1 63 = S.2.1 63 := f.2.1 63 (by decide)
    have e64 : S1.2.1 64 = S.2.1 64 := f.2.1 64 (by decide)
    have e65 : S1.2.1 65 = S.2.1 65 := f.2.1 65 (by decide)
    have e73 : S1.2.1 73 = S.2.1 73 := f.2.1 73 (by decide)
    have L190 : ∀ v : Int32, dc_wp (mm_truth_L190 S1 x y v y) (Sum.elim (fun z => (md_fr [] [67] false false S z.1 ∧ (-1 ≤ z.2.toInt ∧ z.2.toInt < (S.1 43).toInt)) ∧ (z.2.toInt + 1).toNat < (y.toInt + 1).toNat) (fun z => dc_wp (mm_truth_L197 z x) (fun _ => True))) := by
      intro v
      unfold mm_truth_L190
      refine dc_ixT y0 y1 ?_
      refine dc_letB ?_; intro S3 h3
      have e := dec1 y0
      refine dc_ret ⟨⟨⟨fun j hj => by rw [h3]; exact f.1 j hj, fun j hj => ?_, fun _ => by rw [h3]; exact f.2.2.1 rfl, fun _ => by rw [h3]; exact f.2.2.2 rfl⟩, by show -1 ≤ (y + -1).toInt; rw [e]; exact ms1 y0, by show (y + -1).toInt < _; rw [e]; exact ms2 g.2⟩, by show ((y + -1).toInt + 1).toNat < _; rw [e]; exact ms6 y0⟩
      rw [h3, md_a2, if_neg (fun h => hj (by rw [h]; decide))]; exact f.2.1 j hj
    have L113 : ∀ a b c d : Int32, dc_wp (mm_truth_L113 S1 x y a b c d) (Sum.elim (fun z => (md_fr [] [67] false false S z.1 ∧ (-1 ≤ z.2.toInt ∧ z.2.toInt < (S.1 43).toInt)) ∧ (z.2.toInt + 1).toNat < (y.toInt + 1).toNat) (fun z => dc_wp (mm_truth_L197 z x) (fun _ => True))) := by
      intro a b c d
      unfold mm_truth_L113
      refine dc_ixT y0 y1 ?_
      refine dc_ifI (fun _ => L190 _) (fun _ => ?_)
      refine dc_ifI (fun _ => dc_ifI (fun _ => L190 _) (fun _ => L190 _)) (fun _ => ?_)
      refine dc_ifI (fun _ => L190 _) (fun _ => ?_)
      refine dc_ifI (fun _ => L190 _) (fun _ => ?_)
      refine dc_ifI (fun _ => L190 _) (fun _ => ?_)
      exact dc_ifI (fun _ => L190 _) (fun _ => L190 _)
    have L79 : ∀ a b : Int32, dc_wp (mm_truth_L79 S1 x y a b) (Sum.elim (fun z => (md_fr [] [67] false false S z.1 ∧ (-1 ≤ z.2.toInt ∧ z.2.toInt < (S.1 43).toInt)) ∧ (z.2.toInt + 1).toNat < (y.toInt + 1).toNat) (fun z => dc_wp (mm_truth_L197 z x) (fun _ => True))) := by
      intro a b
      unfold mm_truth_L79
      refine dc_ixT y0 y1 ?_
      have L96 : ∀ c : Int32, dc_wp (mm_truth_L96 S1 x y a b c) (Sum.elim (fun z => (md_fr [] [67] false false S z.1 ∧ (-1 ≤ z.2.toInt ∧ z.2.toInt < (S.1 43).toInt)) ∧ (z.2.toInt + 1).toNat < (y.toInt + 1).toNat) (fun z => dc_wp (mm_truth_L197 z x) (fun _ => True))) := by
        intro c
        unfold mm_truth_L96
        refine dc_ixT y0 y1 ?_
        exact dc_ifI (fun _ => L113 _ _ _ _) (fun _ => L113 _ _ _ _)
      exact dc_ifI (fun _ => L96 _) (fun _ => L96 _)
    have L53 : ∀ a : Int32, dc_wp (mm_truth_L53 S1 x y a) (Sum.elim (fun z => (md_fr [] [67] false false S z.1 ∧ (-1 ≤ z.2.toInt ∧ z.2.toInt < (S.1 43).toInt)) ∧ (z.2.toInt + 1).toNat < (y.toInt + 1).toNat) (fun z => dc_wp (mm_truth_L197 z x) (fun _ => True))) := by
      intro a
      unfold mm_truth_L53
      refine dc_ixT y0 y1 ?_
      rw [e63]
      refine dc_ifI (fun h1 => ?_) (fun _ => L79 _ _)
      refine dc_ixT y0 y1 ?_
      rw [e65]
      rcases pl with ⟨k, _⟩ | ⟨k, _⟩ | ⟨k, _, k2⟩
      · rw [k] at h1; exact absurd h1 (by decide)
      · rw [k] at h1; exact absurd h1 (by decide)
      · exact dc_ixT k2.1 k2.2 (L79 _ _)
    refine dc_ixT y0 y1 ?_
    rw [e63]
    refine dc_ifI (fun h0 => ?_) (fun h0 => ?_)
    · rcases pl with ⟨k, k1, k2⟩ | ⟨k, _⟩ | ⟨k, _⟩
      · refine dc_ixT y0 y1 ?_
        rw [e64]
        refine dc_ixT k1 k2 ?_
        rw [e73]
        have r := rw_.1 (S.2.1 64 y.toInt.toNat).toInt.toNat (by omega)
        exact dc_ixT r.1 r.2 (L53 _)
      · rw [k] at h0; exact absurd h0 (by decide)
      · rcases k with k | k <;> (rw [k] at h0; exact absurd h0 (by decide))
    · refine dc_ixT y0 y1 ?_
      rw [e64]
      rcases pl with ⟨k, k1, k2⟩ | ⟨k, k1, k2⟩ | ⟨k, k1, _⟩
      · exact absurd k h0
      · exact dc_ixT k1 k2 (L53 _)
      · exact dc_ixT k1.1 k1.2 (L53 _)
theorem or_b {x y : Int32} (h : x = 0 ∨ x = 1) (k : y = 0 ∨ y = 1) : (x ||| y) = 0 ∨ (x ||| y) = 1 := by
  rcases h with rfl | rfl <;> rcases k with rfl | rfl <;> decide
theorem mm_simple_l {S : md_S} (rv : sb_RV S) {k s : Int32} (hs : s = 0 ∨ s = 1) (h0 : 0 ≤ k.toInt) (h1 : k.toInt < (S.1 42).toInt) (h2 : S.2.1 51 k.toInt.toNat = 1 → 0 ≤ (S.2.1 54 k.toInt.toNat).toInt ∧ (S.2.1 54 k.toInt.toNat).toInt < (S.1 47).toInt) (h3 : S.2.1 51 k.toInt.toNat = 2 → 0 ≤ (S.2.1 54 k.toInt.toNat).toInt ∧ (S.2.1 54 k.toInt.toNat).toInt < 400) : dc_wp (mm_simple_IZ S k s) (fun q => sb_RW q ∧ q.1 79 = S.1 79) := by
  obtain ⟨⟨⟨⟨_, p1⟩, _, _, _, _, _, ⟨_, p2⟩, _⟩, _⟩, rw_, _⟩ := rv
  have k1 : k.toInt < ((1200 : Nat) : Int) := by show k.toInt < 1200; omega
  have L122 : ∀ (S1 : md_S) (a b : Int32), sb_RW S1 → S1.1 79 = S.1 79 → dc_wp (mm_simple_IZ_L122 S1 a b) (fun q => sb_RW q ∧ q.1 79 = S.1 79) := by
    intro S1 a b r e
    unfold mm_simple_IZ_L122
    refine dc_callI (mm_outcome_l S1 b a) ?_
    rintro q rfl
    exact dc_ret ⟨r, e⟩
  have L109 : ∀ (S1 : md_S) (a : Int32), sb_RW S1 → S1.1 79 = S.1 79 → dc_wp (mm_simple_IZ_L109 S1 s a) (fun q => sb_RW q ∧ q.1 79 = S.1 79) := by
    intro S1 a r e
    unfold mm_simple_IZ_L109
    exact dc_ifI (fun _ => L122 _ _ _ r e) (fun _ => L122 _ _ _ r e)
  have L83 : ∀ (S1 : md_S) (a : Int32), md_fr [] [71, 72] false false S S1 → sb_RW S1 → dc_wp (mm_simple_IZ_L83 S1 k s a) (fun q => sb_RW q ∧ q.1 79 = S.1 79) := by
    intro S1 a f r
    have e79 : S1.1 79 = S.1 79 := f.1 79 (by decide)
    unfold mm_simple_IZ_L83
    refine dc_ixT h0 k1 ?_
    rw [f.2.1 51 (by decide)]
    refine dc_ifI (fun hk => ?_) (fun _ => L109 _ _ r e79)
    refine dc_ifI (fun _ => L109 _ _ r e79) (fun _ => ?_)
    refine dc_ixT h0 k1 ?_
    rw [f.2.1 54 (by decide)]
    have := h2 hk
    refine dc_ixT this.1 (by show _ < (200 : Int); omega) ?_
    refine dc_letB ?_; rintro _ rfl
    exact L109 _ _ r e79
  have L35 : ∀ a : Int32, dc_wp (mm_simple_IZ_L35 S k s a) (fun q => sb_RW q ∧ q.1 79 = S.1 79) := by
    intro a
    unfold mm_simple_IZ_L35
    refine dc_ixT h0 k1 ?_
    refine dc_ifI (fun hk => ?_) (fun _ => L83 _ _ md_fr_rf rw_)
    have hn := h3 hk
    have r := rw_.1 (S.2.1 54 k.toInt.toNat).toInt.toNat (by omega)
    refine dc_ixT h0 k1 ?_
    refine dc_ixT hn.1 hn.2 ?_
    refine dc_ixT r.1 r.2 ?_
    refine dc_letB ?_; intro S10 h10
    have f10 : md_fr [] [72] false false S S10 := by
      refine ⟨fun j _ => by rw [h10]; rfl, fun j hj => ?_, fun _ => by rw [h10]; rfl, fun _ => by rw [h10]; rfl⟩
      rw [h10, md_a2]; exact if_neg (fun h => hj (by rw [h]; decide))
    clear h10
    refine dc_ixT h0 k1 ?_
    rw [f10.2.1 54 (by decide), f10.2.1 73 (by decide), f10.2.1 71 (by decide)]
    refine dc_ixT hn.1 hn.2 ?_
    refine dc_ixT r.1 r.2 ?_
    have hb := or_b (rw_.2 (S.2.1 73 (S.2.1 54 k.toInt.toNat).toInt.toNat).toInt.toNat (by omega)) hs
    refine dc_zbI hb ?_
    refine dc_ixT r.1 r.2 ?_
    refine dc_letB ?_; intro S16 h16
    have e71 : S16.2.1 71 = upd (S.2.1 71) (S.2.1 73 (S.2.1 54 k.toInt.toNat).toInt.toNat).toInt.toNat (S.2.1 71 (S.2.1 73 (S.2.1 54 k.toInt.toNat).toInt.toNat).toInt.toNat ||| s) := by
      rw [h16]; show upd (S10.2.1 71) _ _ = _; rw [f10.2.1 71 (by decide)]
    refine L83 S16 a ⟨fun j hj => by rw [h16]; exact f10.1 j hj, fun j hj => ?_, fun _ => by rw [h16]; exact f10.2.2.1 rfl, fun _ => by rw [h16]; exact f10.2.2.2 rfl⟩ ⟨fun i hi => ?_, fun i hi => ?_⟩
    · simp only [List.mem_cons, List.mem_nil_iff, or_false, not_or] at hj
      rw [h16, md_a2, if_neg hj.1]; exact f10.2.1 j (by simp only [List.mem_cons, List.mem_nil_iff, or_false]; exact hj.2)
    · rw [show S16.2.1 73 = S.2.1 73 by rw [h16]; exact f10.2.1 73 (by decide)]; exact rw_.1 i hi
    · rw [e71]
      by_cases hz : i = (S.2.1 73 (S.2.1 54 k.toInt.toNat).toInt.toNat).toInt.toNat
      · rw [sb_ue _ _ hz]; exact hb
      · rw [sb_dn _ _ hz]; exact rw_.2 i hi
  unfold mm_simple_IZ
  refine dc_ixT h0 k1 ?_
  refine dc_ifI (fun _ => L35 _) (fun _ => ?_)
  refine dc_ixT h0 k1 ?_
  refine dc_ifI (fun _ => ?_) (fun _ => L35 _)
  exact dc_ixT h0 k1 (L35 _)
