theorem rg_sum {x y : Int32} {n : Int} (h0 : 62 ≤ x.toInt) (h1 : x.toInt + y.toInt < n) (h2 : 0 ≤ y.toInt) (h3 : n ≤ 1662) : 0 ≤ (x + y).toInt ∧ (x + y).toInt < 1662 := by
  rw [ar2 (by omega) (by omega) h2 (by omega)]; omega
theorem rg_run {T : mm_T3} {d : Nat} (hT : mm_SP3 T d) (S : md_S) (k p2 p3 : Int32) (h : Nat) (w : Int) (v : sb_RV S) (h0 : 0 ≤ k.toInt) (l : sb_ND S k.toInt.toNat h w) (hd : h ≤ d + 1) (y : sb_WY S w p2) (b : sb_bo p3) : dc_wp (mm_run T S k p2 p3) (sb_RQ S) := by
  have n42 := sb_42 v
  have L108 : ∀ (S1 : md_S) (x : Int32), sb_RQ S S1 → 0 ≤ x.toInt → sb_ND S1 x.toInt.toNat h w → ¬ S1.2.1 51 x.toInt.toNat = 10 → dc_wp (mm_run_L108 T S1 p2 p3 x) (sb_RQ S) := by
    intro S1 x r x0 lx hn
    have v1 := sb_RQ_RV r v
    have y1 := sb_WY_RQ r (Int.le_refl _) y
    have x1 := sb_ix v1 x0 lx
    have fin : ∀ {E : Option md_S}, dc_wp E (sb_RQ S1) → dc_wp (E.bind fun q => mm_run_L296 T q) (sb_RQ S) := by
      intro E hE
      exact dc_callI hE (fun q r2 => dc_ret (sb_RQ_tr r r2))
    have leaf : (S1.2.1 51 x.toInt.toNat = 0 ∨ S1.2.1 51 x.toInt.toNat = 1 ∨ S1.2.1 51 x.toInt.toNat = 2 ∨ S1.2.1 51 x.toInt.toNat = 9) → dc_wp (mm_simple_IZ S1 x p3) (sb_RQ S1) := by
      intro hk
      obtain ⟨_, q1, q2⟩ := nd_leaf lx hk
      refine dc_mono (dc_wpw (mm_simple_l v1 b x0 (by have := sb_ND_lt lx; omega) q1 q2) (mm_simple_IZ_fr S1 x p3)) ?_
      rintro q ⟨⟨a1, a2⟩, a3⟩
      exact ⟨md_fr_sub a3 (by decide) (by decide), a1, a2⟩
    have out : ∀ a c : Int32, dc_wp (mm_run_L203 T S1 a c) (sb_RQ S) := by
      intro a c
      unfold mm_run_L203
      refine dc_callI (mm_outcome_l S1 c a) ?_
      rintro q rfl
      exact dc_ret (sb_RQ_out r)
    unfold mm_run_L108
    refine dc_ixT x0 x1 ?_
    refine dc_letB ?_; intro v3 hv3
    refine dc_ifI (fun e => fin (leaf (.inl (hv3.symm.trans e)))) (fun n0 => ?_)
    refine dc_ifI (fun e => ?_) (fun n1 => ?_)
    · refine dc_ifI (fun _ => ?_) (fun _ => fin (leaf (.inr (.inl (hv3.symm.trans e)))))
      exact dc_ifI (fun _ => out _ _) (fun _ => out _ _)
    refine dc_ifI (fun e => fin (leaf (.inr (.inr (.inl (hv3.symm.trans e)))))) (fun n2 => ?_)
    refine dc_ifI (fun e => fin (hT.2.1 S1 x p2 p3 h w v1 x0 lx (hv3.symm.trans e) hd y1 b)) (fun n3 => ?_)
    refine dc_ifI (fun e => fin (hT.2.2.1 S1 x p2 p3 h w v1 x0 lx (hv3.symm.trans e) hd y1 b)) (fun n4 => ?_)
    refine dc_ifI (fun e => fin (hT.2.2.2.1 S1 x p2 p3 h w v1 x0 lx (hv3.symm.trans e) hd y1 b)) (fun n5 => ?_)
    refine dc_ifI (fun e => ?_) (fun n6 => ?_)
    · obtain ⟨e1, _, g, w2, hg, hw, l1⟩ := nd_un lx (.inr (.inl (hv3.symm.trans e)))
      have f0 : 0 ≤ (S1.2.1 52 x.toInt.toNat).toInt := by omega
      have l1' : sb_ND S1 (S1.2.1 52 x.toInt.toNat).toInt.toNat g w2 := by rw [show (S1.2.1 52 x.toInt.toNat).toInt.toNat = x.toInt.toNat + 1 by omega]; exact l1
      refine dc_ixT x0 x1 ?_
      refine dc_callI (hT.1 S1 _ p2 p3 g w2 v1 f0 l1' (by omega) (sb_WY_mono hw y1) b) (fun q17 r17 => ?_)
      refine dc_ifI (fun hp => ?_) (fun _ => dc_ret (sb_RQ_tr r r17))
      refine dc_ixT x0 x1 ?_
      rw [r17.1.2.1 52 (by decide)]
      have r17' := sb_RQ_tr r r17
      refine dc_callI (hT.2.2.2.2.1 q17 x _ 0 p3 g w2 (sb_RQ_RV r17 v1) x0 (by rw [r17.1.1 42 (by decide)]; have := sb_ND_lt lx; omega) (by rw [r17.1.2.1 57 (by decide), nd_w lx]; exact hw) f0 (sb_RQ_ND r17 l1') (by omega) (fun h => absurd rfl h) b) (fun q19 r19 => dc_ret (sb_RQ_tr r17' r19))
    refine dc_ifI (fun e => fin (hT.2.2.2.2.2.1 S1 x p2 p3 h w v1 x0 lx (hv3.symm.trans e) hd y1 b)) (fun n7 => ?_)
    refine dc_ifI (fun e => fin (hT.2.2.2.2.2.2.2 S1 x p2 p3 h w v1 x0 lx (hv3.symm.trans e) hd y1 b)) (fun n8 => ?_)
    refine dc_ifI (fun e => fin (leaf (.inr (.inr (.inr (hv3.symm.trans e)))))) (fun n9 => ?_)
    exfalso
    rw [hv3] at n0 n1 n2 n3 n4 n5 n6 n7 n8 n9
    rcases nd_kind lx with (e | e | e | e) | e | e | e | e | e | e | e
    · exact n0 e
    · exact n1 e
    · exact n2 e
    · exact n9 e
    · exact n3 e
    · exact n4 e
    · exact n5 e
    · exact n6 e
    · exact n7 e
    · exact n8 e
    · exact hn e
  unfold mm_run mm_run_L3
  refine dc_loopI (fun z => sb_RQ S z.1 ∧ 0 ≤ z.2.toInt ∧ sb_ND S z.2.toInt.toNat h w) (fun z => ((S.1 42).toInt - z.2.toInt).toNat) ⟨sb_RQ_rf v.2.1, h0, l⟩ ?_
  rintro ⟨S1, x⟩ ⟨r, x0, lx⟩
  replace r : sb_RQ S S1 := r
  replace x0 : 0 ≤ x.toInt := x0
  replace lx : sb_ND S x.toInt.toNat h w := lx
  have x1 := sb_ix v x0 lx
  have xl : x.toInt < (S.1 42).toInt := by have := sb_ND_lt lx; omega
  unfold mm_run_s3 mm_run_b3
  refine dc_ixT x0 x1 ?_
  rw [r.1.2.1 51 (by decide)]
  refine dc_ifI (fun h10 => ?_) (fun hn => dc_ret (L108 S1 x r x0 (sb_RQ_ND r lx) (by rw [r.1.2.1 51 (by decide)]; exact hn)))
  obtain ⟨e1, en, l1⟩ := nd_local lx h10
  have ew := nd_w lx
  have eb := v.1.2.2.2.2.2.1 x.toInt.toNat (by omega) h10
  have i50 := v.1.1.2.2.2.2.2.2.2.2
  have L53 : ∀ y0 : Int32, (0 ≤ y0.toInt ∧ y0.toInt ≤ w) → dc_wp (mm_run_L53 T S1 p2 p3 x y0 (S.2.1 61 x.toInt.toNat) (S.2.1 54 x.toInt.toNat)) (Sum.elim (fun z => (sb_RQ S z.1 ∧ 0 ≤ z.2.toInt ∧ sb_ND S z.2.toInt.toNat h w) ∧ ((S.1 42).toInt - z.2.toInt).toNat < ((S.1 42).toInt - x.toInt).toNat) (fun z => dc_wp (mm_run_L108 T z.1 p2 p3 z.2) (sb_RQ S))) := by
    intro y0 hy
    have hv := rg_sum (n := (S.1 50).toInt) eb.1 (by omega) hy.1 i50
    unfold mm_run_L53
    refine dc_ixT en.1 en.2 ?_
    refine dc_letB ?_; intro S33 h33
    have r33 : sb_RQ S S33 := by
      refine ⟨⟨fun j hj => by rw [h33]; exact r.1.1 j hj, fun j hj => ?_, fun _ => by rw [h33]; exact r.1.2.2.1 rfl, fun _ => by rw [h33]; exact r.1.2.2.2 rfl⟩, ⟨fun i hi => ?_, by rw [h33]; exact r.2.1.2⟩, by rw [h33]; exact r.2.2⟩
      · rw [h33, md_a2, if_neg (fun h => hj (by rw [h]; decide))]; exact r.1.2.1 j hj
      · rw [h33]
        show 0 ≤ (upd (S1.2.1 73) _ _ i).toInt ∧ (upd (S1.2.1 73) _ _ i).toInt < 1662
        by_cases hz : i = (S.2.1 54 x.toInt.toNat).toInt.toNat
        · rw [sb_ue _ _ hz]; exact hv
        · rw [sb_dn _ _ hz]; exact r.2.1.1 i hi
    clear h33
    have L93 : ∀ z : Int32, sb_bo z → dc_wp (mm_run_L93 T S33 p2 p3 x z) (Sum.elim (fun z => (sb_RQ S z.1 ∧ 0 ≤ z.2.toInt ∧ sb_ND S z.2.toInt.toNat h w) ∧ ((S.1 42).toInt - z.2.toInt).toNat < ((S.1 42).toInt - x.toInt).toNat) (fun z => dc_wp (mm_run_L108 T z.1 p2 p3 z.2) (sb_RQ S))) := by
      intro z hz
      unfold mm_run_L93
      refine dc_zbI hz ?_
      refine dc_letB ?_; intro S29 h29
      have r29 : sb_RQ S S29 := by
        refine ⟨⟨fun j hj => ?_, fun j hj => by rw [h29]; exact r33.1.2.1 j hj, fun _ => by rw [h29]; exact r33.1.2.2.1 rfl, fun _ => by rw [h29]; exact r33.1.2.2.2 rfl⟩, by rw [h29]; exact r33.2.1, by rw [h29]; exact r33.2.2⟩
        rw [h29, md_i1, if_neg (fun h => hj (by rw [h]; decide))]; exact r33.1.1 j hj
      clear h29
      refine dc_ixT x0 x1 ?_
      refine dc_letB ?_; intro v31 h31
      rw [r29.1.2.1 52 (by decide)] at h31
      have e31 : v31.toInt = x.toInt + 1 := by rw [h31, e1]; omega
      refine dc_ret ⟨⟨r29, by show 0 ≤ v31.toInt; omega, ?_⟩, ?_⟩
      · show sb_ND S v31.toInt.toNat h w
        rw [e31, nat_up x0]; exact l1
      · show ((S.1 42).toInt - v31.toInt).toNat < _
        rw [e31]; exact sp_m x0 xl
    refine dc_ifI (fun _ => ?_) (fun _ => L93 _ (.inr rfl))
    refine dc_ifI (fun _ => L93 _ (.inl rfl)) (fun _ => ?_)
    refine dc_ixT x0 x1 ?_
    rw [r33.1.2.1 54 (by decide)]
    refine dc_ixT en.1 en.2 ?_
    have rr := r33.2.1.1 (S.2.1 54 x.toInt.toNat).toInt.toNat (by omega)
    refine dc_ixT rr.1 rr.2 ?_
    exact dc_ifI (fun _ => L93 _ (.inr rfl)) (fun _ => L93 _ (.inl rfl))
  refine dc_ixT x0 x1 ?_
  refine dc_ixT x0 x1 ?_
  rw [r.1.2.1 57 (by decide), r.1.2.1 61 (by decide), r.1.2.1 54 (by decide), r.2.2]
  have w1 := (v.1.2.2.1 x.toInt.toNat (by omega)).1.1
  refine dc_ifI (fun _ => ?_) (fun hp => ?_)
  · refine dc_ixT x0 x1 ?_
    refine L53 _ ?_
    show 0 ≤ (S.2.1 57 x.toInt.toNat).toInt ∧ (S.2.1 57 x.toInt.toNat).toInt ≤ w
    omega
  · have yy := y hp
    exact L53 _ (by rw [dec2 yy.1]; omega)
theorem mm_P3_l : ∀ d, mm_SP3 (mm_P3 d) d
  | 0 => by
    refine ⟨fun S k p2 p3 h w v h0 l hd => ?_, fun S k p2 p3 h w v h0 l hk hd => ?_, fun S k p2 p3 h w v h0 l hk hd => ?_, fun S k p2 p3 h w v h0 l hk hd => ?_, fun S k th p2 p3 h w v h0 h1 hw t0 l hd => by omega, fun S k p2 p3 h w v h0 l hk hd => ?_, fun S k p2 p3 h w v h0 l hd => by omega, fun S k p2 p3 h w v h0 l hk hd => ?_⟩
    · exfalso
      rcases nd_kind l with hk | hk | hk | hk | hk | hk | hk | hk
      · have := (nd_leaf l hk).1; omega
      · obtain ⟨_, _, m, g, _, hg, _⟩ := nd_pres l hk; omega
      · obtain ⟨_, _, g, _, hg, _⟩ := nd_un l (.inl hk); omega
      · obtain ⟨_, _, _, m, g, _, _, hg, _⟩ := nd_two l (.inl hk); omega
      · obtain ⟨_, _, g, _, hg, _⟩ := nd_un l (.inr (.inl hk)); omega
      · obtain ⟨_, _, _, m, g, _, _, hg, _⟩ := nd_two l (.inr hk); omega
      · obtain ⟨_, _, g, _, hg, _⟩ := nd_un l (.inr (.inr hk)); omega
      · -- locals, down to what is none
        have go : ∀ (n : Nat) {k : Nat}, sb_ND S k h w → ((S.1 42).toInt - k).toNat ≤ n → False := by
          intro n
          induction n with
          | zero => intro k l hn; have := sb_ND_lt l; omega
          | succ n ih =>
            intro k l hn
            have hlt := sb_ND_lt l
            rcases nd_kind l with hk | hk | hk | hk | hk | hk | hk | hk
            · have := (nd_leaf l hk).1; omega
            · obtain ⟨_, _, m, g, _, hg, _⟩ := nd_pres l hk; omega
            · obtain ⟨_, _, g, _, hg, _⟩ := nd_un l (.inl hk); omega
            · obtain ⟨_, _, _, m, g, _, _, hg, _⟩ := nd_two l (.inl hk); omega
            · obtain ⟨_, _, g, _, hg, _⟩ := nd_un l (.inr (.inl hk)); omega
            · obtain ⟨_, _, _, m, g, _, _, hg, _⟩ := nd_two l (.inr hk); omega
            · obtain ⟨_, _, g, _, hg, _⟩ := nd_un l (.inr (.inr hk)); omega
            · exact ih (nd_local l hk).2.2 (by omega)
        exact go _ l (Nat.le_refl _)
    · exfalso; obtain ⟨_, _, m, g, _, hg, _⟩ := nd_pres l hk; omega
    · exfalso; obtain ⟨_, _, g, _, hg, _⟩ := nd_un l (.inl hk); omega
    · exfalso; obtain ⟨_, _, _, m, g, _, _, hg, _⟩ := nd_two l (.inl hk); omega
    · exfalso; obtain ⟨_, _, _, m, g, _, _, hg, _⟩ := nd_two l (.inr hk); omega
    · exfalso; obtain ⟨_, _, g, _, hg, _⟩ := nd_un l (.inr (.inr hk)); omega
  | d + 1 => ⟨rg_run (mm_P3_l d), rg_present (mm_P3_l d), rg_suspended (mm_P3_l d), rg_sequence (mm_P3_l d), rg_behind (mm_P3_l d), rg_both (mm_P3_l d), rg_side (mm_P3_l d), rg_trapped (mm_P3_l d)⟩
theorem mm_run_l {S : md_S} (v : sb_RV S) (p2 p3 : Int32) (y : ¬ p2 = 0 → S.1 79 = 1) (b : sb_bo p3) : dc_wp (mm_run_r S 0 p2 p3) (sb_RQ S) := by
  obtain ⟨n, l⟩ := v.1.2.1
  refine (mm_P3_l mm_d3).1 S 0 p2 p3 582 1 v (by decide) ⟨n, -1, (S.1 42).toInt.toNat, l, ?_⟩ (by decide) (fun h => ?_) b
  · have := v.1.1.1; show ((0 + (S.1 42).toInt.toNat : Nat) : Int) ≤ _; omega
  · rw [y h, il_1]; omega
