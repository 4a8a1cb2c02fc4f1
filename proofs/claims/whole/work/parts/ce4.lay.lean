/-! the reference's lay: a tree, whole -/
section LAYV
variable {names : Int32} {pk pf ps xx : Nat → Int32} {m : Nat} {θ : (Int32 → Prop) → Int32 → Prop} {G : Prop}
theorem s_of {s : Int32} {c : Int} (h : 0 ≤ s.toInt ∧ s.toInt < c) (hc : c ≤ 1200) : s = Int32.ofNat s.toInt.toNat ∧ s.toInt.toNat < 1200 ∧ ¬ s = -1 := by
  refine ⟨ofN_i (by omega) (by omega), by omega, fun e => ?_⟩
  rw [e] at h
  have := h.1
  exact absurd this (by decide)
theorem LPr_c {H : Prop} {R : Nat → Nat → Int32} : ∀ (T : tT) (k : Nat) (up : Int32) (w : Int) (t : Int32) (a c c' : Int), (G → c = c') → LPr G H pk pf xx R T k up w t a c → LPr G H pk pf xx R T k up w t a c'
  | .const x, k, up, w, t, a, c, c', h, ⟨p1, p2, p3, p4⟩ => ⟨p1, p2, fun n y => by rw [← h y]; exact p3 n y, p4⟩
  | .unary x A, k, up, w, t, a, c, c', h, ⟨⟨p1, p2, p3, p4⟩, q⟩ => ⟨⟨p1, p2, fun n y => by rw [← h y]; exact p3 n y, p4⟩, LPr_c A _ _ _ _ _ _ _ (fun y => by rw [h y]) q⟩
  | .binary x A B, k, up, w, t, a, c, c', h, ⟨⟨p1, p2, p3, p4⟩, q, r⟩ => ⟨⟨p1, p2, fun n y => by rw [← h y]; exact p3 n y, p4⟩, LPr_c A _ _ _ _ _ _ _ (fun y => by rw [h y]) q, LPr_c B _ _ _ _ _ _ _ (fun y => by rw [h y]) r⟩
/-- numbers of a tree with one below -/
theorem un_i {a b c d w : Int} (h1 : b = a + w) (h2 : c = b + d) (h3 : 0 ≤ d) (hw : 0 ≤ w) : c = a + (w + d) ∧ 0 ≤ w + d := by omega
theorem bi_i {a b c d w e f : Int} (h1 : b = a + w) (h2 : c = b + d) (h3 : 0 ≤ d) (h4 : f = c + e) (h5 : 0 ≤ e) (hw : 0 ≤ w) : f = a + (w + (d + e)) ∧ 0 ≤ w + (d + e) := by omega
/-- a row as a node's step leaves it, ahead of it -/
theorem ly_ahead {pk pf xx : Nat → Int32} {S S1 : md_S} {k d : Nat} {x : lbT} {up ot w tr : Int32} (h : lyF pk pf xx S S1 k x up ot w tr d) : ∀ i j, nRi i → ¬ (i = 52 ∨ i = 53) → j < k → S1.2.1 i j = S.2.1 i j := by
  obtain ⟨-, -, -, ⟨g1, g2, g3, g4, g5, g6⟩, g7, -⟩ := h
  intro i j hi hi' hj
  have hi : i = 51 ∨ i = 54 ∨ i = 56 ∨ i = 57 ∨ i = 58 ∨ i = 60 ∨ i = 62 := by omega
  rcases hi with e | e | e | e | e | e | e <;> subst e
  · rw [g1, upd_n (by omega)]
  · exact g7.1 j (by omega)
  · rw [g2, upd_n (by omega)]
  · rw [g4, upd_n (by omega)]
  · rw [g3, upd_n (by omega)]
  · rw [g5, upd_n (by omega)]
  · rw [g6, upd_n (by omega)]
/-- pieces, one after the other -/
def lyP (xx : Nat → Int32) (t : Int) (S S' : md_S) : Prop := (S.1 43).toInt ≤ (S'.1 43).toInt ∧ (S'.1 43).toInt ≤ (S.1 43).toInt + t ∧ (1000 < (S.1 43).toInt + t → 1000 < (S'.1 43).toInt) ∧
  ((S.1 43).toInt + t ≤ 1000 → (S'.1 43).toInt = (S.1 43).toInt + t ∧ ∀ j, j < (S.1 43).toInt.toNat → S'.2.1 63 j = S.2.1 63 j ∧ S'.2.1 64 j = S.2.1 64 j ∧ S'.2.1 65 j = S.2.1 65 j ∧ S'.2.1 66 j = S.2.1 66 j)
theorem lyP_tr {xx : Nat → Int32} {t t' : Int} {S S' S2 : md_S} (h0 : 0 ≤ t) (h0' : 0 ≤ t') (p0 : 0 ≤ (S.1 43).toInt) (h : lyP xx t S S') (g : lyP xx t' S' S2) : lyP xx (t + t') S S2 := by
  obtain ⟨f8, f9, f10, f11⟩ := h
  obtain ⟨a12, a13, a14, a15⟩ := g
  refine ⟨by omega, by omega, fun u => ?_, fun u => ?_⟩
  · by_cases c : (S.1 43).toInt + t ≤ 1000
    · have := (f11 c).1
      exact a14 (by omega)
    · have := f10 (by omega)
      omega
  · obtain ⟨u1, u2⟩ := f11 (by omega)
    obtain ⟨v1, v2⟩ := a15 (by omega)
    refine ⟨by omega, fun j hj => ?_⟩
    obtain ⟨y1, y2, y3, y4⟩ := v2 j (by omega)
    obtain ⟨z1, z2, z3, z4⟩ := u2 j hj
    exact ⟨y1.trans z1, y2.trans z2, y3.trans z3, y4.trans z4⟩
/-- a tree with one below -/
theorem ly_un (W : pcW names pk pf ps xx m) (hθ : ∀ V e, θ V e → 0 ≤ e.toInt ∧ e.toInt < (m : Int) ∧ 1 ≤ (xx e.toInt.toNat).toInt ∧ (xx e.toInt.toNat).toInt ≤ 2000) {x : Lean.Name} {A : tT} {V : Int32 → Prop} {S S1 S2 : md_S} {k d : Nat} {up ot w tr w' : Int32} (hO : okT θ V (.unary x A)) (s0 : lyS pk pf ps S k d tr) (hF : lyF pk pf xx S S1 k (lT x) up ot w tr d) (w0 : 0 ≤ w.toInt ∧ w.toInt ≤ 1000) (wi : w'.toInt = w.toInt + (if (lT x).1 = 6 then 1 else 0)) (hk : k < 1200) (hd : d ≤ 5000) (hG : G → (S.1 43).toInt + (txx xx (lT x).2.2.2.2.2 + tsm xx A) ≤ 1000) (hA : lyT G pk pf xx A S1 S2 (k + 1) (Int32.ofNat k) 0 w' (if (lT x).1 = 8 then Int32.ofNat k else tr) (d + if (lT x).1 = 8 then 1 else 0)) : lyT G pk pf xx (.unary x A) S S2 k up ot w tr d := by
  have ot' := ok_t hθ (Or.inr (Or.inl hO.1))
  have tx := txx_0 ot'
  obtain ⟨ta, -, -, -⟩ := tsm_0 hθ A _ hO.2
  have q := ly_48 hF s0 w0 hk
  have q9 := ly_49 hF hd
  have row := ly_row hF (G := G) (fun y => by have := hG y; omega)
  have ah := ly_ahead hF
  have p0 := s0.2.2.2.1
  clear s0
  obtain ⟨⟨f1, -, -, -, -⟩, f6, f7, -, -, g8, f8, f9, f10, f11⟩ := hF
  unfold lyT at hA
  rw [wi] at hA
  obtain ⟨⟨a1, a2, a3, a4, a5, a6⟩, a7, a8, a9, a10, a11, a12, aL⟩ := hA
  have e1 : (S1.1 43).toInt = (S1.1 43).toInt := rfl
  have pf1 : lyP xx (txx xx (lT x).2.2.2.2.2) S S1 := ⟨f8, f9, f10, fun t => ⟨(f11 t).1, (f11 t).2.1⟩⟩
  have pf2 := lyP_tr tx.1 ta p0 pf1 a12
  have ek : k + (1 + tsz A) = k + 1 + tsz A := by omega
  refine ⟨⟨fun i hi => (a1 i hi).trans (f1 i hi), ?_, (un_i q.1 a3 a4.1 w0.1).1, ⟨(un_i q.1 a3 a4.1 w0.1).2, ?_⟩, ?_, ?_⟩, a7.trans f6, fun i hi => (a8 i hi).trans (f7 i hi), ?_, ?_, ?_, pf2, ?_, ?_⟩
  · show S2.1 42 = Int32.ofNat (k + (1 + tsz A))
    rw [ek]; exact a2
  · show (S2.1 48).toInt ≤ 1000 * ((k + (1 + tsz A) : Nat) : Int)
    rw [ek]; exact a4.2
  · show (S2.1 47).toInt = (S.1 47).toInt + ((if (lT x).1 = 1 then 1 else 0) + pas A)
    rw [a5, q.2, Int.add_assoc]
  · show (S2.1 49).toInt = max (S.1 49).toInt (max (d : Int) (dmx A (d + if (lT x).1 = 8 then 1 else 0)))
    rw [a6, q9]
    have e : ((d + (if (lT x).1 = 8 then 1 else 0) : Nat) : Int) = (d : Int) + (if (lT x).1 = 8 then 1 else 0) := by split <;> rfl
    rw [e, Int.max_assoc]
  · intro i j hi hi' hj
    rw [a9 i j hi hi' (by omega)]
    exact ah i j hi hi' hj
  · intro j hj
    obtain ⟨u1, u2⟩ := a10 j (by omega)
    have ne : ¬ Int32.ofNat k = Int32.ofNat j := fun t => absurd (ofn_i (by omega) (by omega) t) (by omega)
    rw [if_neg (fun t => ne t.1)] at u1 u2
    rw [u1, u2]
    exact g8.2.2 j hj
  · show ∀ j i, j < k + (1 + tsz A) → S2.2.1 60 j = Int32.ofNat i → i < 1200 → i < k + (1 + tsz A)
    rw [ek]; exact a11
  · refine ly_rowe W p0 ot' (fun i hi hi' => a9 i k hi hi' (by omega)) ?_ ?_ (fun y j hj => ?_) row
    · rw [(a10 k (by omega)).1, if_pos ⟨rfl, rfl⟩]
    · rw [(a10 k (by omega)).2, if_neg (fun t => absurd t.2 (by decide))]
      exact g8.2.1
    · have g := hG y
      have u1 := (f11 (by omega)).1
      exact (a12.2.2.2 (by omega)).2 j (by omega)
  · show LPr G True pk pf xx S2.2.1 A (k + 1) (Int32.ofNat k) (w.toInt + if (lT x).1 = 6 then 1 else 0) (if (lT x).1 = 8 then Int32.ofNat k else tr) ((S.1 47).toInt + if (lT x).1 = 1 then 1 else 0) ((S.1 43).toInt + txx xx (lT x).2.2.2.2.2)
    rw [← q.2]
    exact LPr_c A _ _ _ _ _ _ _ (fun y => (f11 (by have := hG y; omega)).1) aL
/-- a tree with two below -/
theorem ly_bi (W : pcW names pk pf ps xx m) (hθ : ∀ V e, θ V e → 0 ≤ e.toInt ∧ e.toInt < (m : Int) ∧ 1 ≤ (xx e.toInt.toNat).toInt ∧ (xx e.toInt.toNat).toInt ≤ 2000) {x : Lean.Name} {A B : tT} {V : Int32 → Prop} {S S1 S2 S3 : md_S} {k d : Nat} {up ot w tr w' : Int32} (hO : okT θ V (.binary x A B)) (n6 : ¬ (lT x).1 = 6) (n8 : ¬ (lT x).1 = 8) (s0 : lyS pk pf ps S k d tr) (hF : lyF pk pf xx S S1 k (lT x) up ot w tr d) (w0 : 0 ≤ w.toInt ∧ w.toInt ≤ 1000) (wi : w'.toInt = w.toInt + (if (lT x).1 = 5 then 1 else 0)) (hk : k < 1200) (hd : d ≤ 5000) (hG : G → (S.1 43).toInt + (txx xx (lT x).2.2.2.2.2 + (tsm xx A + tsm xx B)) ≤ 1000) (hkA : k + 1 + tsz A ≤ 1200) (hA : lyT G pk pf xx A S1 S2 (k + 1) (Int32.ofNat k) 0 w tr d) (hB : lyT G pk pf xx B S2 S3 (k + 1 + tsz A) (Int32.ofNat k) 1 w' tr d) : lyT G pk pf xx (.binary x A B) S S3 k up ot w tr d := by
  have ot' := ok_t hθ (Or.inr (Or.inr hO.1))
  have tx := txx_0 ot'
  obtain ⟨ta, -, -, -⟩ := tsm_0 hθ A _ hO.2.1
  obtain ⟨tb, -, -, -⟩ := tsm_0 hθ B _ hO.2.2
  have q := ly_48 hF s0 w0 hk
  have q9 := ly_49 hF hd
  have row := ly_row hF (G := G) (fun y => by have := hG y; omega)
  have ah := ly_ahead hF
  have p0 := s0.2.2.2.1
  clear s0
  obtain ⟨⟨f1, -, -, -, -⟩, f6, f7, -, -, g8, f8, f9, f10, f11⟩ := hF
  unfold lyT at hB
  rw [wi] at hB
  obtain ⟨⟨a1, a2, a3, a4, a5, a6⟩, a7, a8, a9, a10, a11, a12, aL⟩ := hA
  obtain ⟨⟨b1, b2, b3, b4, b5, b6⟩, b7, b8, b9, b10, b11, b12, bL⟩ := hB
  have a12 : lyP xx (tsm xx A) S1 S2 := a12
  have b12 : lyP xx (tsm xx B) S2 S3 := b12
  have pf1 : lyP xx (txx xx (lT x).2.2.2.2.2) S S1 := ⟨f8, f9, f10, fun t => ⟨(f11 t).1, (f11 t).2.1⟩⟩
  have c1 : 0 ≤ (S1.1 43).toInt := by omega
  have pf2 := lyP_tr tx.1 (by omega) p0 pf1 (lyP_tr ta tb c1 a12 b12)
  clear f8 f9 f10
  have ek : k + (1 + tsz A + tsz B) = k + 1 + tsz A + tsz B := by omega
  have w6 : w.toInt + (if (lT x).1 = 6 then 1 else 0) = w.toInt := by rw [if_neg n6]; exact Int.add_zero _
  have d8 : (d : Int) + (if (lT x).1 = 8 then 1 else 0) = (d : Int) := by rw [if_neg n8]; exact Int.add_zero _
  -- pieces, if few
  have pp : (S.1 43).toInt + (txx xx (lT x).2.2.2.2.2 + (tsm xx A + tsm xx B)) ≤ 1000 → (S1.1 43).toInt = (S.1 43).toInt + txx xx (lT x).2.2.2.2.2 ∧ (S2.1 43).toInt = (S.1 43).toInt + txx xx (lT x).2.2.2.2.2 + tsm xx A := by
    intro t
    have u1 := (f11 (by omega)).1
    have v1 := (a12.2.2.2 (by omega)).1
    exact ⟨u1, by omega⟩
  have w8 := bi_i q.1 a3 a4.1 b3 b4.1 w0.1
  refine ⟨⟨fun i hi => (b1 i hi).trans ((a1 i hi).trans (f1 i hi)), ?_, ?_, ⟨?_, ?_⟩, ?_, ?_⟩, b7.trans (a7.trans f6), fun i hi => (b8 i hi).trans ((a8 i hi).trans (f7 i hi)), ?_, ?_, ?_, pf2, ?_, ?_, ?_⟩
  · show S3.1 42 = Int32.ofNat (k + (1 + tsz A + tsz B))
    rw [ek]; exact b2
  · show (S3.1 48).toInt = (S.1 48).toInt + (w.toInt + (wsm A (w.toInt + if (lT x).1 = 6 then 1 else 0) + wsm B (w.toInt + if (lT x).1 = 5 then 1 else 0)))
    rw [w6]
    exact w8.1
  · show 0 ≤ w.toInt + (wsm A (w.toInt + if (lT x).1 = 6 then 1 else 0) + wsm B (w.toInt + if (lT x).1 = 5 then 1 else 0))
    rw [w6]
    exact w8.2
  · show (S3.1 48).toInt ≤ 1000 * ((k + (1 + tsz A + tsz B) : Nat) : Int)
    rw [ek]; exact b4.2
  · show (S3.1 47).toInt = (S.1 47).toInt + ((if (lT x).1 = 1 then 1 else 0) + (pas A + pas B))
    rw [b5, a5, q.2, Int.add_assoc, Int.add_assoc]
  · show (S3.1 49).toInt = max (S.1 49).toInt (max (d : Int) (max (dmx A (d + if (lT x).1 = 8 then 1 else 0)) (dmx B (d + if (lT x).1 = 8 then 1 else 0))))
    rw [b6, a6, q9, d8, Int.max_assoc, Int.max_assoc]
  · intro i j hi hi' hj
    rw [b9 i j hi hi' (by omega), a9 i j hi hi' (by omega)]
    exact ah i j hi hi' hj
  · intro j hj
    obtain ⟨u1, u2⟩ := a10 j (by omega)
    obtain ⟨v1, v2⟩ := b10 j (by omega)
    have ne : ¬ Int32.ofNat k = Int32.ofNat j := fun t => absurd (ofn_i (by omega) (by omega) t) (by omega)
    rw [if_neg (fun t => ne t.1)] at u1 u2 v1 v2
    rw [v1, v2, u1, u2]
    exact g8.2.2 j hj
  · show ∀ j i, j < k + (1 + tsz A + tsz B) → S3.2.1 60 j = Int32.ofNat i → i < 1200 → i < k + (1 + tsz A + tsz B)
    rw [ek]; exact b11
  · refine ly_rowe W p0 ot' (fun i hi hi' => (b9 i k hi hi' (by omega)).trans (a9 i k hi hi' (by omega))) ?_ ?_ (fun y j hj => ?_) row
    · rw [(b10 k (by omega)).1, if_neg (fun t => absurd t.2 (by decide)), (a10 k (by omega)).1, if_pos ⟨rfl, rfl⟩]
    · rw [(b10 k (by omega)).2, if_pos ⟨rfl, rfl⟩]
    · have g := hG y
      obtain ⟨p1, p2⟩ := pp g
      obtain ⟨x1, x2, x3, x4⟩ := (b12.2.2.2 (by omega)).2 j (by omega)
      obtain ⟨y1, y2, y3, y4⟩ := (a12.2.2.2 (by omega)).2 j (by omega)
      exact ⟨x1.trans y1, x2.trans y2, x3.trans y3, x4.trans y4⟩
  · show LPr G True pk pf xx S3.2.1 A (k + 1) (Int32.ofNat k) (w.toInt + if (lT x).1 = 6 then 1 else 0) (if (lT x).1 = 8 then Int32.ofNat k else tr) ((S.1 47).toInt + if (lT x).1 = 1 then 1 else 0) ((S.1 43).toInt + txx xx (lT x).2.2.2.2.2)
    rw [← q.2, w6, if_neg n8]
    refine LPr_c A _ _ _ _ _ (S1.1 43).toInt _ (fun y => (pp (hG y)).1) ?_
    refine LPr_e W hθ A _ _ _ _ _ _ _ hO.2.1 c1 (fun i j hi j1 j2 => ?_) (fun y j j1 j2 => ?_) aL
    · by_cases c : i = 52 ∨ i = 53
      · obtain ⟨v1, v2⟩ := b10 j (by omega)
        have ne : ¬ Int32.ofNat k = Int32.ofNat j := fun t => absurd (ofn_i (by omega) (by omega) t) (by omega)
        rw [if_neg (fun t => ne t.1)] at v1 v2
        rcases c with c | c <;> subst c
        · exact v1
        · exact v2
      · exact b9 i j hi c (by omega)
    · have g := hG y
      obtain ⟨p1, p2⟩ := pp g
      exact (b12.2.2.2 (by omega)).2 j (by omega)
  · show LPr G True pk pf xx S3.2.1 B (k + 1 + tsz A) (Int32.ofNat k) (w.toInt + if (lT x).1 = 5 then 1 else 0) (if (lT x).1 = 8 then Int32.ofNat k else tr) ((S.1 47).toInt + (if (lT x).1 = 1 then 1 else 0) + pas A) ((S.1 43).toInt + txx xx (lT x).2.2.2.2.2 + tsm xx A)
    rw [← q.2, ← a5, if_neg n8]
    exact LPr_c B _ _ _ _ _ (S2.1 43).toInt _ (fun y => (pp (hG y)).2) bL
theorem lay_T (W : pcW names pk pf ps xx m) (hm : m ≤ 1000) (hθ : ∀ V e, θ V e → 0 ≤ e.toInt ∧ e.toInt < (m : Int) ∧ 1 ≤ (xx e.toInt.toNat).toInt ∧ (xx e.toInt.toNat).toInt ≤ 2000) : ∀ (T : tT) (V : Int32 → Prop) (S z : md_S) (n k d : Nat) (s up ot w tr : Int32), okT θ V T → repR S T s → lyS pk pf ps S k d tr → n ≤ 1208 → S.2.1 39 n = s → upK S (S.2.1 40 n) k up ot w tr → d + tdp T ≤ 4000 → (S.1 43).toInt + tsm xx T ≤ 80000 → 0 ≤ w.toInt → w.toInt + (twd T : Int) ≤ 1000 → (G → (S.1 43).toInt + tsm xx T ≤ 1000) → dc_it mm_lay_I_s16 (S, Int32.ofNat (n + 1)) = some z → k + tsz T ≤ 1200 ∧ ∃ S', dc_it mm_lay_I_s16 (S', Int32.ofNat n) = some z ∧ lyT G pk pf xx T S S' k up ot w tr d ∧ ∀ j, j < n → S'.2.1 39 j = S.2.1 39 j ∧ S'.2.1 40 j = S.2.1 40 j
  | .const x, V, S, z, n, k, d, s, up, ot, w, tr, hO, hR, s0, hn, h39, hu, hd, hp, w0, w1, hG, hz => by
    obtain ⟨hs, hr⟩ := hR
    have hd : d + 0 ≤ 4000 := hd
    have w1 : w.toInt + ((0 : Nat) : Int) ≤ 1000 := w1
    have hp : (S.1 43).toInt + txx xx (lT x).2.2.2.2.2 ≤ 80000 := hp
    have hG : G → (S.1 43).toInt + txx xx (lT x).2.2.2.2.2 ≤ 1000 := hG
    have ot' := ok_t hθ (Or.inl hO)
    have tx := txx_0 ot'
    obtain ⟨e1, e2, e3⟩ := s_of hs s0.1.2.2
    obtain ⟨hk, S1, hF, hpl, j1, j2, j3⟩ := lay_1 W hm (by omega) s0.1.1 s0.1.2.1 e2 (h39.trans e1) hr hu (by omega) s0.2.1.1 s0.2.1.2.1 s0.2.1.2.2 s0.2.2.1.1 s0.2.2.1.2.1 s0.2.2.1.2.2 s0.2.2.2.1 (by omega) (ot'.imp id (fun u => ⟨u.1, u.2.1, u.2.2.2⟩)) hz
    refine ⟨hk, S1, j1 rfl rfl, ?_, hpl⟩
    have q := ly_48 hF s0 ⟨w0, by omega⟩ hk
    have q9 := ly_49 hF (by omega)
    have ch := (ly_ch hF s0 ⟨w0, by omega⟩ hk (by omega)).1
    have row := ly_row hF hG
    have c8 := s0.2.2.2.2.1
    obtain ⟨⟨f1, f2, f3, f4, f5⟩, f6, f7, ⟨g1, g2, g3, g4, g5, g6⟩, g7, g8, f8, f9, f10, f11⟩ := hF
    refine ⟨⟨f1, f2, q.1, ⟨w0, ?_⟩, q.2, q9⟩, f6, f7, ?_, g8.2.2, ch.2.1.2.2, ⟨f8, f9, f10, fun t => ⟨(f11 t).1, (f11 t).2.1⟩⟩, row⟩
    · show (S1.1 48).toInt ≤ 1000 * ((k + 1 : Nat) : Int)
      omega
    · intro i j hi hi' hj
      have hi : i = 51 ∨ i = 54 ∨ i = 56 ∨ i = 57 ∨ i = 58 ∨ i = 60 ∨ i = 62 := by omega
      rcases hi with e | e | e | e | e | e | e <;> subst e
      · rw [g1, upd_n (by omega)]
      · exact g7.1 j (by omega)
      · rw [g2, upd_n (by omega)]
      · rw [g4, upd_n (by omega)]
      · rw [g3, upd_n (by omega)]
      · rw [g5, upd_n (by omega)]
      · rw [g6, upd_n (by omega)]
  | .unary x A, V, S, z, n, k, d, s, up, ot, w, tr, hO, hR, s0, hn, h39, hu, hd, hp, w0, w1, hG, hz => by
    obtain ⟨hs, s1, -, hr, hRa⟩ := hR
    have hd : d + ((if (lT x).1 = 8 then 1 else 0) + tdp A) ≤ 4000 := hd
    have w1 : w.toInt + (((if (lT x).1 = 6 then 1 else 0) + twd A : Nat) : Int) ≤ 1000 := w1
    have hp : (S.1 43).toInt + (txx xx (lT x).2.2.2.2.2 + tsm xx A) ≤ 80000 := hp
    have hG : G → (S.1 43).toInt + (txx xx (lT x).2.2.2.2.2 + tsm xx A) ≤ 1000 := hG
    have ot' := ok_t hθ (Or.inr (Or.inl hO.1))
    have tx := txx_0 ot'
    obtain ⟨ta, tz, tp, tq⟩ := tsm_0 hθ A _ hO.2
    obtain ⟨e1, e2, e3⟩ := s_of hs s0.1.2.2
    have hs1 : 0 ≤ s1.toInt ∧ s1.toInt < (S.1 27).toInt := by
      cases A with
      | const _ => exact hRa.1
      | unary _ _ => exact hRa.1
      | binary _ _ _ => exact hRa.1
      | _ => exact hRa.elim
    obtain ⟨-, -, e4⟩ := s_of hs1 s0.1.2.2
    have w1' : w.toInt ≤ 1000 := by omega
    obtain ⟨hk, S1, hF, hpl, j1, j2, j3⟩ := lay_1 W hm (by omega) s0.1.1 s0.1.2.1 e2 (h39.trans e1) hr hu (by omega) s0.2.1.1 s0.2.1.2.1 s0.2.1.2.2 s0.2.2.1.1 s0.2.2.1.2.1 s0.2.2.1.2.2 s0.2.2.2.1 (by omega) (ot'.imp id (fun u => ⟨u.1, u.2.1, u.2.2.2⟩)) hz
    obtain ⟨n1, k39, k40, hz1⟩ := j2 rfl e4
    have q := ly_48 hF s0 ⟨w0, by omega⟩ hk
    have q9 := ly_49 hF (by omega)
    obtain ⟨ch, r51, r57, r60⟩ := ly_ch hF s0 ⟨w0, by omega⟩ hk (by omega)
    have f1 := hF.1.1
    have f7 := hF.2.2.1
    have f9 := hF.2.2.2.2.2.2.2.1
    have p0 := s0.2.2.2.1
    have f11 : G → (S1.1 43).toInt = (S.1 43).toInt + txx xx (lT x).2.2.2.2.2 := fun y => (hF.2.2.2.2.2.2.2.2.2 (by have := hG y; omega)).1
    have wb : w.toInt + (if (lT x).1 = 6 then 1 else 0) + (twd A : Int) ≤ 1000 := by
      by_cases c : (lT x).1 = 6
      · rw [if_pos c] at w1 ⊢; omega
      · rw [if_neg c] at w1 ⊢; omega
    have wi : (w + (if (lT x).1 = 6 then 1 else 0) : Int32).toInt = w.toInt + (if (lT x).1 = 6 then 1 else 0) := i_ad1 (by omega)
    have huA : upK S1 (S1.2.1 40 n) (k + 1) (Int32.ofNat k) 0 (w + (if (lT x).1 = 6 then 1 else 0)) (if (lT x).1 = 8 then Int32.ofNat k else tr) := by
      refine Or.inr ⟨k, by omega, rfl, Or.inl ⟨k40, rfl⟩, ?_, ?_⟩
      · rw [r57, r51]
        refine congrArg (w + ·) ?_
        by_cases c : (lT x).1 = 6
        · rw [if_pos c, if_pos (Or.inl c)]
        · rw [if_neg c, if_neg (fun t => t.elim c (fun t => absurd t.2 (by decide)))]
      · rw [r51, r60]
    obtain ⟨hkA, S2, hz2, hA, hplA⟩ := lay_T W hm hθ A _ S1 z n (k + 1) _ s1 (Int32.ofNat k) 0 _ _ hO.2 (repR_fr (f1 27 (by omega)) (fun i i1 i2 => f7 i (by omega)) A s1 hRa) ch hn k39 huA (by rw [Nat.add_assoc]; exact hd) (by omega) (by rw [wi]; split <;> omega) (by rw [wi]; exact wb) (fun y => by have := hG y; omega) hz1
    refine ⟨?_, S2, hz2, ly_un W hθ hO s0 hF ⟨w0, w1'⟩ wi hk (by omega) hG hA, fun j hj => ⟨((hplA j hj).1).trans (hpl j hj).1, ((hplA j hj).2).trans (hpl j hj).2⟩⟩
    show k + (1 + tsz A) ≤ 1200
    omega
  | .binary x A B, V, S, z, n, k, d, s, up, ot, w, tr, hO, hR, s0, hn, h39, hu, hd, hp, w0, w1, hG, hz => by
    obtain ⟨hs, s1, s2, -, -, hr, hRa, hRb⟩ := hR
    have hd : d + max (tdp A) (tdp B) ≤ 4000 := hd
    have w1 : w.toInt + ((max (twd A) ((if (lT x).1 = 5 then 1 else 0) + twd B) : Nat) : Int) ≤ 1000 := w1
    have hp : (S.1 43).toInt + (txx xx (lT x).2.2.2.2.2 + (tsm xx A + tsm xx B)) ≤ 80000 := hp
    have hG : G → (S.1 43).toInt + (txx xx (lT x).2.2.2.2.2 + (tsm xx A + tsm xx B)) ≤ 1000 := hG
    have ot' := ok_t hθ (Or.inr (Or.inr hO.1))
    have tx := txx_0 ot'
    obtain ⟨ta, tz, tp, tq⟩ := tsm_0 hθ A _ hO.2.1
    obtain ⟨tb, tzb, tpb, tqb⟩ := tsm_0 hθ B _ hO.2.2
    obtain ⟨e1, e2, e3⟩ := s_of hs s0.1.2.2
    have n6 : ¬ (lT x).1 = 6 := by rcases hO.1.1 with ⟨y, -⟩ | ⟨y | y, -⟩ <;> (rw [y]; decide)
    have n8 : ¬ (lT x).1 = 8 := by rcases hO.1.1 with ⟨y, -⟩ | ⟨y | y, -⟩ <;> (rw [y]; decide)
    have hs1 : ∀ (C : tT) (y : Int32), repR S C y → 0 ≤ y.toInt ∧ y.toInt < (S.1 27).toInt := by
      intro C y hC
      cases C with
      | const _ => exact hC.1
      | unary _ _ => exact hC.1
      | binary _ _ _ => exact hC.1
      | _ => exact hC.elim
    obtain ⟨-, -, e4⟩ := s_of (hs1 A s1 hRa) s0.1.2.2
    obtain ⟨-, -, e5⟩ := s_of (hs1 B s2 hRb) s0.1.2.2
    have w1' : w.toInt ≤ 1000 := by omega
    obtain ⟨hk, S1, hF, hpl, j1, j2, j3⟩ := lay_1 W hm (by omega) s0.1.1 s0.1.2.1 e2 (h39.trans e1) hr hu (by omega) s0.2.1.1 s0.2.1.2.1 s0.2.1.2.2 s0.2.2.1.1 s0.2.2.1.2.1 s0.2.2.1.2.2 s0.2.2.2.1 (by omega) (ot'.imp id (fun u => ⟨u.1, u.2.1, u.2.2.2⟩)) hz
    obtain ⟨n1, k39, k40, k39', k40', hz1⟩ := j3 e5 e4
    clear j1 j2 j3
    have q := ly_48 hF s0 ⟨w0, by omega⟩ hk
    have q9 := ly_49 hF (by omega)
    obtain ⟨ch, r51, r57, r60⟩ := ly_ch hF s0 ⟨w0, by omega⟩ hk (by omega)
    rw [if_neg n8, if_neg n8, Nat.add_zero] at ch
    have f1 := hF.1.1
    have f7 := hF.2.2.1
    have f9 := hF.2.2.2.2.2.2.2.1
    have p0 := s0.2.2.2.1
    have f11 : G → (S1.1 43).toInt = (S.1 43).toInt + txx xx (lT x).2.2.2.2.2 := fun y => (hF.2.2.2.2.2.2.2.2.2 (by have := hG y; omega)).1
    have wb : w.toInt + (if (lT x).1 = 5 then 1 else 0) + (twd B : Int) ≤ 1000 := by
      by_cases c : (lT x).1 = 5
      · rw [if_pos c] at w1 ⊢; omega
      · rw [if_neg c] at w1 ⊢; omega
    have wi : (w + (if (lT x).1 = 5 then 1 else 0) : Int32).toInt = w.toInt + (if (lT x).1 = 5 then 1 else 0) := i_ad1 (by omega)
    have huA : upK S1 (S1.2.1 40 (n + 1)) (k + 1) (Int32.ofNat k) 0 w tr := by
      refine Or.inr ⟨k, by omega, rfl, Or.inl ⟨k40', rfl⟩, ?_, ?_⟩
      · rw [r57, r51, if_neg (fun t => t.elim n6 (fun t => absurd t.2 (by decide))), Int32.add_zero]
      · rw [r51, r60, if_neg n8]
    obtain ⟨hkA, S2, hz2, hA, hplA⟩ := lay_T W hm hθ A _ S1 z (n + 1) (k + 1) d s1 (Int32.ofNat k) 0 w tr hO.2.1 (repR_fr (f1 27 (by omega)) (fun i i1 i2 => f7 i (by omega)) A s1 hRa) ch (by omega) k39' huA (by omega) (by omega) w0 (by omega) (fun y => by have := hG y; omega) hz1
    have sB := ly_nx hA ch hkA ⟨tp, tq⟩
    have a1 := hA.1.1
    have a8 := hA.2.2.1
    have a9 := hA.2.2.2.1
    have a13 := hA.2.2.2.2.2.2.1.2.1
    have a15 : G → (S2.1 43).toInt = (S1.1 43).toInt + tsm xx A := fun y => (hA.2.2.2.2.2.2.1.2.2.2 (by have := hG y; have := f11 y; omega)).1
    have huB : upK S2 (S2.2.1 40 n) (k + 1 + tsz A) (Int32.ofNat k) 1 (w + (if (lT x).1 = 5 then 1 else 0)) tr := by
      refine Or.inr ⟨k, by omega, rfl, Or.inr ⟨((hplA n (by omega)).2).trans k40, rfl⟩, ?_, ?_⟩
      · rw [a9 57 k (by omega) (by omega) (by omega), a9 51 k (by omega) (by omega) (by omega), r57, r51]
        refine congrArg (w + ·) ?_
        by_cases c : (lT x).1 = 5
        · rw [if_pos c, if_pos (Or.inr ⟨c, rfl⟩)]
        · rw [if_neg c, if_neg (fun t => t.elim n6 (fun t => c t.1))]
      · rw [a9 60 k (by omega) (by omega) (by omega), a9 51 k (by omega) (by omega) (by omega), r51, r60, if_neg n8]
    have fr2 : ∀ i, ¬ lyI i → S2.2.1 i = S.2.1 i := fun i hi => (a8 i hi).trans (f7 i hi)
    have fi2 : ∀ i, ¬ (i = 42 ∨ i = 43 ∨ i = 47 ∨ i = 48 ∨ i = 49) → S2.1 i = S.1 i := fun i hi => (a1 i hi).trans (f1 i hi)
    obtain ⟨hkB, S3, hz3, hB, hplB⟩ := lay_T W hm hθ B _ S2 z n (k + 1 + tsz A) d s2 (Int32.ofNat k) 1 _ tr hO.2.2 (repR_fr (fi2 27 (by omega)) (fun i i1 i2 => fr2 i (by omega)) B s2 hRb) sB hn (((hplA n (by omega)).1).trans k39) huB (by omega) (by omega) (by rw [wi]; split <;> omega) (by rw [wi]; exact wb) (fun y => by have := hG y; omega) hz2
    refine ⟨?_, S3, hz3, ly_bi W hθ hO n6 n8 s0 hF ⟨w0, w1'⟩ wi hk (by omega) hG hkA hA hB, fun j hj => ⟨((hplB j hj).1).trans (((hplA j (by omega)).1).trans (hpl j hj).1), ((hplB j hj).2).trans (((hplA j (by omega)).2).trans (hpl j hj).2)⟩⟩
    show k + (1 + tsz A + tsz B) ≤ 1200
    omega
end LAYV
