/-! the reference's lay: a tree, whole: the steps put together -/
/-- where a node may be laid -/
def lyS (pk pf ps : Nat → Int32) (S : md_S) (k d : Nat) (tr : Int32) : Prop :=
  (k ≤ 1200 ∧ S.1 42 = Int32.ofNat k ∧ (S.1 27).toInt ≤ 1200) ∧ (TC (S.2.1 60) tr d ∧ (∀ j, tr = Int32.ofNat j → j < 1200 → j < k) ∧ ∀ j i, j < k → S.2.1 60 j = Int32.ofNat i → i < 1200 → i < k) ∧ (S.2.1 36 = pk ∧ S.2.1 37 = pf ∧ S.2.1 38 = ps) ∧ 0 ≤ (S.1 43).toInt ∧ (0 ≤ (S.1 48).toInt ∧ (S.1 48).toInt ≤ 1000 * (k : Int)) ∧ (0 ≤ (S.1 47).toInt ∧ (S.1 47).toInt ≤ (k : Int)) ∧ 0 ≤ (S.1 49).toInt
/-- what laying a tree has changed -/
def lyT (G : Prop) (pk pf xx : Nat → Int32) (T : tT) (S S' : md_S) (k : Nat) (up ot w tr : Int32) (d : Nat) : Prop :=
  ((∀ i, ¬ (i = 42 ∨ i = 43 ∨ i = 47 ∨ i = 48 ∨ i = 49) → S'.1 i = S.1 i) ∧ S'.1 42 = Int32.ofNat (k + tsz T) ∧ (S'.1 48).toInt = (S.1 48).toInt + wsm T w.toInt ∧ (0 ≤ wsm T w.toInt ∧ (S'.1 48).toInt ≤ 1000 * ((k + tsz T : Nat) : Int)) ∧ (S'.1 47).toInt = (S.1 47).toInt + pas T ∧ (S'.1 49).toInt = max (S.1 49).toInt (dmx T d)) ∧ S'.2.2 = S.2.2 ∧ (∀ i, ¬ lyI i → S'.2.1 i = S.2.1 i) ∧
  (∀ i j, nRi i → ¬ (i = 52 ∨ i = 53) → j < k → S'.2.1 i j = S.2.1 i j) ∧
  (∀ j, j < k → S'.2.1 52 j = (if up = Int32.ofNat j ∧ ot = 0 then Int32.ofNat k else S.2.1 52 j) ∧ S'.2.1 53 j = (if up = Int32.ofNat j ∧ ot = 1 then Int32.ofNat k else S.2.1 53 j)) ∧
  (∀ j i, j < k + tsz T → S'.2.1 60 j = Int32.ofNat i → i < 1200 → i < k + tsz T) ∧
  ((S.1 43).toInt ≤ (S'.1 43).toInt ∧ (S'.1 43).toInt ≤ (S.1 43).toInt + tsm xx T ∧ (1000 < (S.1 43).toInt + tsm xx T → 1000 < (S'.1 43).toInt) ∧
  ((S.1 43).toInt + tsm xx T ≤ 1000 → (S'.1 43).toInt = (S.1 43).toInt + tsm xx T ∧ ∀ j, j < (S.1 43).toInt.toNat → S'.2.1 63 j = S.2.1 63 j ∧ S'.2.1 64 j = S.2.1 64 j ∧ S'.2.1 65 j = S.2.1 65 j ∧ S'.2.1 66 j = S.2.1 66 j)) ∧
  LPr G True pk pf xx S'.2.1 T k up w.toInt tr (S.1 47).toInt (S.1 43).toInt
section LAYU
variable {names : Int32} {pk pf ps xx : Nat → Int32} {m : Nat} {θ : (Int32 → Prop) → Int32 → Prop} {G : Prop} {S S1 S2 : md_S} {n k d k1 : Nat} {x : lbT} {up ot w tr : Int32}
theorem ly_48 (h : lyF pk pf xx S S1 k x up ot w tr d) (s : lyS pk pf ps S k d tr) (hw : 0 ≤ w.toInt ∧ w.toInt ≤ 1000) (hk : k < 1200) : (S1.1 48).toInt = (S.1 48).toInt + w.toInt ∧ (S1.1 47).toInt = (S.1 47).toInt + (if x.1 = 1 then 1 else 0) := by
  have s1 := s.2.2.2.2.1
  have s2 := s.2.2.2.2.2.1
  refine ⟨?_, ?_⟩
  · rw [h.1.2.2.1, i_addS (by omega)]
  · rw [h.1.2.2.2.1, i_ad1 (by omega)]
theorem ly_49 (h : lyF pk pf xx S S1 k x up ot w tr d) (hd : d ≤ 5000) : (S1.1 49).toInt = max (S.1 49).toInt (d : Int) := by
  rw [h.1.2.2.2.2, max_i, Int32.toInt_ofNat_of_lt (by omega)]
theorem ly_ch (h : lyF pk pf xx S S1 k x up ot w tr d) (s : lyS pk pf ps S k d tr) (hw : 0 ≤ w.toInt ∧ w.toInt ≤ 1000) (hk : k < 1200) (hd : d ≤ 5000) : lyS pk pf ps S1 (k + 1) (d + if x.1 = 8 then 1 else 0) (if x.1 = 8 then Int32.ofNat k else tr) ∧ S1.2.1 51 k = x.1 ∧ S1.2.1 57 k = w ∧ S1.2.1 60 k = tr := by
  have q := ly_48 h s hw hk
  have q9 := ly_49 h hd
  obtain ⟨⟨a1, a2, a3⟩, ⟨t1, t2, t3⟩, ⟨p1, p2, p3⟩, c1, c2, c3, c4⟩ := s
  obtain ⟨⟨f1, f2, f3, f4, f5⟩, f6, f7, ⟨g1, g2, g3, g4, g5, g6⟩, g7, g8, f8, f9, f10, f11⟩ := h
  have tc : TC (S1.2.1 60) tr d := by
    rw [g5]
    exact TC_ext (k := k) d tr (fun j hj => upd_n (by omega)) t2 t3 t1
  refine ⟨⟨⟨by omega, f2, by rw [f1 27 (by omega)]; exact a3⟩, ⟨?_, ?_, ?_⟩, ⟨by rw [f7 36 (by omega)]; exact p1, by rw [f7 37 (by omega)]; exact p2, by rw [f7 38 (by omega)]; exact p3⟩, by omega, by omega, ?_, by omega⟩, by rw [g1, upd_s], by rw [g4, upd_s], by rw [g5, upd_s]⟩
  · by_cases c : x.1 = 8
    · rw [if_pos c, if_pos c]
      refine ⟨k, hk, rfl, ?_⟩
      rw [g5, upd_s, ← g5]
      exact tc
    · rw [if_neg c, if_neg c]
      exact tc
  · intro j hj hj'
    by_cases c : x.1 = 8
    · rw [if_pos c] at hj
      have := ofn_i (by omega) (by omega) hj
      omega
    · rw [if_neg c] at hj
      have := t2 j hj hj'
      omega
  · intro j i hj hi hi'
    rw [g5] at hi
    by_cases c : j = k
    · rw [c, upd_s] at hi
      have := t2 i hi hi'
      omega
    · rw [upd_n c] at hi
      have := t3 j i (by omega) hi hi'
      omega
  · have := q.2
    split at this <;> omega
theorem ly_nx {A : tT} {d1 : Nat} {up1 ot1 w1 tr1 : Int32} (h : lyT G pk pf xx A S1 S2 k1 up1 ot1 w1 tr1 d1) (s : lyS pk pf ps S1 k1 d tr) (hk : k1 + tsz A ≤ 1200) (hp : 0 ≤ pas A ∧ pas A ≤ (tsz A : Int)) : lyS pk pf ps S2 (k1 + tsz A) d tr := by
  obtain ⟨⟨a1, a2, a3⟩, ⟨t1, t2, t3⟩, ⟨p1, p2, p3⟩, c1, c2, c3, c4⟩ := s
  obtain ⟨⟨f1, f2, f3, f4, f5, f6⟩, f7, f8, f9, f10, f11, f12, -⟩ := h
  refine ⟨⟨hk, f2, by rw [f1 27 (by omega)]; exact a3⟩, ⟨?_, ?_, f11⟩, ⟨by rw [f8 36 (by omega)]; exact p1, by rw [f8 37 (by omega)]; exact p2, by rw [f8 38 (by omega)]; exact p3⟩, by omega, ⟨by omega, by omega⟩, ⟨by omega, by omega⟩, by omega⟩
  · exact TC_ext (k := k1) d tr (fun j hj => f9 60 j (by omega) (by omega) hj) t2 t3 t1
  · intro j hj hj'
    have := t2 j hj hj'
    omega
/-- the row itself, before those below are told -/
theorem ly_row (h : lyF pk pf xx S S1 k x up ot w tr d) (hG : G → (S.1 43).toInt + txx xx x.2.2.2.2.2 ≤ 1000) : lrow G True pk pf xx S1.2.1 k x (-1) (-1) up w.toInt tr (S.1 47).toInt (S.1 43).toInt := by
  obtain ⟨-, f6, f7, ⟨g1, g2, g3, g4, g5, g6⟩, ⟨g7, g9⟩, ⟨g8, g10, -⟩, f8, f9, f10, f11⟩ := h
  refine ⟨⟨by rw [g1, upd_s], g8, g10, by rw [g2, upd_s], by rw [g4, upd_s], by rw [g3, upd_s], by rw [g6, upd_s]⟩, fun c => ⟨fun e => ?_, fun e _ => ?_⟩, fun c y => ?_, fun _ => by rw [g5, upd_s]⟩
  · rw [g9 c, if_pos e]
  · rw [g9 c, if_neg e]
  · obtain ⟨-, -, u⟩ := f11 (hG y)
    obtain ⟨u1, u2, u3⟩ := u c
    exact ⟨by rw [u1], u2, u3⟩
/-- the row itself, when those below are told -/
theorem ly_rowe (W : pcW names pk pf ps xx m) {R R' : Nat → Nat → Int32} {f s : Int32} {w : Int} {t : Int32} {a c : Int} (h0 : 0 ≤ c) (ht : x.2.2.2.2.2 = -1 ∨ (0 ≤ x.2.2.2.2.2.toInt ∧ x.2.2.2.2.2.toInt < (m : Int) ∧ 1 ≤ (xx x.2.2.2.2.2.toInt.toNat).toInt ∧ (xx x.2.2.2.2.2.toInt.toNat).toInt ≤ 2000)) (e : ∀ i, nRi i → ¬ (i = 52 ∨ i = 53) → R' i k = R i k) (e2 : R' 52 k = f) (e3 : R' 53 k = s) (g : G → ∀ j : Nat, (j : Int) < c + txx xx x.2.2.2.2.2 → R' 63 j = R 63 j ∧ R' 64 j = R 64 j ∧ R' 65 j = R 65 j ∧ R' 66 j = R 66 j) (h : lrow G True pk pf xx R k x (-1) (-1) up w t a c) : lrow G True pk pf xx R' k x f s up w t a c := by
  obtain ⟨⟨h1, h2, h3, h4⟩, h5, h6, h7⟩ := h
  refine ⟨⟨by rw [e 51 (by omega) (by omega)]; exact h1, e2, e3, ?_⟩, ?_, fun n y => ?_, ?_⟩
  · rw [e 56 (by omega) (by omega), e 57 (by omega) (by omega), e 58 (by omega) (by omega), e 62 (by omega) (by omega)]; exact h4
  · rw [e 54 (by omega) (by omega)]; exact h5
  · obtain ⟨u1, u2, u3⟩ := h6 n y
    have tt := ht.resolve_left n
    have et : txx xx x.2.2.2.2.2 = (xx x.2.2.2.2.2.toInt.toNat).toInt := if_neg n
    have g := g y
    refine ⟨by rw [e 54 (by omega) (by omega)]; exact u1, PPr_ext W _ _ _ (by omega) (by omega) (fun j j1 j2 => ?_) u2, ?_⟩
    · have := g j (by omega)
      exact ⟨this.1, this.2.1, this.2.2.1⟩
    · rw [(g c.toNat (by omega)).2.2.2]
      exact u3
  · rw [e 60 (by omega) (by omega)]; exact h7
end LAYU
