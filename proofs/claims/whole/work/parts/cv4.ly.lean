/-! lay in step, where it was not laid -/
section LYS
variable {G : hg_E} {S : hg_S} {M r : md_S} {oA oN n cap cnt ins out pa : Nat} {bA bN : Nat → Nat} {qa : rsT} {o t u : Nat} {nn f st en rn : Int32} {rc hd sh : Value} {f9 : List Value}
theorem tbH_x (hX : EXa G S M oA bA qa cnt pa ins) (h46 : M.1 46 = Int32.ofNat out) (ho : out ≤ 31) (h47 : M.1 47 = Int32.ofNat pa) : tbH M cnt ins out pa := by
  obtain ⟨-, ⟨hs, hc, -⟩, ⟨-, e45, i4, p8⟩, -⟩ := hX
  have to : (Int32.ofNat out).toInt = (out : Int) := Int32.toInt_ofNat_of_lt (by omega)
  refine ⟨⟨hs.1.2.1, hs.1.2.2⟩, ⟨e45, i4⟩, ⟨h46, ho⟩, ⟨h47, p8⟩, hs.2.2.2.1, fun j i hj hi k hk => ?_⟩
  exact (hc j i (Or.inl ⟨hj, hi⟩)).2.2 k (by rw [h46, to]; omega)
theorem LYo_n (h : LYo M r cnt ins out pa n) : LYn r n (out + pa + 1) := ⟨h.2.1.2, h.2.2.1, h.2.2.2.1, h.2.2.2.2.1⟩
/-- the net was made: it is built, the engine notes it -/
theorem ntb_w {XN : Nat → Nat → Int32} {cN : Nat → Int32} (h0 : hw S) (he : hg_at S.1 o = some (.inr (0, enL t nn f (.ref u) rc hd sh st en rn (.ref oA) (.ref oN) 1 0))) (hX : EXa G S M oA bA qa cnt pa ins) (hL : LYo M r cnt ins out pa n) (ho : out ≤ 31) (hpu : hg_at S.1 u = some (.inr (9, f9))) (u1 : f9[1]? = some (.int (Int32.ofNat ins))) (u2 : f9[2]? = some (.int (Int32.ofNat out))) (u3 : f9[3]? = some (.int (Int32.ofNat pa))) (hv : NTv G S oN bN cap XN cN) (hinj : ∀ i j, i < 9 → j < 9 → bN i = bN j → i = j) (hc : ∃ x, cap = 256 * 2 ^ x) (hc2 : cap ≤ 32768) (hdj : ∀ i j, i < 9 → j < 8 → bN i ≠ bA j) (rm : 35 ≤ S.2.2.1 ∧ 10 * (32768 - cap) ≤ S.2.2.2) : dc_wp (hm_SE_lay_L40 G S o) (fun z => ∃ S' b' cap' q j, z = .inl (S', Int32.ofNat n) ∧ hw S' ∧ (cap' = cap * 2 ^ j ∧ S'.2 = (S.2.1 + 5 * j, S.2.2.1 - 5 * j, S.2.2.2 - 10 * (cap' - cap))) ∧ (∀ e, e < S.2.1 → e ≠ o → e ≠ oN → (∀ i, i < 9 → e ≠ bN i) → hg_at S'.1 e = hg_at S.1 e) ∧ hg_at S'.1 o = some (.inr (0, enL t nn f (.ref u) rc hd sh st en rn (.ref oA) (.ref oN) 1 1)) ∧ (∀ i, i < 9 → b' i = bN i ∨ S.2.1 ≤ b' i) ∧ NLa G S' r oN b' cap' q n (out + pa + 1) ∧ q.2 14 = 0) := by
  have hN : NW G (S, oN, bN, cap) S bN cap (XN, cN) := ⟨⟨h0, hinj⟩, hv, fun _ _ _ _ => rfl, ⟨fun i hi => Or.inl rfl, fun i hi => rfl⟩, 0, by simp, by simp⟩
  have aA := hX.1.1
  have hA : netA G (S, oN, bN, cap) oA bA qa := by
    refine ⟨hX.1, ⟨h0.lt aA.1, at_ne aA.1 hv.1 (fun z => by cases z), fun i hi => at_ne aA.1 (hv.2 i hi) (fun z => by cases z)⟩, fun k hk => ⟨h0.lt (aA.2 k hk), at_ne (aA.2 k hk) hv.1 (fun z => by cases z), fun i hi => (hdj i k hi hk).symm⟩⟩
  have un : u < S.2.1 ∧ u ≠ oN ∧ ∀ i, i < 9 → u ≠ bN i := ⟨h0.lt hpu, at_ne hpu hv.1 (fun z => by cases z), fun i hi => at_ne hpu (hv.2 i hi) (fun z => by cases z)⟩
  have on : o < S.2.1 ∧ o ≠ oN ∧ ∀ i, i < 9 → o ≠ bN i := ⟨h0.lt he, at_ne he hv.1 (fun z => by cases z), fun i hi => at_ne he (hv.2 i hi) (fun z => by cases z)⟩
  delta hm_SE_lay_L40
  refine wq_gr (x := some oN) he rfl ?_
  refine wq_gr (x := some u) he rfl ?_
  refine wq_gr (x := some oA) he rfl ?_
  refine wq_chk hv.1 ?_
  refine wq_call (bd_w (E := (S, oN, bN, cap)) ⟨hc, h0.lt hv.1, rm.1, rm.2⟩ hA hX hL ho hN hc2 hpu u1 u2 u3 un) ?_
  rintro S1 ⟨b', cap', q, made, ph, N1, I1, ⟨Q1, z14⟩, R1⟩
  have he1 : hg_at S1.1 o = some (.inr (0, enL t nn f (.ref u) rc hd sh st en rn (.ref oA) (.ref oN) 1 0)) := by rw [N1.2.2.1 o on.1 on.2.1 on.2.2]; exact he
  refine wq_pfT (fs' := enL t nn f (.ref u) rc hd sh st en rn (.ref oA) (.ref oN) 1 1) he1 (Nat.le_of_ble_eq_true rfl) rfl (fun S2 e2 => ?_)
  have he2 : hg_at S2.1 o = some (.inr (0, enL t nn f (.ref u) rc hd sh st en rn (.ref oA) (.ref oN) 1 1)) := by rw [← e2]; exact hu_self he1
  have ne2 : ∀ e, e ≠ o → hg_at S2.1 e = hg_at S1.1 e := fun e he => by rw [← e2]; exact hu_ne he
  have v1 : NTv G S1 oN b' cap' q.1 q.2 := N1.2.1
  have v2 : NTv G S2 oN b' cap' q.1 q.2 := ⟨by rw [ne2 _ (at_ne v1.1 he1 (fun z => by cases z))]; exact v1.1, fun i hi => by rw [ne2 _ (at_ne (v1.2 i hi) he1 (fun z => by cases z))]; exact v1.2 i hi⟩
  have en' := cnt_w (LYo_n hL) I1 R1
  have m2 : Int32.ofNat made - 2 = Int32.ofNat n := by
    rw [en', Int32.ofNat_add]
    exact Int32.add_sub_cancel _ _
  obtain ⟨j, j1, j2⟩ := N1.2.2.2.2
  have j1 : cap' = cap * 2 ^ j := j1
  have j2 : S1.2 = (S.2.1 + 5 * j, S.2.2.1 - 5 * j, S.2.2.2 - 10 * (cap' - cap)) := j2
  have p8 := hX.2.2.1.2.2.2
  delta hm_SE_lay_L60
  refine wq_gr (x := some oN) he2 rfl ?_
  refine wq_chk v2.1 ?_
  refine wq_call (P := fun v => v = Int32.ofNat n) ?_ (fun v ev => ?_)
  · delta hm_NT_multiplexers
    refine wq_gi (x := q.2 9) v2.1 rfl ?_
    exact ⟨_, rfl, by rw [I1.1.1, m2]⟩
  · subst ev
    refine ⟨_, rfl, S2, b', cap', q, j, rfl, by rw [← e2]; exact N1.1.1.hu, ⟨j1, by rw [← e2]; exact j2⟩, fun e e0 e1 e2' e3 => by rw [ne2 e e1]; exact N1.2.2.1 e e0 e2' e3, he2, N1.2.2.2.1.1, ⟨⟨v2, N1.1.2⟩, ⟨?_, I1.1.2.2.2⟩, ⟨Q1.2.2.2, by omega⟩, ⟨0, z14, by omega, fun k hk => ?_⟩, made, ph, ⟨I1.1, I1.2.1, I1.2.2.1, I1.2.2.2.1, I1.2.2.2.2.1, fun k _ => rfl⟩, R1⟩, z14⟩
    · obtain ⟨x, ex⟩ := hc
      exact ⟨x + j, by rw [j1, ex, Nat.pow_add, Nat.mul_assoc]⟩
    · rw [I1.2.2.2.2.2 k hk, il_0]
      exact ⟨by decide, by decide⟩
/-- where the net may be, if there is one -/
def ntH (G : hg_E) (S : hg_S) (tn : Value) (bA : Nat → Nat) (oN : Nat) (bN : Nat → Nat) (cap : Nat) : Prop := tn = .ref oN ∧ (∃ XN cN, NTv G S oN bN cap XN cN) ∧ (∀ i j, i < 9 → j < 9 → bN i = bN j → i = j) ∧ (∃ x, cap = 256 * 2 ^ x) ∧ cap ≤ 32768 ∧ ∀ i j, i < 9 → j < 8 → bN i ≠ bA j
theorem hp_le {e : va_E} {k : Nat} (h0 : hw S) {a : Nat} {x : va_E} (ha : hg_at S.1 a = some x) : hg_at (hp S e k).1 a = some x := by
  have := h0.lt ha
  rw [hp_ne (by omega)]; exact ha
/-- lay -/
theorem ntl_w {tn : Value} (h0 : hw S) (he : hg_at S.1 o = some (.inr (0, enL t nn f (.ref u) rc hd sh st en rn (.ref oA) tn 1 0))) (hX : EXa G S M oA bA qa cnt pa ins) (h85 : M.1 85 = 1) (h46 : M.1 46 = Int32.ofNat out) (ho : out ≤ 31) (h47 : M.1 47 = Int32.ofNat pa) (hpu : hg_at S.1 u = some (.inr (9, f9))) (u1 : f9[1]? = some (.int (Int32.ofNat ins))) (u2 : f9[2]? = some (.int (Int32.ofNat out))) (u3 : f9[3]? = some (.int (Int32.ofNat pa))) (hn : (tn = .null ∧ 45 ≤ S.2.2.1 ∧ 334684 ≤ S.2.2.2) ∨ (ntH G S tn bA oN bN cap ∧ 35 ≤ S.2.2.1 ∧ 10 * (32768 - cap) ≤ S.2.2.2)) {r : md_S × Int32} (hq : mm_lay_0 M = some r) : ∃ n, r.2 = Int32.ofNat n ∧ LYo M r.1 cnt ins out pa n ∧ dc_wp (hm_SE_lay G S o) (fun z => ∃ S' oN' b' cap' q j, z = .inl (S', r.2) ∧ hw S' ∧ ((tn = .null ∧ oN' = S.2.1 ∧ cap' = 256 * 2 ^ j ∧ S'.2 = (S.2.1 + 10 + 5 * j, S.2.2.1 - 10 - 5 * j, S.2.2.2 - 9564 - 10 * (cap' - 256)) ∧ (∀ i, i < 9 → S.2.1 ≤ b' i) ∧ ∀ e, e < S.2.1 → e ≠ o → hg_at S'.1 e = hg_at S.1 e) ∨ (ntH G S tn bA oN bN cap ∧ oN' = oN ∧ cap' = cap * 2 ^ j ∧ S'.2 = (S.2.1 + 5 * j, S.2.2.1 - 5 * j, S.2.2.2 - 10 * (cap' - cap)) ∧ (∀ i, i < 9 → b' i = bN i ∨ S.2.1 ≤ b' i) ∧ ∀ e, e < S.2.1 → e ≠ o → e ≠ oN → (∀ i, i < 9 → e ≠ bN i) → hg_at S'.1 e = hg_at S.1 e)) ∧ hg_at S'.1 o = some (.inr (0, enL t nn f (.ref u) rc hd sh st en rn (.ref oA) (.ref oN') 1 1)) ∧ NLa G S' r.1 oN' b' cap' q n (out + pa + 1) ∧ q.2 14 = 0) := by
  obtain ⟨r0, er0, n, enn, hL⟩ := lay_t (tbH_x hX h46 ho h47) h85
  have err : r0 = r := Option.some.inj (er0.symm.trans hq)
  subst err
  refine ⟨n, enn, hL, ?_⟩
  rw [enn]
  delta hm_SE_lay
  refine wq_gi (x := 1) he rfl ?_
  rw [if_neg (by decide)]
  refine wq_gi (x := 0) he rfl ?_
  rw [if_pos rfl]
  rcases hn with ⟨e, m1, m2⟩ | ⟨hn, m1, m2⟩
  · subst e
    refine wq_gr (x := none) he rfl ?_
    rw [if_pos rfl]
    refine wq_new (N := 15) (by omega) (by omega) ?_
    generalize hS1 : hp S (.inr (12, [.null, .null, .null, .null, .null, .null, .null, .null, .null, .int 0, .int 0, .int 0, .int 0, .int 0, .int 0])) 15 = S1
    have w1 : hw S1 := by rw [← hS1]; exact h0.hp
    have s1 : S1.2 = (S.2.1 + 1, S.2.2.1 - 1, S.2.2.2 - 15) := by rw [← hS1]; rfl
    have n1 : hg_at S1.1 S.2.1 = some (.inr (12, nt0)) := by rw [← hS1]; exact hp_self h0
    have k1 : ∀ e, e < S.2.1 → hg_at S1.1 e = hg_at S.1 e := fun e he => by rw [← hS1]; exact hp_ne (by omega)
    refine wq_call (nti_w (o := S.2.1) w1 n1 (by rw [s1]; show 9 ≤ S.2.2.1 - 1; omega) (by rw [s1]; show 9549 ≤ S.2.2.2 - 15; omega)) ?_
    rintro S2 ⟨⟨w2, s2⟩, k2, v2⟩
    have s2' : S2.2 = (S.2.1 + 10, S.2.2.1 - 10, S.2.2.2 - 9564) := by
      rw [s2, s1]
      show (S.2.1 + 1 + 9, S.2.2.1 - 1 - 9, S.2.2.2 - 15 - 9549) = _
      rw [Nat.add_assoc, Nat.sub_sub, Nat.sub_sub]
    have ol := h0.lt he
    have k2' : ∀ e, e < S.2.1 → hg_at S2.1 e = hg_at S.1 e := fun e he => by rw [k2 e (by rw [s1]; show e < S.2.1 + 1; omega) (by omega), k1 e he]
    have he2 : hg_at S2.1 o = some (.inr (0, enL t nn f (.ref u) rc hd sh st en rn (.ref oA) .null 1 0)) := by rw [k2' o ol]; exact he
    refine wq_pfT (fs' := enL t nn f (.ref u) rc hd sh st en rn (.ref oA) (.ref S.2.1) 1 0) he2 (Nat.le_of_ble_eq_true rfl) rfl (fun S3 e3 => ?_)
    have he3 : hg_at S3.1 o = some (.inr (0, enL t nn f (.ref u) rc hd sh st en rn (.ref oA) (.ref S.2.1) 1 0)) := by rw [← e3]; exact hu_self he2
    have ne3 : ∀ e, e ≠ o → hg_at S3.1 e = hg_at S2.1 e := fun e he => by rw [← e3]; exact hu_ne he
    have s3 : S3.2 = (S.2.1 + 10, S.2.2.1 - 10, S.2.2.2 - 9564) := by rw [← e3]; exact s2'
    have k3 : ∀ e, e < S.2.1 → e ≠ o → hg_at S3.1 e = hg_at S.1 e := fun e h1 h2 => by rw [ne3 e h2, k2' e h1]
    have aA := hX.1.1
    have bS : ∀ i, S1.2.1 + i = S.2.1 + 1 + i := fun i => by rw [s1]
    have v3 : NTv G S3 S.2.1 (fun i => S1.2.1 + i) 256 (fun _ _ => 0) (fun _ => 0) := ⟨by rw [ne3 _ (by omega)]; exact v2.1, fun i hi => by
      rw [ne3 _ (by show S1.2.1 + i ≠ o; rw [bS]; omega)]; exact v2.2 i hi⟩
    have X3 : EXa G S3 M oA bA qa cnt pa ins := ⟨⟨⟨by rw [k3 oA (h0.lt aA.1) (at_ne aA.1 he (fun z => by cases z))]; exact aA.1, fun i hi => by rw [k3 _ (h0.lt (aA.2 i hi)) (at_ne (aA.2 i hi) he (fun z => by cases z))]; exact aA.2 i hi⟩, hX.1.2⟩, hX.2⟩
    have hpu3 : hg_at S3.1 u = some (.inr (9, f9)) := by rw [k3 u (h0.lt hpu) (at_ne hpu he (fun z => by cases z))]; exact hpu
    have lb := ntb_w (by rw [← e3]; exact w2.hu) he3 X3 hL ho hpu3 u1 u2 u3 v3 (fun i j _ _ e => by have e : S1.2.1 + i = S1.2.1 + j := e; omega) ⟨0, rfl⟩ (by decide) (fun i j hi hj e => by
      have e : S1.2.1 + i = bA j := e
      have := h0.lt (aA.2 j hj)
      rw [bS] at e
      omega) (by rw [s3]; exact ⟨by show 35 ≤ S.2.2.1 - 10; omega, by show 10 * (32768 - 256) ≤ S.2.2.2 - 9564; omega⟩)
    refine wq_w lb ?_
    rintro z ⟨S', b', cap', q, j, ez, w', ⟨ec, s'⟩, k', e', b'', hN, z14⟩
    refine ⟨S', S.2.1, b', cap', q, j, ez, w', Or.inl ⟨rfl, rfl, ec, by rw [s', s3], fun i hi => ?_, fun e e0 e1 => ?_⟩, e', hN, z14⟩
    · rcases b'' i hi with h | h
      · rw [h, bS]; omega
      · rw [s3] at h
        have h : S.2.1 + 10 ≤ b' i := h
        omega
    · rw [k' e (by rw [s3]; show e < S.2.1 + 10; omega) e1 (by omega) (fun i hi => by rw [bS]; omega), k3 e e0 e1]
  · obtain ⟨e, ⟨XN, cN, hv⟩, hinj, hc, hc2, hdj⟩ := id hn
    subst e
    refine wq_gr (x := some oN) he rfl ?_
    rw [if_neg (fun z => by cases z)]
    refine wq_w (ntb_w h0 he hX hL ho hpu u1 u2 u3 hv hinj hc hc2 hdj ⟨m1, m2⟩) ?_
    rintro z ⟨S', b', cap', q, j, ez, w', ⟨ec, s'⟩, k', e', b'', hN, z14⟩
    exact ⟨S', oN, b', cap', q, j, ez, w', Or.inr ⟨hn, rfl, ec, s', b'', k'⟩, e', hN, z14⟩
end LYS
