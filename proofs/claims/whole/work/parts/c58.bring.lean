/-! names: one more, with room made -/
theorem wq_pfT {τ : Type} {S : hg_S} {a ci k : Nat} {fs fs' : List Value} {v : Value} {F : τ → Prop} (h : hg_at S.1 a = some (.inr (ci, fs))) (hk : k < fs.length) (hfs : fs.set k v = fs') {E : hg_S → Option τ} (kk : ∀ T, hu S a (.inr (ci, fs')) = T → dc_wp (E T) F) : dc_wp ((hg_pf S (some a) ci k v).bind E) F := wq_pf h hk (by rw [hfs]; exact kk _ rfl)
section BRING2
variable {G : hg_E} {S : hg_S} {a tx fA eA sA cap o n : Nat} {ff ee ss f : Nat → Int32} {made sc : Int32} {tk : Option Nat} {fr to ln fa : Int32}
/-- what bring comes to: arrays as they were, or three new ones of twice the room -/
def brP (G : hg_E) (S : hg_S) (a tx fA eA sA cap o n : Nat) (ff ee ss f : Nat → Int32) (made sc : Int32) (tk : Option Nat) (fr to ln fa : Int32) (q : hg_S × Int32) : Prop :=
  q.2 = made ∧ ∃ fA' eA' sA' cap' ff' ee' ss', nmv G q.1 a tx fA' eA' sA' cap' ff' ee' ss' (made + 1) (sc + 1) ∧ lxv G q.1 o tx n f tk fr to ln fa ∧ ndp a fA' eA' sA' o tx ∧ hw q.1 ∧ made.toInt < (cap' : Int) ∧
    ((fA' = fA ∧ eA' = eA ∧ sA' = sA ∧ cap' = cap ∧ q.1.2 = S.2) ∨ (fA' = S.2.1 ∧ eA' = S.2.1 + 1 ∧ sA' = S.2.1 + 2 ∧ cap' = 2 * cap ∧ made.toInt = (cap : Int) ∧ q.1.2 = (S.2.1 + 3, S.2.2.1 - 3, S.2.2.2 - 6 * cap))) ∧
    (∀ i, i < made.toInt.toNat → ff' i = ff i ∧ ee' i = ee i) ∧ ff' made.toInt.toNat = fr ∧ ee' made.toInt.toNat = to - fr ∧ (∀ i, i < sc.toInt.toNat → ss' i = ss i) ∧ ss' sc.toInt.toNat = made ∧
    ∀ b, b ≠ a → b ≠ fA' → b ≠ eA' → b ≠ sA' → b ≠ fA → b ≠ eA → b ≠ sA → hg_at q.1.1 b = hg_at S.1 b
theorem bring_w (h : nmv G S a tx fA eA sA cap ff ee ss made sc) (v : lxv G S o tx n f tk fr to ln fa) (d : ndp a fA eA sA o tx) (hw0 : hw S) (m0 : 0 ≤ made.toInt) (m1 : made.toInt ≤ (cap : Int)) (s0 : 0 ≤ sc.toInt) (s1 : sc.toInt ≤ made.toInt) (hcap : cap ≤ 70000) (hcap1 : 1 ≤ cap) (hc : 3 ≤ S.2.2.1) (hs : 6 * cap ≤ S.2.2.2) : dc_wp (hm_NM_bring G S a (some o)) (brP G S a tx fA eA sA cap o n ff ee ss f made sc tk fr to ln fa) := by
  have aN : (Int32.ofNat cap).toInt = (cap : Int) := Int32.toInt_ofNat_of_lt (by omega)
  have la := hw0.lt h.1
  have lf := hw0.lt h.2.1
  have le := hw0.lt h.2.2.1
  have ls := hw0.lt h.2.2.2
  have lo := hw0.lt v.1
  have lt := hw0.lt v.2.1
  delta hm_NM_bring
  refine wq_gi (x := made) h.1 rfl ?_
  refine wq_gr (x := some fA) h.1 rfl ?_
  refine wq_ln h.2.1 ?_
  refine wq_if (fun c1 => ?_) (fun c1 => ?_)
  · have c2 := i_eq.mp c1
    rw [aN] at c2
    have d2 : (2 * made).toInt = ((2 * cap : Nat) : Int) := by rw [i_mulS (by rw [il_2]; omega), il_2]; omega
    obtain ⟨⟨d_1, d_2, d_3, d_4, d_5⟩, ⟨d_6, d_7, d_8, d_9⟩, ⟨d_10, d_11, d_12⟩, ⟨d_13, d_14⟩, d_15⟩ := d
    refine wq_gr (x := some fA) h.1 rfl ?_
    refine wq_gi (x := made) h.1 rfl ?_
    refine wq_call (cpI_w h.2.1 hw0 d2 (by omega) (by omega) (by omega) (by omega)) ?_
    rintro ⟨P1, r1⟩ ⟨e1, g1, p1, p2, p3, p4, p5⟩
    have e1 : r1 = some S.2.1 := e1
    subst e1
    have p1 : hg_at P1.1 S.2.1 = some (.inl (G.1 0, 2 * cap, .inl g1)) := p1
    have p3 : ∀ b, b ≠ S.2.1 → hg_at P1.1 b = hg_at S.1 b := p3
    have p4 : P1.2 = (S.2.1 + 1, S.2.2.1 - 1, S.2.2.2 - 2 * cap) := p4
    have p5 : hw P1 := p5
    have q1 : hg_at P1.1 a = some (.inr (3, [.ref tx, .ref fA, .ref eA, .ref sA, .int made, .int sc])) := (p3 a (by omega)).trans h.1
    refine wq_pfT (fs' := [.ref tx, .ref S.2.1, .ref eA, .ref sA, .int made, .int sc]) q1 (by simp) rfl ?_
    intro T1 hT1
    have t1 : hg_at T1.1 a = some (.inr (3, [.ref tx, .ref S.2.1, .ref eA, .ref sA, .int made, .int sc])) := by rw [← hT1]; exact hu_self q1
    have t2 : ∀ b, b ≠ a → hg_at T1.1 b = hg_at P1.1 b := fun b hb => by rw [← hT1, hu_ne hb]
    have t3 : T1.2 = (S.2.1 + 1, S.2.2.1 - 1, S.2.2.2 - 2 * cap) := by rw [← hT1]; exact p4
    have t4 : hw T1 := by rw [← hT1]; exact p5.hu
    have t31 : T1.2.1 = S.2.1 + 1 := by rw [t3]
    have t32 : T1.2.2.1 = S.2.2.1 - 1 := by rw [t3]
    have t33 : T1.2.2.2 = S.2.2.2 - 2 * cap := by rw [t3]
    have t5 : hg_at T1.1 eA = some (.inl (G.1 0, cap, .inl ee)) := (t2 eA (by omega)).trans ((p3 eA (by omega)).trans h.2.2.1)
    refine wq_gr (x := some eA) t1 rfl ?_
    refine wq_gi (x := made) t1 rfl ?_
    refine wq_call (cpI_w t5 t4 d2 (by omega) (by omega) (by omega) (by omega)) ?_
    rintro ⟨P2, r2⟩ ⟨e2, g2, u1, u2, u3, u4, u5⟩
    rw [t31] at e2 u1 u3
    have e2 : r2 = some (S.2.1 + 1) := e2
    subst e2
    have u1 : hg_at P2.1 (S.2.1 + 1) = some (.inl (G.1 0, 2 * cap, .inl g2)) := u1
    have u3 : ∀ b, b ≠ S.2.1 + 1 → hg_at P2.1 b = hg_at T1.1 b := u3
    have u4 : P2.2 = (T1.2.1 + 1, T1.2.2.1 - 1, T1.2.2.2 - 2 * cap) := u4
    have u5 : hw P2 := u5
    have w1 : hg_at P2.1 a = some (.inr (3, [.ref tx, .ref S.2.1, .ref eA, .ref sA, .int made, .int sc])) := (u3 a (by omega)).trans t1
    refine wq_pfT (fs' := [.ref tx, .ref S.2.1, .ref (S.2.1 + 1), .ref sA, .int made, .int sc]) w1 (by simp) rfl ?_
    intro T2 hT2
    have x1 : hg_at T2.1 a = some (.inr (3, [.ref tx, .ref S.2.1, .ref (S.2.1 + 1), .ref sA, .int made, .int sc])) := by rw [← hT2]; exact hu_self w1
    have x2 : ∀ b, b ≠ a → hg_at T2.1 b = hg_at P2.1 b := fun b hb => by rw [← hT2, hu_ne hb]
    have x3 : T2.2 = (S.2.1 + 2, S.2.2.1 - 2, S.2.2.2 - 4 * cap) := by
      rw [← hT2]
      show P2.2 = _
      rw [u4, t31, t32, t33]
      refine Prod.ext rfl (Prod.ext ?_ ?_)
      · show S.2.2.1 - 1 - 1 = S.2.2.1 - 2; omega
      · show S.2.2.2 - 2 * cap - 2 * cap = S.2.2.2 - 4 * cap; omega
    have x4 : hw T2 := by rw [← hT2]; exact u5.hu
    have x31 : T2.2.1 = S.2.1 + 2 := by rw [x3]
    have x32 : T2.2.2.1 = S.2.2.1 - 2 := by rw [x3]
    have x33 : T2.2.2.2 = S.2.2.2 - 4 * cap := by rw [x3]
    have x5 : hg_at T2.1 sA = some (.inl (G.1 0, cap, .inl ss)) := (x2 sA (by omega)).trans ((u3 sA (by omega)).trans ((t2 sA (by omega)).trans ((p3 sA (by omega)).trans h.2.2.2)))
    refine wq_gr (x := some sA) x1 rfl ?_
    refine wq_gi (x := made) x1 rfl ?_
    refine wq_call (cpI_w x5 x4 d2 (by omega) (by omega) (by omega) (by omega)) ?_
    rintro ⟨P3, r3⟩ ⟨e3, g3, y1, y2, y3, y4, y5⟩
    rw [x31] at e3 y1 y3
    have e3 : r3 = some (S.2.1 + 2) := e3
    subst e3
    have y1 : hg_at P3.1 (S.2.1 + 2) = some (.inl (G.1 0, 2 * cap, .inl g3)) := y1
    have y3 : ∀ b, b ≠ S.2.1 + 2 → hg_at P3.1 b = hg_at T2.1 b := y3
    have y4 : P3.2 = (T2.2.1 + 1, T2.2.2.1 - 1, T2.2.2.2 - 2 * cap) := y4
    have y5 : hw P3 := y5
    have z1 : hg_at P3.1 a = some (.inr (3, [.ref tx, .ref S.2.1, .ref (S.2.1 + 1), .ref sA, .int made, .int sc])) := (y3 a (by omega)).trans x1
    refine wq_pfT (fs' := [.ref tx, .ref S.2.1, .ref (S.2.1 + 1), .ref (S.2.1 + 2), .int made, .int sc]) z1 (by simp) rfl ?_
    intro T3 hT3
    have k1 : hg_at T3.1 a = some (.inr (3, [.ref tx, .ref S.2.1, .ref (S.2.1 + 1), .ref (S.2.1 + 2), .int made, .int sc])) := by rw [← hT3]; exact hu_self z1
    have k2 : ∀ b, b ≠ a → hg_at T3.1 b = hg_at P3.1 b := fun b hb => by rw [← hT3, hu_ne hb]
    have k3 : T3.2 = (S.2.1 + 3, S.2.2.1 - 3, S.2.2.2 - 6 * cap) := by
      rw [← hT3]
      show P3.2 = _
      rw [y4, x31, x32, x33]
      refine Prod.ext rfl (Prod.ext ?_ ?_)
      · show S.2.2.1 - 2 - 1 = S.2.2.1 - 3; omega
      · show S.2.2.2 - 4 * cap - 2 * cap = S.2.2.2 - 6 * cap; omega
    have k4 : hw T3 := by rw [← hT3]; exact y5.hu
    -- whatever was below the old top and isn't the table
    have far : ∀ b, b ≠ a → b ≠ S.2.1 → b ≠ S.2.1 + 1 → b ≠ S.2.1 + 2 → hg_at T3.1 b = hg_at S.1 b := fun b h1 h2 h3 h4 => (k2 b h1).trans ((y3 b h4).trans ((x2 b h1).trans ((u3 b h3).trans ((t2 b h1).trans (p3 b h2)))))
    have n1 : nmv G T3 a tx S.2.1 (S.2.1 + 1) (S.2.1 + 2) (2 * cap) g1 g2 g3 made sc := ⟨k1, (k2 _ (by omega)).trans ((y3 _ (by omega)).trans ((x2 _ (by omega)).trans ((u3 _ (by omega)).trans ((t2 _ (by omega)).trans p1)))), (k2 _ (by omega)).trans ((y3 _ (by omega)).trans ((x2 _ (by omega)).trans u1)), (k2 _ (by omega)).trans y1⟩
    have n2 : lxv G T3 o tx n f tk fr to ln fa := ⟨(far o (by omega) (by omega) (by omega) (by omega)).trans v.1, (far tx (by omega) (by omega) (by omega) (by omega)).trans v.2.1, v.2.2⟩
    have n3 : ndp a S.2.1 (S.2.1 + 1) (S.2.1 + 2) o tx := ⟨⟨by omega, by omega, by omega, by omega, by omega⟩, ⟨by omega, by omega, by omega, by omega⟩, ⟨by omega, by omega, by omega⟩, ⟨by omega, by omega⟩, by omega⟩
    obtain ⟨q, eq, o1, o2, o3, o4, o5⟩ := br63 n1 n2 n3 m0 (by omega) s0 (by omega) (by omega)
    have o6 : hw q.1 := by
      intro b hb
      rw [o4, k3] at hb
      have hb : S.2.1 + 3 ≤ b := hb
      rw [o5 b (by omega) (by omega) (by omega) (by omega)]
      exact k4 b (by rw [k3]; exact hb)
    refine ⟨q, eq, o1, S.2.1, S.2.1 + 1, S.2.1 + 2, 2 * cap, _, _, _, o2, o3, n3, o6, by omega, Or.inr ⟨rfl, rfl, rfl, rfl, by omega, o4.trans k3⟩, fun i hi => ⟨?_, ?_⟩, ?_, ?_, fun i hi => ?_, ?_, fun b hb1 hb2 hb3 hb4 _ _ _ => (o5 b hb1 hb2 hb3 hb4).trans (far b hb1 hb2 hb3 hb4)⟩
    · unfold upd; rw [if_neg (by omega)]; exact p2 i (by omega)
    · unfold upd; rw [if_neg (by omega)]; exact u2 i (by omega)
    · unfold upd; rw [if_pos rfl]
    · unfold upd; rw [if_pos rfl]
    · unfold upd; rw [if_neg (by omega)]; exact y2 i (by omega)
    · unfold upd; rw [if_pos rfl]
  · have c2 : ¬ made.toInt = (Int32.ofNat cap).toInt := fun z => c1 (i_eq.mpr z)
    rw [aN] at c2
    obtain ⟨q, eq, o1, o2, o3, o4, o5⟩ := br63 h v d m0 (by omega) s0 (by omega) (by omega)
    have o6 : hw q.1 := by
      intro b hb
      rw [o4] at hb
      rw [o5 b (by omega) (by omega) (by omega) (by omega)]
      exact hw0 b hb
    refine ⟨q, eq, o1, fA, eA, sA, cap, _, _, _, o2, o3, d, o6, by omega, Or.inl ⟨rfl, rfl, rfl, rfl, o4⟩, fun i hi => ⟨?_, ?_⟩, ?_, ?_, fun i hi => ?_, ?_, fun b hb1 hb2 hb3 hb4 _ _ _ => o5 b hb1 hb2 hb3 hb4⟩
    · unfold upd; rw [if_neg (by omega)]
    · unfold upd; rw [if_neg (by omega)]
    · unfold upd; rw [if_pos rfl]
    · unfold upd; rw [if_pos rfl]
    · unfold upd; rw [if_neg (by omega)]
    · unfold upd; rw [if_pos rfl]
end BRING2
