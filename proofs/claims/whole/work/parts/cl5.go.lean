/-! a visit of the class in its heap: what it needs, what it leaves -/
theorem PPr_l {names : Int32} {kk ff ss xx : Nat → Int32} {m : Nat} {Q : Nat → Nat → Int32} (W : pcW names kk ff ss xx m) : ∀ (g e k : Nat), e < m → (xx e).toInt ≤ (g : Int) → (k : Int) + (xx e).toInt ≤ 1000000 → PPr Q kk ff xx g e k → ∀ j, k ≤ j → j < k + (xx e).toInt.toNat → Q 63 j = 0 → ∃ l : Nat, (e : Int) - (xx e).toInt < (l : Int) ∧ (l : Int) ≤ (e : Int) ∧ kk l = 0 ∧ Q 64 j = ff l
  | 0, e, k, he, hx, hk, p => p.elim
  | g + 1, e, k, he, hx, hk, ⟨p1, p2, p3, p4⟩ => by
    obtain ⟨w1, w2⟩ := W e he
    rcases w2 with ⟨c, -, c2, -⟩ | ⟨c, -, c2, c3, c4⟩ | ⟨c, c1, c2, c3, c4, c5⟩
    · intro j j1 j2 z
      have ej : j = k := by omega
      subst ej
      exact ⟨e, by omega, Int.le_refl _, c, (p2 c).1⟩
    · have w3 := (W (e - 1) (by omega)).1
      have b := PPr_l W g (e - 1) (k + 1) (by omega) (by omega) (by omega) (p3 c).2.2
      intro j j1 j2 z
      by_cases ej : j = k
      · subst ej
        rw [p1, c] at z
        exact absurd z (by decide)
      · obtain ⟨l, l1, l2, l3⟩ := b j (by omega) (by omega) z
        exact ⟨l, by omega, by omega, l3⟩
    · have w3 := (W (e - 1) (by omega)).1
      have w4 := (W (ff e).toInt.toNat (by omega)).1
      have b1 := PPr_l W g (ff e).toInt.toNat (k + 1) (by omega) (by omega) (by omega) (p4 c).2.2.1
      have b2 := PPr_l W g (e - 1) (k + 1 + (xx (ff e).toInt.toNat).toInt.toNat) (by omega) (by omega) (by omega) (p4 c).2.2.2
      intro j j1 j2 z
      by_cases ej : j = k
      · subst ej
        rw [p1] at z
        rcases c with c | c <;> (rw [c] at z; exact absurd z (by decide))
      · by_cases d : j < k + 1 + (xx (ff e).toInt.toNat).toInt.toNat
        · obtain ⟨l, l1, l2, l3⟩ := b1 j (by omega) d z
          exact ⟨l, by omega, by omega, l3⟩
        · obtain ⟨l, l1, l2, l3⟩ := b2 j (by omega) (by omega) z
          exact ⟨l, by omega, by omega, l3⟩
/-- statuses, what was emitted in this round, doubt, pauses chosen -/
abbrev zX4 : Type := (Nat → Int32) × (Nat → Prop) × Prop × (Nat → Prop)
def zA (e : zF) (I A g : Nat → Prop) (s : Prop) (X X' : zX4) (c : zvT) : Prop := zO e A s X.1 X'.1 X.2.1 X'.2.1 c ∧ zSd e I s X.1 X'.1 ∧ zDN e s X.1 X'.1 X.2.2.1 X'.2.2.1 g X.2.2.2 X'.2.2.2 c
def zFm (e : zF) (R I g : Nat → Prop) : Prop := zMo e ∧ zOK e ∧ zEi e R I ∧ zNi e g
section ZAA
variable {e ea eb : zF} {A I Ia Ib R g ga gb : Nat → Prop} {s : Prop} {X X1 X2 : zX4} {c ca cb : zvT}
theorem zA_c {e' : zF} (h : zFe e e') (z : zA e I A g s X X1 c) : zA e' I A g s X X1 c := ⟨zO_c h z.1, zSd_c h z.2.1, zDN_c h z.2.2⟩
theorem zTh_A (fa : zFm ea R Ia ga) (fb : zFm eb R Ib gb) (dab : ∀ i, Ia i → Ib i → False) (dR : ∀ i, R i → ¬ I i) (ua : ∀ i, Ia i → I i) (ub : ∀ i, Ib i → I i) (hg : ∀ p, g p ↔ ga p ∨ gb p) (ha : zA ea Ia A ga s X X1 ca) (hb : zC ca 0 → zA eb Ib A gb (zM ca 0) X1 X2 cb) (hn : ¬ zC ca 0 → X2 = X1 ∧ cb = eb X1.1 (zM ca 0)) : zA (fun κ s => zTh (ea κ s) (eb κ (zM (ea κ s) 0))) I A g s X X2 (zTh ca cb) := by
  obtain ⟨ma, oa, ia, na⟩ := fa
  obtain ⟨mb, ob, ib, nb⟩ := fb
  have hv : zOv (zC ca 0) eb A (zM ca 0) X1.1 X2.1 X1.2.1 X2.2.1 cb := by
    refine ⟨fun z => (hb z).1, fun z => ?_⟩
    obtain ⟨e1, e2⟩ := hn z
    rw [e1]
    exact ⟨rfl, fun _ _ => Iff.rfl, e2⟩
  refine ⟨zTh_O ma oa mb ob ha.1 hv, zTh_S ma oa ha.1 ha.2.1 (fun z => (hb z).2.1) (fun z => by rw [(hn z).1]) ia ib dab dR ua ub, zTh_N ha.1 hv ob ha.2.2 (fun z => (hb z).2.2) (fun z => by rw [(hn z).1]; exact ⟨Iff.rfl, fun _ => Iff.rfl⟩) na nb hg oa⟩
theorem zSl_A {tv : (Nat → Int32) → Int32} {x y : Int32} (ht : tvM tv) (hx : xyO x y) (fa : zFm ea R Ia ga) (fb : zFm eb R Ib gb) (dab : ∀ i, Ia i → Ib i → False) (dR : ∀ i, R i → ¬ I i) (ua : ∀ i, Ia i → I i) (ub : ∀ i, Ib i → I i) (hg : ∀ p, g p ↔ ga p ∨ gb p) (ha : ¬ tv X.1 = x → zA ea Ia A ga (s ∧ tv X.1 = y) X X1 ca) (na : tv X.1 = x → X1 = X ∧ ca = ea X.1 (s ∧ tv X.1 = y)) (hb : ¬ tv X.1 = y → zA eb Ib A gb (s ∧ tv X.1 = x) X1 X2 cb) (nb : tv X.1 = y → X2 = X1 ∧ cb = eb X1.1 (s ∧ tv X.1 = x)) : zA (zSlF tv x y ea eb) I A g s X X2 (zSl (¬ tv X.1 = x) (¬ tv X.1 = y) ca cb) := by
  obtain ⟨ma, oa, ia, pa⟩ := fa
  obtain ⟨mb, ob, ib, pb⟩ := fb
  have hv : zOv (¬ tv X.1 = x) ea A (s ∧ tv X.1 = y) X.1 X1.1 X.2.1 X1.2.1 ca := by
    refine ⟨fun z => (ha z).1, fun z => ?_⟩
    obtain ⟨e1, e2⟩ := na (Classical.not_not.mp z)
    rw [e1]
    exact ⟨rfl, fun _ _ => Iff.rfl, e2⟩
  have hw : zOv (¬ tv X.1 = y) eb A (s ∧ tv X.1 = x) X1.1 X2.1 X1.2.1 X2.2.1 cb := by
    refine ⟨fun z => (hb z).1, fun z => ?_⟩
    obtain ⟨e1, e2⟩ := nb (Classical.not_not.mp z)
    rw [e1]
    exact ⟨rfl, fun _ _ => Iff.rfl, e2⟩
  refine ⟨zSl_O ht hx ma oa mb ob hv hw, zSl_S ht hx (zOv_le hv) (fun z => (ha z).2.1) (fun z => by rw [(na z).1]) (fun z => (hb z).2.1) (fun z => by rw [(nb z).1]) ia ib dab dR ua ub, zSl_N hx oa ob hv hw (fun z => (ha z).2.2) (fun z => by rw [(na z).1]; exact ⟨Iff.rfl, fun _ => Iff.rfl⟩) (fun z => (hb z).2.2) (fun z => by rw [(nb z).1]; exact ⟨Iff.rfl, fun _ => Iff.rfl⟩) pa pb hg⟩
theorem zPa_A (fa : zFm ea R Ia ga) (fb : zFm eb R Ib gb) (dab : ∀ i, Ia i → Ib i → False) (dR : ∀ i, R i → ¬ I i) (ua : ∀ i, Ia i → I i) (ub : ∀ i, Ib i → I i) (hg : ∀ p, g p ↔ ga p ∨ gb p) (hd : ∀ p, ga p → ¬ gb p) (ha : zA ea Ia A ga s X X1 ca) (hb : zA eb Ib A gb s X1 X2 cb) : zA (fun κ s => zPa (ea κ s) (eb κ s)) I A g s X X2 (zPa ca cb) := ⟨zPa_O fa.1 fb.1 ha.1 hb.1, zPa_S ha.1.1 ha.2.1 hb.2.1 fa.2.2.1 fb.2.2.1 dab dR ua ub, zPa_N ha.1 hb.1 ha.2.2 hb.2.2 fa.2.2.2 fb.2.2.2 hg hd⟩
end ZAA
/-- what stays: places of ids, ids in use, statuses of the others, held pauses counted, held pauses, first places -/
abbrev gvP : Type := (Nat → Nat) × (Nat → Prop) × (Nat → Int32) × (Nat → Int32) × (Nat → Prop) × (Nat → Int32)
abbrev gPl (P : gvP) : Nat → Nat := P.1
abbrev gA (P : gvP) : Nat → Prop := P.2.1
abbrev gO (P : gvP) : Nat → Int32 := P.2.2.1
abbrev gC (P : gvP) : Nat → Int32 := P.2.2.2.1
abbrev gSe (P : gvP) : Nat → Prop := P.2.2.2.2.1
abbrev gF3 (P : gvP) : Nat → Int32 := P.2.2.2.2.2
noncomputable def kap (P : gvP) (q : rsT) (i : Nat) : Int32 := @ite _ (gA P i) (Classical.propDecidable (gA P i)) (q.1 1 (gPl P i)) (gO P i)
def emS (P : gvP) (q : rsT) (i : Nat) : Prop := q.1 2 (gPl P i) = q.2 12
def chS (q : rsT) (p : Nat) : Prop := ¬ q.1 11 p = 0
noncomputable def sem (P : gvP) (q : rsT) : zX4 := (kap P q, emS P q, q.2 14 = 1, chS q)
theorem kap_A {P : gvP} {q : rsT} {i : Nat} (h : gA P i) : kap P q i = q.1 1 (gPl P i) := if_pos h
theorem kap_n {P : gvP} {q : rsT} {i : Nat} (h : ¬ gA P i) : kap P q i = gO P i := if_neg h
/-- the meaning of a tree, by statuses -/
def gZ (M : md_S) (P : gvP) (T : tT) (k : Nat) (ρ : Nat → Nat) (md : Option Nat) : zF := fun κ s => zv M.2.1 (tvQ M.2.1 κ) κ (hsC M.2.1 (gC P)) (gSe P) T k ρ md s
theorem gZ_mo {M : md_S} {P : gvP} {T : tT} {k : Nat} {ρ : Nat → Nat} {md : Option Nat} : zMo (gZ M P T k ρ md) := fun κ κ' s s' h hs => zv_le (fun r n => tvF_le (fun i => h (r i)) _ _) T k ρ md s s' hs
theorem gZ_ok {M : md_S} {P : gvP} {T : tT} {k : Nat} {ρ : Nat → Nat} {md : Option Nat} : zOK (gZ M P T k ρ md) := fun κ s => zv_ok T k ρ md s
/-! what a quiet step keeps -/
def gFr (lo hi : Nat) (L : List Int32) (q q' : rsT) : Prop := (∀ i j, (i = 6 ∨ i = 7 ∨ i = 8 ∨ i = 9) → ¬ (lo ≤ j ∧ j < hi) → q'.1 i j = q.1 i j) ∧ (∀ j, (∀ y, y ∈ L → ¬ j = y.toInt.toNat) → q'.1 4 j = q.1 4 j) ∧ q'.1 3 = q.1 3 ∧ q'.1 10 = q.1 10 ∧ q'.2 12 = q.2 12
def gQ (lo hi : Nat) (L : List Int32) (q q' : rsT) : Prop := gFr lo hi L q q' ∧ (q'.1 1 = q.1 1 ∧ q'.1 2 = q.1 2 ∧ q'.1 11 = q.1 11) ∧ q'.2 13 = q.2 13 ∧ q'.2 14 = q.2 14
def gK0 (pls : Nat) (q q' : rsT) : Prop := (∀ p, vle (q.1 1 p) (q'.1 1 p)) ∧ ((q'.2 13 = q.2 13 ∧ q'.1 1 = q.1 1) ∨ (q'.2 13 = 1 ∧ ∃ p, p < pls ∧ q.1 1 p = 2 ∧ ¬ q'.1 1 p = 2))
/-- emitted in this round, or as before -/
def gEf (q q' : rsT) : Prop := q'.2 12 = q.2 12 ∧ ∀ p, q'.1 2 p = q.1 2 p ∨ q'.1 2 p = q.2 12
/-- pauses chosen: as before, or a truth -/
def gC1 (q q' : rsT) : Prop := ∀ p, q'.1 11 p = q.1 11 p ∨ q'.1 11 p = 0 ∨ q'.1 11 p = 1
def gKn (pls : Nat) (q q' : rsT) : Prop := gK0 pls q q' ∧ gEf q q' ∧ gC1 q q'
section GFR
variable {lo hi lo' hi' pls : Nat} {L L' : List Int32} {q q1 q2 : rsT} {P : gvP}
theorem gFr_rf : gFr lo hi L q q := ⟨fun _ _ _ _ => rfl, fun _ _ => rfl, rfl, rfl, rfl⟩
theorem gFr_tr (h : gFr lo hi L q q1) (g : gFr lo hi L q1 q2) : gFr lo hi L q q2 := ⟨fun i j hi hj => (g.1 i j hi hj).trans (h.1 i j hi hj), fun j hj => (g.2.1 j hj).trans (h.2.1 j hj), g.2.2.1.trans h.2.2.1, g.2.2.2.1.trans h.2.2.2.1, g.2.2.2.2.trans h.2.2.2.2⟩
theorem gFr_m (h : gFr lo hi L q q1) (h1 : lo' ≤ lo) (h2 : hi ≤ hi') (h3 : ∀ y, y ∈ L → y ∈ L') : gFr lo' hi' L' q q1 := ⟨fun i j hi hj => h.1 i j hi (fun z => hj ⟨by omega, by omega⟩), fun j hj => h.2.1 j (fun y hy => hj y (h3 y hy)), h.2.2⟩
theorem gQ_rf : gQ lo hi L q q := ⟨gFr_rf, ⟨rfl, rfl, rfl⟩, rfl, rfl⟩
theorem gQ_tr (h : gQ lo hi L q q1) (g : gQ lo hi L q1 q2) : gQ lo hi L q q2 := ⟨gFr_tr h.1 g.1, ⟨g.2.1.1.trans h.2.1.1, g.2.1.2.1.trans h.2.1.2.1, g.2.1.2.2.trans h.2.1.2.2⟩, g.2.2.1.trans h.2.2.1, g.2.2.2.trans h.2.2.2⟩
theorem gQ_m (h : gQ lo hi L q q1) (h1 : lo' ≤ lo) (h2 : hi ≤ hi') (h3 : ∀ y, y ∈ L → y ∈ L') : gQ lo' hi' L' q q1 := ⟨gFr_m h.1 h1 h2 h3, h.2⟩
theorem gQ_sem (h : gQ lo hi L q q1) : sem P q1 = sem P q := by
  obtain ⟨⟨-, -, -, -, e12⟩, ⟨e1, e2, e11⟩, -, e14⟩ := h
  have k1 : kap P q1 = kap P q := by funext i; unfold kap; rw [e1]
  have k2 : emS P q1 = emS P q := by funext i; unfold emS; rw [e2, e12]
  have k3 : chS q1 = chS q := by funext i; unfold chS; rw [e11]
  unfold sem
  rw [k1, k2, k3, e14]
theorem gQ_kn (h : gQ lo hi L q q1) : gKn pls q q1 := ⟨⟨fun p => by rw [h.2.1.1]; exact Or.inr rfl, Or.inl ⟨h.2.2.1, h.2.1.1⟩⟩, ⟨h.1.2.2.2.2, fun p => Or.inl (by rw [h.2.1.2.1])⟩, fun p => Or.inl (by rw [h.2.1.2.2])⟩
theorem gEf_tr (h : gEf q q1) (g : gEf q1 q2) : gEf q q2 := ⟨g.1.trans h.1, fun p => (g.2 p).elim (fun z => by rw [z]; exact h.2 p) (fun z => Or.inr (z.trans h.1))⟩
theorem gK0_tr (h : gK0 pls q q1) (g : gK0 pls q1 q2) : gK0 pls q q2 := by
  refine ⟨fun p => vle_tr (h.1 p) (g.1 p), ?_⟩
  rcases h.2 with ⟨h1, h2⟩ | ⟨h1, p, p1, p2, p3⟩
  · rcases g.2 with ⟨g1, g2⟩ | ⟨g1, p, p1, p2, p3⟩
    · exact Or.inl ⟨g1.trans h1, g2.trans h2⟩
    · exact Or.inr ⟨g1, p, p1, by rw [← h2]; exact p2, p3⟩
  · refine Or.inr ⟨?_, p, p1, p2, fun z => p3 (vle_2 (g.1 p) z)⟩
    rcases g.2 with ⟨g1, g2⟩ | ⟨g1, -⟩
    · exact g1.trans h1
    · exact g1
theorem gC1_tr (h : gC1 q q1) (g : gC1 q1 q2) : gC1 q q2 := fun p => (g p).elim (fun z => by rw [z]; exact h p) Or.inr
theorem gKn_tr (h : gKn pls q q1) (g : gKn pls q1 q2) : gKn pls q q2 := ⟨gK0_tr h.1 g.1, gEf_tr h.2.1 g.2.1, gC1_tr h.2.2 g.2.2⟩
/-- a row's array is written -/
theorem gQ_u {i n : Nat} {v : Int32} (hi' : i = 6 ∨ i = 7 ∨ i = 8 ∨ i = 9) (h1 : lo ≤ n) (h2 : n < hi) : gQ lo hi L q (uX q i n v) := by
  have ne : ∀ j, ¬ (j = 6 ∨ j = 7 ∨ j = 8 ∨ j = 9) → (uX q i n v).1 j = q.1 j := fun j hj => uX_n (fun e => hj (e ▸ hi'))
  refine ⟨⟨fun a b ha hb => ?_, fun j _ => by rw [ne 4 (by omega)], ne 3 (by omega), ne 10 (by omega), rfl⟩, ⟨ne 1 (by omega), ne 2 (by omega), ne 11 (by omega)⟩, rfl, rfl⟩
  by_cases e : a = i
  · subst e
    rw [uX_s, upd_n (fun z => hb ⟨by omega, by omega⟩)]
  · rw [uX_n e]
theorem gQ_u4 {n : Nat} {v y : Int32} (hy : y ∈ L) (hn : n = y.toInt.toNat) : gQ lo hi L q (uX q 4 n v) := by
  have ne : ∀ j, ¬ j = 4 → (uX q 4 n v).1 j = q.1 j := fun j hj => uX_n hj
  refine ⟨⟨fun a b ha hb => by rw [ne a (by omega)], fun j hj => ?_, ne 3 (by omega), ne 10 (by omega), rfl⟩, ⟨ne 1 (by omega), ne 2 (by omega), ne 11 (by omega)⟩, rfl, rfl⟩
  rw [uX_s, upd_n (fun z => hj y hy (z.trans hn))]
theorem gQ_f5 {f : Nat → Int32} : gQ lo hi L q (fX q 5 f) := by
  have ne : ∀ j, ¬ j = 5 → (fX q 5 f).1 j = q.1 j := fun j hj => fX_n hj
  exact ⟨⟨fun a b ha hb => by rw [ne a (by omega)], fun j _ => by rw [ne 4 (by omega)], ne 3 (by omega), ne 10 (by omega), rfl⟩, ⟨ne 1 (by omega), ne 2 (by omega), ne 11 (by omega)⟩, rfl, rfl⟩
theorem gQ_c {j : Nat} {v : Int32} (h : 15 ≤ j) : gQ lo hi L q (uC q j v) := ⟨⟨fun _ _ _ _ => rfl, fun _ _ => rfl, rfl, rfl, uC_n (by omega)⟩, ⟨rfl, rfl, rfl⟩, uC_n (by omega), uC_n (by omega)⟩
theorem gQ_an {n : Nat} {cs c : Int32} (h1 : lo ≤ n) (h2 : n < hi) : gQ lo hi L q (reAn q n cs c) := gQ_tr (gQ_u (by omega) h1 h2) (gQ_u (by omega) h1 h2)
theorem gQ_T {n : Nat} {f : Nat → Int32} {t : Int32} (h1 : lo ≤ n) (h2 : n < hi) : gQ lo hi L q (reT q n f t) := gQ_tr gQ_f5 (gQ_u (by omega) h1 h2)
theorem gQ_en {n : Nat} (h1 : lo ≤ n) (h2 : n < hi) : gQ lo hi L q (reEn q n) := gQ_tr (gQ_u (by omega) h1 h2) (gQ_u (by omega) h1 h2)
end GFR
