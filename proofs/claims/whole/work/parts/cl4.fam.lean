/-! visits put together: a choice by a test, both, a trap, a local signal, leaves -/
section ZCP
variable {e ea eb : zF} {A I Ia Ib R : Nat → Prop} {s : Prop} {κ κ1 κ2 : Nat → Int32} {Em Em1 Em2 : Nat → Prop} {c ca cb : zvT} {db db1 db2 : Prop} {g ga gb ch ch1 ch2 : Nat → Prop} {tv : (Nat → Int32) → Int32} {x y : Int32}
/-- a where the test is not x, b where it is not y -/
def zSlF (tv : (Nat → Int32) → Int32) (x y : Int32) (ea eb : zF) : zF := fun κ s => zSl (¬ tv κ = x) (¬ tv κ = y) (ea κ (s ∧ tv κ = y)) (eb κ (s ∧ tv κ = x))
def tvM (tv : (Nat → Int32) → Int32) : Prop := ∀ κ κ', vLe κ κ' → vle (tv κ) (tv κ')
def xyO (x y : Int32) : Prop := ¬ x = y ∧ ¬ x = 2 ∧ ¬ y = 2
theorem zSl_O (ht : tvM tv) (hx : xyO x y) (ma : zMo ea) (oa : zOK ea) (mb : zMo eb) (ob : zOK eb) (ha : zOv (¬ tv κ = x) ea A (s ∧ tv κ = y) κ κ1 Em Em1 ca) (hb : zOv (¬ tv κ = y) eb A (s ∧ tv κ = x) κ1 κ2 Em1 Em2 cb) : zO (zSlF tv x y ea eb) A s κ κ2 Em Em2 (zSl (¬ tv κ = x) (¬ tv κ = y) ca cb) := by
  have l1 := zOv_le ha
  have l2 := zOv_le hb
  have ka := zOv_ok oa ha
  have kb := zOv_ok ob hb
  have tx : tv κ = x → tv κ2 = x := fun z => (vle_n2 (ht κ κ2 (vLe_tr l1 l2)) (by rw [z]; exact hx.2.1)).trans z
  have ty : tv κ = y → tv κ2 = y := fun z => (vle_n2 (ht κ κ2 (vLe_tr l1 l2)) (by rw [z]; exact hx.2.2)).trans z
  refine ⟨vLe_tr l1 l2, ?_, ?_, ?_, fun i hi => ?_, fun i z => ?_, fun i z w => ?_⟩
  · exact zSl_le (zOv_lo ha) (zle_tr (mb κ κ1 _ _ l1 id) (zOv_lo hb)) id id (fun _ => ⟨fun _ => id, fun _ => id⟩) (fun _ => ⟨fun _ => id, fun _ => id⟩)
  · refine zSl_le (zle_tr (zOv_hi ha) (ma κ1 κ2 _ _ l2 (fun z => ⟨z.1, ty z.2⟩))) (zle_tr (zOv_hi hb) (mb κ2 κ2 _ _ vLe_rf (fun z => ⟨z.1, tx z.2⟩))) (fun z w => z (tx w)) (fun z w => z (ty w)) (fun d => ⟨fun z _ w => ?_, fun z _ w => ?_⟩) (fun d => ⟨fun z _ w => ?_, fun z _ w => ?_⟩)
    · exact hx.1 (w.symm.trans (ty (ka.1 d z).2))
    · exact hx.1 ((tx (kb.1 d z).2).symm.trans w)
    · exact hx.1 (w.symm.trans (ty (ka.2.1 d z).2))
    · exact hx.1 ((tx (kb.2.1 d z).2).symm.trans w)
  · exact zSl_ok (zOk_s ka And.left) (zOk_s kb And.left) (fun d => ⟨fun z w => w (ka.1 d z.2).2, fun z w => w (kb.1 d z.2).2⟩)
  · rw [zOv_em hb hi, zOv_em ha hi]
    exact or_assoc
  · rcases z with ⟨z0, z⟩ | ⟨z0, z⟩
    · intro w
      exact (ha.1 z0).2.2.2.2.2.1 i z (vle_2 (l2 i) w)
    · exact (hb.1 z0).2.2.2.2.2.1 i z
  · rcases z with ⟨z0, z⟩ | ⟨z0, z⟩
    · exact Or.inl ⟨z0, (ha.1 z0).2.2.2.2.2.2 i z (vle_2 (l2 i) w)⟩
    · exact Or.inr ⟨z0, (hb.1 z0).2.2.2.2.2.2 i z w⟩
theorem zSl_S (ht : tvM tv) (hx : xyO x y) (la : vLe κ κ1) (sa : ¬ tv κ = x → zSd ea Ia (s ∧ tv κ = y) κ κ1) (na : tv κ = x → κ1 = κ) (sb : ¬ tv κ = y → zSd eb Ib (s ∧ tv κ = x) κ1 κ2) (nb : tv κ = y → κ2 = κ1) (ia : zEi ea R Ia) (ib : zEi eb R Ib) (dab : ∀ i, Ia i → Ib i → False) (dR : ∀ i, R i → ¬ I i) (ua : ∀ i, Ia i → I i) (ub : ∀ i, Ib i → I i) : zSd (zSlF tv x y ea eb) I s κ κ2 := by
  intro μ r s' hk hs h1 h0
  have tx : tv κ = x → tv μ = x := fun z => (vle_n2 (ht κ μ hk) (by rw [z]; exact hx.2.1)).trans z
  have ty : tv κ = y → tv μ = y := fun z => (vle_n2 (ht κ μ hk) (by rw [z]; exact hx.2.2)).trans z
  have k1 : vLe κ1 μ := by
    by_cases v : tv κ = x
    · rw [na v]; exact hk
    · refine sa v μ (r ∧ ¬ tv μ = x) (s' ∧ tv μ = y) hk (fun z => ⟨⟨(hs z.1).1, fun w => hx.1 (w.symm.trans (ty z.2))⟩, (hs z.1).2, ty z.2⟩) (fun i h2 hr z => h1 i h2 hr.1 (Or.inl ⟨hr.2, z⟩)) (fun i hi z => h0 i (ua i hi) (fun ⟨y1, y2⟩ => ?_))
      rcases y2 with y2 | ⟨-, y2⟩
      · exact z ⟨⟨y1, y2.1⟩, y2.2⟩
      · rcases ib _ _ _ y2 with y3 | y3
        · exact dR i y3 (ua i hi)
        · exact dab i hi y3
  by_cases v : tv κ = y
  · rw [nb v]; exact k1
  · refine sb v μ (r ∧ ¬ tv μ = y) (s' ∧ tv μ = x) k1 (fun z => ⟨⟨(hs z.1).1, fun w => hx.1 ((tx z.2).symm.trans w)⟩, (hs z.1).2, tx z.2⟩) (fun i h2 hr z => h1 i (vle_2 (la i) h2) hr.1 (Or.inr ⟨hr.2, z⟩)) (fun i hi z => h0 i (ub i hi) (fun ⟨y1, y2⟩ => ?_))
    rcases y2 with ⟨-, y2⟩ | y2
    · rcases ia _ _ _ y2 with y3 | y3
      · exact dR i y3 (ub i hi)
      · exact dab i y3 hi
    · exact z ⟨⟨y1, y2.1⟩, y2.2⟩
theorem zSl_N (hx : xyO x y) (oa : zOK ea) (ob : zOK eb) (ha : zOv (¬ tv κ = x) ea A (s ∧ tv κ = y) κ κ1 Em Em1 ca) (hb : zOv (¬ tv κ = y) eb A (s ∧ tv κ = x) κ1 κ2 Em1 Em2 cb) (na : ¬ tv κ = x → zDN ea (s ∧ tv κ = y) κ κ1 db db1 ga ch ch1 ca) (na' : tv κ = x → (db1 ↔ db) ∧ ∀ p, ch1 p ↔ ch p) (nb : ¬ tv κ = y → zDN eb (s ∧ tv κ = x) κ1 κ2 db1 db2 gb ch1 ch2 cb) (nb' : tv κ = y → (db2 ↔ db1) ∧ ∀ p, ch2 p ↔ ch1 p) (ia : zNi ea ga) (ib : zNi eb gb) (hg : ∀ p, g p ↔ ga p ∨ gb p) : zDN (zSlF tv x y ea eb) s κ κ2 db db2 g ch ch2 (zSl (¬ tv κ = x) (¬ tv κ = y) ca cb) := by
  have l1 := zOv_le ha
  have l2 := zOv_le hb
  have ka := zOv_ok oa ha
  have kb := zOv_ok ob hb
  refine ⟨fun ek => ?_, fun p hp => ?_⟩
  · have e1 : κ1 = κ := vLe_m l1 l2 ek
    have e2 : κ2 = κ1 := ek.trans e1.symm
    have da : db1 ↔ db ∨ (¬ tv κ = x ∧ zD (ea κ (s ∧ tv κ = y))) := by
      by_cases v : tv κ = x
      · rw [(na' v).1]; exact ⟨Or.inl, fun z => z.elim id (fun z => absurd v z.1)⟩
      · rw [((na v).1 e1).1]; exact ⟨fun z => z.imp id (fun z => ⟨v, z⟩), fun z => z.imp id (fun z => z.2)⟩
    have db' : db2 ↔ db1 ∨ (¬ tv κ = y ∧ zD (eb κ (s ∧ tv κ = x))) := by
      by_cases v : tv κ = y
      · rw [(nb' v).1]; exact ⟨Or.inl, fun z => z.elim id (fun z => absurd v z.1)⟩
      · rw [((nb v).1 e2).1, e1]; exact ⟨fun z => z.imp id (fun z => ⟨v, z⟩), fun z => z.imp id (fun z => z.2)⟩
    refine ⟨?_, fun hm h0 p hp => ?_⟩
    · rw [db', da]
      exact or_assoc
    · have hm : (tv κ = y ∧ (zM ca 0 ∨ zM ca 1)) ∨ (tv κ = x ∧ (zM cb 0 ∨ zM cb 1)) := by
        rcases hm with (hm | hm) | (hm | hm)
        · exact Or.inl ⟨(ka.1 _ hm.2).2, Or.inl hm.2⟩
        · exact Or.inr ⟨(kb.1 _ hm.2).2, Or.inl hm.2⟩
        · exact Or.inl ⟨(ka.1 _ hm.2).2, Or.inr hm.2⟩
        · exact Or.inr ⟨(kb.1 _ hm.2).2, Or.inr hm.2⟩
      show ch2 p ↔ (¬ tv κ = x ∧ zN (ea κ (s ∧ tv κ = y)) p) ∨ (¬ tv κ = y ∧ zN (eb κ (s ∧ tv κ = x)) p)
      rcases hm with ⟨v, hm⟩ | ⟨v, hm⟩
      · have vx : ¬ tv κ = x := fun z => hx.1 (z.symm.trans v)
        rw [(nb' v).2 p]
        have n1 := ((na vx).1 e1).2 hm (fun p z => h0 p ((hg p).mpr (Or.inl z)))
        by_cases w : ga p
        · rw [n1 p w]
          exact ⟨fun z => Or.inl ⟨vx, z⟩, fun z => z.elim (fun z => z.2) (fun z => absurd v z.1)⟩
        · rw [(na vx).2 p w]
          exact ⟨fun z => absurd z (h0 p hp), fun z => z.elim (fun z => absurd (ia _ _ _ z.2) w) (fun z => absurd v z.1)⟩
      · have vy : ¬ tv κ = y := fun z => hx.1 (v.symm.trans z)
        have n1 := ((nb vy).1 e2).2 hm (fun p z => by rw [(na' v).2 p]; exact h0 p ((hg p).mpr (Or.inr z)))
        rw [e1] at n1
        by_cases w : gb p
        · rw [n1 p w]
          exact ⟨fun z => Or.inr ⟨vy, z⟩, fun z => z.elim (fun z => absurd v z.1) (fun z => z.2)⟩
        · rw [(nb vy).2 p w, (na' v).2 p]
          exact ⟨fun z => absurd z (h0 p hp), fun z => z.elim (fun z => absurd v z.1) (fun z => absurd (ib _ _ _ z.2) w)⟩
  · have hp : ¬ ga p ∧ ¬ gb p := ⟨fun z => hp ((hg p).mpr (Or.inl z)), fun z => hp ((hg p).mpr (Or.inr z))⟩
    have c1 : ch1 p ↔ ch p := by
      by_cases v : tv κ = x
      · exact (na' v).2 p
      · exact (na v).2 p hp.1
    by_cases v : tv κ = y
    · rw [(nb' v).2 p]; exact c1
    · rw [(nb v).2 p hp.2]; exact c1
/-- both -/
theorem zPa_O (ma : zMo ea) (mb : zMo eb) (ha : zO ea A s κ κ1 Em Em1 ca) (hb : zO eb A s κ1 κ2 Em1 Em2 cb) : zO (fun κ s => zPa (ea κ s) (eb κ s)) A s κ κ2 Em Em2 (zPa ca cb) := by
  have l1 := ha.1
  have l2 := hb.1
  refine ⟨vLe_tr l1 l2, ?_, ?_, zPa_ok ha.2.2.2.1 hb.2.2.2.1, fun i hi => ?_, fun i z => ?_, fun i z w => ?_⟩
  · exact zPa_le ha.2.1 (zle_tr (mb κ κ1 _ _ l1 id) hb.2.1)
  · exact zPa_le (zle_tr ha.2.2.1 (ma κ1 κ2 _ _ l2 id)) hb.2.2.1
  · rw [hb.2.2.2.2.1 i hi, ha.2.2.2.2.1 i hi]
    exact or_assoc
  · rcases z with z | z
    · intro w
      exact ha.2.2.2.2.2.1 i z (vle_2 (l2 i) w)
    · exact hb.2.2.2.2.2.1 i z
  · rcases z with z | z
    · exact Or.inl (ha.2.2.2.2.2.2 i z (vle_2 (l2 i) w))
    · exact Or.inr (hb.2.2.2.2.2.2 i z w)
theorem zPa_S (la : vLe κ κ1) (sa : zSd ea Ia s κ κ1) (sb : zSd eb Ib s κ1 κ2) (ia : zEi ea R Ia) (ib : zEi eb R Ib) (dab : ∀ i, Ia i → Ib i → False) (dR : ∀ i, R i → ¬ I i) (ua : ∀ i, Ia i → I i) (ub : ∀ i, Ib i → I i) : zSd (fun κ s => zPa (ea κ s) (eb κ s)) I s κ κ2 := by
  intro μ r s' hk hs h1 h0
  have k1 : vLe κ1 μ := sa μ r s' hk hs (fun i h2 hr z => h1 i h2 hr (Or.inl z)) (fun i hi z => h0 i (ua i hi) (fun ⟨y1, y2⟩ => by
    rcases y2 with y2 | y2
    · exact z ⟨y1, y2⟩
    · rcases ib _ _ _ y2 with y3 | y3
      · exact dR i y3 (ua i hi)
      · exact dab i hi y3))
  refine sb μ r s' k1 hs (fun i h2 hr z => h1 i (vle_2 (la i) h2) hr (Or.inr z)) (fun i hi z => h0 i (ub i hi) (fun ⟨y1, y2⟩ => ?_))
  rcases y2 with y2 | y2
  · rcases ia _ _ _ y2 with y3 | y3
    · exact dR i y3 (ub i hi)
    · exact dab i y3 hi
  · exact z ⟨y1, y2⟩
theorem zPa_N (ha : zO ea A s κ κ1 Em Em1 ca) (hb : zO eb A s κ1 κ2 Em1 Em2 cb) (na : zDN ea s κ κ1 db db1 ga ch ch1 ca) (nb : zDN eb s κ1 κ2 db1 db2 gb ch1 ch2 cb) (ia : zNi ea ga) (ib : zNi eb gb) (hg : ∀ p, g p ↔ ga p ∨ gb p) (hd : ∀ p, ga p → ¬ gb p) : zDN (fun κ s => zPa (ea κ s) (eb κ s)) s κ κ2 db db2 g ch ch2 (zPa ca cb) := by
  refine ⟨fun ek => ?_, fun p hp => ?_⟩
  · have e1 : κ1 = κ := vLe_m ha.1 hb.1 ek
    have e2 : κ2 = κ1 := ek.trans e1.symm
    obtain ⟨a1, a2⟩ := na.1 e1
    obtain ⟨b1, b2⟩ := nb.1 e2
    rw [e1] at b1 b2
    refine ⟨?_, fun hm h0 p hp => ?_⟩
    · rw [b1, a1]
      exact or_assoc
    · have hm : (zM ca 0 ∨ zM ca 1) ∧ (zM cb 0 ∨ zM cb 1) := by
        have two : ∀ d, d ≤ 1 → zM (zPa ca cb) d → (zM ca 0 ∨ zM ca 1) ∧ (zM cb 0 ∨ zM cb 1) := by
          rintro d hd1 ⟨u, v, hu, hv, ed⟩
          have hu1 : u = 0 ∨ u = 1 := by omega
          have hv1 : v = 0 ∨ v = 1 := by omega
          refine ⟨?_, ?_⟩
          · rcases hu1 with z | z <;> subst z
            · exact Or.inl hu
            · exact Or.inr hu
          · rcases hv1 with z | z <;> subst z
            · exact Or.inl hv
            · exact Or.inr hv
        rcases hm with hm | hm
        · exact two 0 (by omega) hm
        · exact two 1 (by omega) hm
      have n1 := a2 hm.1 (fun p z => h0 p ((hg p).mpr (Or.inl z)))
      have n2 := b2 hm.2 (fun p z => by rw [na.2 p (fun w => hd p w z)]; exact h0 p ((hg p).mpr (Or.inr z)))
      show ch2 p ↔ zN (ea κ s) p ∨ zN (eb κ s) p
      by_cases w : gb p
      · rw [n2 p w]
        exact ⟨Or.inr, fun z => z.elim (fun z => absurd w (hd p (ia _ _ _ z))) id⟩
      · have w' : ga p := ((hg p).mp hp).elim id (fun z => absurd z w)
        rw [nb.2 p w, n1 p w']
        exact ⟨Or.inl, fun z => z.elim id (fun z => absurd (ib _ _ _ z) w)⟩
  · have hp : ¬ ga p ∧ ¬ gb p := ⟨fun z => hp ((hg p).mpr (Or.inl z)), fun z => hp ((hg p).mpr (Or.inr z))⟩
    rw [nb.2 p hp.2, na.2 p hp.1]
/-- a trap -/
theorem zTr_O (ha : zO ea A s κ κ1 Em Em1 ca) : zO (fun κ s => zTr (ea κ s)) A s κ κ1 Em Em1 (zTr ca) := ⟨ha.1, zTr_le ha.2.1, zTr_le ha.2.2.1, zTr_ok ha.2.2.2.1, ha.2.2.2.2⟩
theorem zTr_S (sa : zSd ea I s κ κ1) : zSd (fun κ s => zTr (ea κ s)) I s κ κ1 := sa
theorem zTr_N (ha : zO ea A s κ κ1 Em Em1 ca) (oa : zOK ea) (na : zDN ea s κ κ1 db db1 g ch ch1 ca) (hc : (∃ d, 2 ≤ d ∧ zM ca d) → ∀ p, g p → ¬ ch2 p) (hn : ¬ (∃ d, 2 ≤ d ∧ zM ca d) → ∀ p, ch2 p ↔ ch1 p) (ho : ∀ p, ¬ g p → (ch2 p ↔ ch1 p)) : zDN (fun κ s => zTr (ea κ s)) s κ κ1 db db1 g ch ch2 (zTr ca) := by
  refine ⟨fun ek => ?_, fun p hp => (ho p hp).trans (na.2 p hp)⟩
  obtain ⟨a1, a2⟩ := na.1 ek
  obtain ⟨-, q2, -⟩ := zO_a ha ek
  refine ⟨a1, fun hm h0 p hp => ?_⟩
  show ch2 p ↔ zN (ea κ s) p ∧ ¬ zM (ea κ s) 2
  have ka := ha.2.2.2.1
  by_cases v : zM ca 2
  · refine ⟨fun z => absurd z (hc ⟨2, Nat.le_refl _, v⟩ p hp), fun z => absurd ((q2 2).mp v) z.2⟩
  · have hm : zM ca 0 ∨ zM ca 1 := by
      rcases hm with hm | hm
      · rcases hm with ⟨-, hm | hm⟩ | ⟨z, -⟩ | ⟨z, -⟩
        · exact Or.inl hm
        · exact absurd hm v
        · omega
        · omega
      · rcases hm with ⟨z, -⟩ | ⟨-, hm⟩ | ⟨z, -⟩
        · omega
        · exact Or.inr hm
        · omega
    have nc : ¬ ∃ d, 2 ≤ d ∧ zM ca d := by
      rintro ⟨d, hd, z⟩
      have cd := (ka.2.2.2.2.1 d z d).mpr rfl
      rcases hm with hm | hm
      · have := (ka.2.2.2.2.1 0 hm d).mp cd
        omega
      · have := (ka.2.2.2.2.1 1 hm d).mp cd
        omega
    rw [hn nc p, a2 hm h0 p hp]
    exact ⟨fun z => ⟨z, fun w => v ((q2 2).mpr w)⟩, fun z => z.1⟩
/-- a local signal: its status is settled behind what is within -/
theorem zLc_O {i : Nat} (ma : zMo ea) (ha : zO ea A s κ κ1 Em Em1 ca) (hA : A i) (hE : ¬ Em i) (h2 : ∀ j, (j = i ∧ κ1 j = 2 ∧ ¬ Em1 j → κ2 j = 0) ∧ (¬ (j = i ∧ κ1 j = 2 ∧ ¬ Em1 j) → κ2 j = κ1 j)) : zO (fun κ s => zLc κ i s (ea κ s)) A s κ κ2 Em Em1 (zLc κ2 i s ca) := by
  have l2 : vLe κ1 κ2 := by
    intro j
    by_cases v : j = i ∧ κ1 j = 2 ∧ ¬ Em1 j
    · exact Or.inl v.2.1
    · rw [(h2 j).2 v]; exact Or.inr rfl
  refine ⟨vLe_tr ha.1 l2, zLc_le ha.2.1, zLc_le (zle_tr ha.2.2.1 (ma κ1 κ2 _ _ l2 id)), zLc_ok ha.2.2.2.1, ha.2.2.2.2.1, fun j z w => ha.2.2.2.2.2.1 j z (vle_2 (l2 j) w), fun j z w => ?_⟩
  rcases z with z | z
  · subst z
    by_cases v : Em1 j
    · exact ((ha.2.2.2.2.1 j hA).mp v).elim (fun z => absurd z hE) id
    · have k1 := vle_2 (l2 j) w
      rw [(h2 j).1 ⟨rfl, k1, v⟩] at w
      exact absurd w (by decide)
  · exact ha.2.2.2.2.2.2 j z (vle_2 (l2 j) w)
theorem zLc_S {i : Nat} (ma : zMo ea) (ha : zO ea A s κ κ1 Em Em1 ca) (hA : A i) (h2 : ∀ j, (j = i ∧ κ1 j = 2 ∧ ¬ Em1 j → κ2 j = 0) ∧ (¬ (j = i ∧ κ1 j = 2 ∧ ¬ Em1 j) → κ2 j = κ1 j)) (sa : zSd ea Ia s κ κ1) (ua : ∀ j, Ia j → I j) (hi : I i) : zSd (fun κ s => zLc κ i s (ea κ s)) I s κ κ2 := by
  intro μ r s' hk hs h1 h0
  have k1 : vLe κ1 μ := sa μ r s' hk hs h1 (fun j hj z => h0 j (ua j hj) z)
  intro j
  by_cases v : j = i ∧ κ1 j = 2 ∧ ¬ Em1 j
  · rw [(h2 j).1 v]
    obtain ⟨rfl, v2, v3⟩ := v
    refine Or.inr (h0 j hi (fun ⟨y1, y2⟩ => v3 ((ha.2.2.2.2.1 j hA).mpr (Or.inr ?_)))).symm
    exact ha.2.2.1.2.2.1 j ((ma κ1 μ s s' k1 (fun z => (hs z).2)).2.2.1 j y2)
  · rw [(h2 j).2 v]; exact k1 j
theorem zLc_N {i : Nat} (ha : zO ea A s κ κ1 Em Em1 ca) (l2 : vLe κ1 κ2) (na : zDN ea s κ κ1 db db1 g ch ch1 ca) (hd : db2 ↔ db1 ∨ (s ∧ κ2 i = 2)) : zDN (fun κ s => zLc κ i s (ea κ s)) s κ κ2 db db2 g ch ch1 (zLc κ2 i s ca) := by
  refine ⟨fun ek => ?_, na.2⟩
  have e1 : κ1 = κ := vLe_m ha.1 l2 ek
  obtain ⟨a1, a2⟩ := na.1 e1
  refine ⟨?_, a2⟩
  rw [hd, a1, ek]
  show _ ↔ db ∨ ((s ∧ κ i = 2) ∨ zD (ea κ s))
  constructor
  · rintro ((z | z) | z)
    · exact Or.inl z
    · exact Or.inr (Or.inr z)
    · exact Or.inr (Or.inl z)
  · rintro (z | z | z)
    · exact Or.inl (Or.inl z)
    · exact Or.inr z
    · exact Or.inl (Or.inr z)
/-- leaves -/
theorem zK_O {d : Nat} (he : ∀ i, A i → (Em1 i ↔ Em i)) : zO (fun _ s => zK d s) A s κ κ Em Em1 (zK d s) := ⟨vLe_rf, zle_rf, zle_rf, zK_ok, fun i hi => (he i hi).trans ⟨Or.inl, fun z => z.elim id False.elim⟩, fun _ z => z.elim, fun _ z => z.elim⟩
theorem zK_S {d : Nat} : zSd (fun _ s => zK d s) I s κ κ := fun _ _ _ hk _ _ _ => hk
theorem zK_N {d : Nat} (hd : db1 ↔ db) (hc : ∀ p, ch1 p ↔ ch p) : zDN (fun _ s => zK d s) s κ κ1 db db1 g ch ch1 c := ⟨fun _ => ⟨hd.trans ⟨Or.inl, fun z => z.elim id False.elim⟩, fun _ h0 p hp => ⟨fun z => absurd ((hc p).mp z) (h0 p hp), False.elim⟩⟩, fun p _ => hc p⟩
theorem zP_O {N : Nat → Prop} (he : ∀ i, A i → (Em1 i ↔ Em i)) : zO (fun _ s => zP N s) A s κ κ Em Em1 (zP N s) := ⟨vLe_rf, zle_rf, zle_rf, zP_ok, fun i hi => (he i hi).trans ⟨Or.inl, fun z => z.elim id False.elim⟩, fun _ z => z.elim, fun _ z => z.elim⟩
theorem zP_S {N : Nat → Prop} : zSd (fun _ s => zP N s) I s κ κ := fun _ _ _ hk _ _ _ => hk
theorem zP_N {N : Nat → Prop} (hd : db1 ↔ db) (hc : s → ∀ p, g p → (ch1 p ↔ N p)) (ho : ∀ p, ¬ g p → (ch1 p ↔ ch p)) : zDN (fun _ s => zP N s) s κ κ1 db db1 g ch ch1 (zP N s) := by
  refine ⟨fun _ => ⟨hd.trans ⟨Or.inl, fun z => z.elim id False.elim⟩, fun hm h0 p hp => ?_⟩, ho⟩
  have hs : s := hm.elim (fun z => z.1) (fun z => z.1)
  exact (hc hs p hp).trans ⟨fun z => ⟨hs, z⟩, fun z => z.2⟩
theorem zEm_O {i : Nat} (h2 : ∀ j, (j = i ∧ κ j = 2 ∧ s → κ1 j = 1) ∧ (¬ (j = i ∧ κ j = 2 ∧ s) → κ1 j = κ j)) (he : ∀ j, A j → (Em1 j ↔ Em j ∨ j = i)) : zO (fun _ s => zEm i s) A s κ κ1 Em Em1 (zEm i s) := by
  refine ⟨fun j => ?_, zle_rf, zle_rf, zEm_ok, he, fun j z w => ?_, fun _ z => z.elim⟩
  · by_cases v : j = i ∧ κ j = 2 ∧ s
    · exact Or.inl v.2.1
    · rw [(h2 j).2 v]; exact Or.inr rfl
  · by_cases v : j = i ∧ κ j = 2 ∧ s
    · rw [(h2 j).1 v] at w
      exact absurd w (by decide)
    · rw [(h2 j).2 v] at w
      exact v ⟨z.2, w, z.1⟩
theorem zEm_S {i : Nat} (h2 : ∀ j, (j = i ∧ κ j = 2 ∧ s → κ1 j = 1) ∧ (¬ (j = i ∧ κ j = 2 ∧ s) → κ1 j = κ j)) : zSd (fun _ s => zEm i s) I s κ κ1 := by
  intro μ r s' hk hs h1 h0 j
  by_cases v : j = i ∧ κ j = 2 ∧ s
  · rw [(h2 j).1 v]
    exact Or.inr (h1 j v.2.1 (hs v.2.2).1 ⟨(hs v.2.2).2, v.1⟩).symm
  · rw [(h2 j).2 v]; exact hk j
theorem zEm_N {i : Nat} (hd : db1 ↔ db) (hc : ∀ p, ch1 p ↔ ch p) : zDN (fun _ s => zEm i s) s κ κ1 db db1 g ch ch1 c := ⟨fun _ => ⟨hd.trans ⟨Or.inl, fun z => z.elim id False.elim⟩, fun _ h0 p hp => ⟨fun z => absurd ((hc p).mp z) (h0 p hp), False.elim⟩⟩, fun p _ => hc p⟩
/-- meanings that are the same but for exactness -/
def zR (e : zvT) : (Nat → Prop) × (Nat → Prop) × (Nat → Prop) × (Nat → Prop) × (Nat → Prop) × Prop × (Nat → Prop) := (zC e, zM e, zE e, zS e, zV e, zD e, zN e)
theorem zR_sl {p : Prop} {a b : zvT} (h : p) : zR (zSl p (¬ p) a b) = zR a := by
  have n : ∀ q : Prop, (¬ p ∧ q) = False := fun q => propext ⟨fun z => z.1 h, False.elim⟩
  have y : ∀ q : Prop, (p ∧ q) = q := fun q => propext ⟨fun z => z.2, fun z => ⟨h, z⟩⟩
  have o : ∀ q : Prop, (q ∨ False) = q := fun q => propext ⟨fun z => z.elim id False.elim, Or.inl⟩
  show (_, _, _, _, _, _, _) = zR a
  unfold zSl zR
  simp only [n, y, o]
theorem zR_sr {p : Prop} {a b : zvT} (h : ¬ p) : zR (zSl p (¬ p) a b) = zR b := by
  have n : ∀ q : Prop, (p ∧ q) = False := fun q => propext ⟨fun z => h z.1, False.elim⟩
  have y : ∀ q : Prop, (¬ p ∧ q) = q := fun q => propext ⟨fun z => z.2, fun z => ⟨h, z⟩⟩
  have o : ∀ q : Prop, (False ∨ q) = q := fun q => propext ⟨fun z => z.elim False.elim id, Or.inr⟩
  show (_, _, _, _, _, _, _) = zR b
  unfold zSl zR
  simp only [n, y, o]
theorem zR_p {a b : zvT} (h : zR a = zR b) : zC a = zC b ∧ zM a = zM b ∧ zE a = zE b ∧ zS a = zS b ∧ zV a = zV b ∧ zD a = zD b ∧ zN a = zN b := by
  have h := Prod.ext_iff.mp h
  obtain ⟨h1, h⟩ := h
  have h := Prod.ext_iff.mp h
  obtain ⟨h2, h⟩ := h
  have h := Prod.ext_iff.mp h
  obtain ⟨h3, h⟩ := h
  have h := Prod.ext_iff.mp h
  obtain ⟨h4, h⟩ := h
  have h := Prod.ext_iff.mp h
  obtain ⟨h5, h⟩ := h
  have h := Prod.ext_iff.mp h
  exact ⟨h1, h2, h3, h4, h5, h.1, h.2⟩
def zFe (e e' : zF) : Prop := ∀ κ s, zR (e κ s) = zR (e' κ s)
theorem zle_R {a a' b b' : zvT} (h : zR a = zR a') (k : zR b = zR b') (z : zle a b) : zle a' b' := by
  obtain ⟨h1, h2, h3, h4, h5, h6, h7⟩ := zR_p h
  obtain ⟨k1, k2, k3, k4, k5, k6, k7⟩ := zR_p k
  unfold zle at z ⊢
  rw [← h1, ← h2, ← h3, ← h4, ← h5, ← k1, ← k2, ← k3, ← k4, ← k5]
  exact z
theorem zO_c {e' : zF} (h : zFe e e') (z : zO e A s κ κ1 Em Em1 c) : zO e' A s κ κ1 Em Em1 c := ⟨z.1, zle_R (h κ s) rfl z.2.1, zle_R rfl (h κ1 s) z.2.2.1, z.2.2.2⟩
theorem zSd_c {e' : zF} (h : zFe e e') (z : zSd e I s κ κ1) : zSd e' I s κ κ1 := by
  intro μ r s' hk hs h1 h0
  obtain ⟨-, -, q3, q4, -⟩ := zR_p (h μ s')
  exact z μ r s' hk hs (fun i h2 hr y => h1 i h2 hr (by rw [← q4]; exact y)) (fun i hi y => h0 i hi (by rw [← q3]; exact y))
theorem zDN_c {e' : zF} (h : zFe e e') (z : zDN e s κ κ1 db db1 g ch ch1 c) : zDN e' s κ κ1 db db1 g ch ch1 c := by
  obtain ⟨-, -, -, -, -, q6, q7⟩ := zR_p (h κ s)
  refine ⟨fun ek => ?_, z.2⟩
  rw [← q6, ← q7]
  exact z.1 ek
end ZCP
