/-! a visit of the class: its outcome lies between the meaning at the statuses before and at those after -/
abbrev zF : Type := (Nat → Int32) → Prop → zvT
def vLe (κ κ' : Nat → Int32) : Prop := ∀ i, vle (κ i) (κ' i)
theorem vle_tr {x y z : Int32} (h : vle x y) (g : vle y z) : vle x z := by
  rcases h with h | h
  · exact Or.inl h
  · rcases g with g | g
    · exact Or.inl (h.trans g)
    · exact Or.inr (h.trans g)
theorem vle_n2 {x y : Int32} (h : vle x y) (g : ¬ x = 2) : y = x := by
  rcases h with h | h
  · exact absurd h g
  · exact h.symm
theorem vle_2 {x y : Int32} (h : vle x y) (g : y = 2) : x = 2 := by
  rcases h with h | h
  · exact h
  · exact h.trans g
theorem vLe_rf {κ : Nat → Int32} : vLe κ κ := fun i => Or.inr rfl
theorem vLe_tr {κ κ' κ'' : Nat → Int32} (h : vLe κ κ') (g : vLe κ' κ'') : vLe κ κ'' := fun i => vle_tr (h i) (g i)
theorem vLe_an {κ κ' : Nat → Int32} (h : vLe κ κ') (g : vLe κ' κ) : κ' = κ := by
  funext i
  rcases g i with z | z
  · rw [z, vle_2 (h i) z]
  · exact z
theorem vLe_m {κ κ1 κ2 : Nat → Int32} (h : vLe κ κ1) (g : vLe κ1 κ2) (e : κ2 = κ) : κ1 = κ := by
  subst e
  exact vLe_an h g
/-- meanings that grow with the statuses -/
def zMo (e : zF) : Prop := ∀ κ κ' s s', vLe κ κ' → (s → s') → zle (e κ s) (e κ' s')
def zOK (e : zF) : Prop := ∀ κ s, zOk s (e κ s)
/-- what may be emitted is around or within -/
def zEi (e : zF) (R I : Nat → Prop) : Prop := ∀ κ s i, zE (e κ s) i → R i ∨ I i
def zNi (e : zF) (g : Nat → Prop) : Prop := ∀ κ s p, zN (e κ s) p → g p
theorem zle_tr {a b c : zvT} (h : zle a b) (g : zle b c) : zle a c := ⟨fun i z => h.1 i (g.1 i z), fun i z => g.2.1 i (h.2.1 i z), fun i z => h.2.2.1 i (g.2.2.1 i z), fun i z => g.2.2.2.1 i (h.2.2.2.1 i z), fun i z => h.2.2.2.2 i (g.2.2.2.2 i z)⟩
/-- the outcome c of a visit -/
def zO (e : zF) (A : Nat → Prop) (s : Prop) (κ κ' : Nat → Int32) (Em Em' : Nat → Prop) (c : zvT) : Prop :=
  vLe κ κ' ∧ zle (e κ s) c ∧ zle c (e κ' s) ∧ zOk s c ∧ (∀ i, A i → (Em' i ↔ Em i ∨ zE c i)) ∧ (∀ i, zS c i → ¬ κ' i = 2) ∧ ∀ i, zV c i → κ' i = 2 → zE c i
/-- a visit that is made only where v -/
def zOv (v : Prop) (e : zF) (A : Nat → Prop) (s : Prop) (κ κ' : Nat → Int32) (Em Em' : Nat → Prop) (c : zvT) : Prop :=
  (v → zO e A s κ κ' Em Em' c) ∧ (¬ v → κ' = κ ∧ (∀ i, A i → (Em' i ↔ Em i)) ∧ c = e κ s)
/-- what is found out is so in all statuses that fit -/
def zSd (e : zF) (I : Nat → Prop) (s : Prop) (κ κ' : Nat → Int32) : Prop := ∀ (μ : Nat → Int32) (r s' : Prop), vLe κ μ → (s → r ∧ s') → (∀ i, κ i = 2 → r → zS (e μ s') i → μ i = 1) → (∀ i, I i → ¬ (r ∧ zE (e μ s') i) → μ i = 0) → vLe κ' μ
/-- doubt and pauses chosen, where nothing was found out -/
def zDN (e : zF) (s : Prop) (κ κ' : Nat → Int32) (db db' : Prop) (g : Nat → Prop) (ch ch' : Nat → Prop) (c : zvT) : Prop :=
  (κ' = κ → (db' ↔ db ∨ zD (e κ s)) ∧ ((zM c 0 ∨ zM c 1) → (∀ p, g p → ¬ ch p) → ∀ p, g p → (ch' p ↔ zN (e κ s) p))) ∧ ∀ p, ¬ g p → (ch' p ↔ ch p)
section ZCO
variable {e ea eb : zF} {A I Ia Ib R : Nat → Prop} {s : Prop} {κ κ1 κ2 : Nat → Int32} {Em Em1 Em2 : Nat → Prop} {c ca cb : zvT} {db db1 db2 : Prop} {g ga gb ch ch1 ch2 : Nat → Prop}
theorem zOv_le {v : Prop} (h : zOv v e A s κ κ1 Em Em1 c) : vLe κ κ1 := by
  by_cases z : v
  · exact (h.1 z).1
  · rw [(h.2 z).1]; exact vLe_rf
theorem zOv_lo {v : Prop} (h : zOv v e A s κ κ1 Em Em1 c) : zle (e κ s) c := by
  by_cases z : v
  · exact (h.1 z).2.1
  · rw [(h.2 z).2.2]; exact zle_rf
theorem zOv_hi {v : Prop} (h : zOv v e A s κ κ1 Em Em1 c) : zle c (e κ1 s) := by
  by_cases z : v
  · exact (h.1 z).2.2.1
  · rw [(h.2 z).2.2, (h.2 z).1]; exact zle_rf
theorem zOv_ok {v : Prop} (he : zOK e) (h : zOv v e A s κ κ1 Em Em1 c) : zOk s c := by
  by_cases z : v
  · exact (h.1 z).2.2.2.1
  · rw [(h.2 z).2.2]; exact he κ s
theorem zOv_em {v : Prop} (h : zOv v e A s κ κ1 Em Em1 c) {i : Nat} (hi : A i) : Em1 i ↔ Em i ∨ (v ∧ zE c i) := by
  by_cases z : v
  · rw [(h.1 z).2.2.2.2.1 i hi]
    exact ⟨fun y => y.imp id (fun y => ⟨z, y⟩), fun y => y.imp id (fun y => y.2)⟩
  · rw [(h.2 z).2.1 i hi]
    exact ⟨Or.inl, fun y => y.elim id (fun y => absurd y.1 z)⟩
theorem zO_a (h : zO e A s κ κ1 Em Em1 c) (he : κ1 = κ) : (∀ d, zC c d ↔ zC (e κ s) d) ∧ (∀ d, zM c d ↔ zM (e κ s) d) ∧ (∀ d, zE c d ↔ zE (e κ s) d) := by
  subst he
  exact ⟨fun d => ⟨fun z => h.2.1.1 d z, fun z => h.2.2.1.1 d z⟩, fun d => ⟨fun z => h.2.2.1.2.1 d z, fun z => h.2.1.2.1 d z⟩, fun d => ⟨fun z => h.2.1.2.2.1 d z, fun z => h.2.2.1.2.2.1 d z⟩⟩
/-- one behind the other -/
theorem zTh_mo (ma : zMo ea) (oa : zOK ea) (mb : zMo eb) (ob : zOK eb) : zMo (fun κ s => zTh (ea κ s) (eb κ (zM (ea κ s) 0))) := by
  intro κ κ' s s' hk hs
  have h1 := ma κ κ' s s' hk hs
  exact zTh_le h1 (mb κ κ' _ _ hk (h1.2.1 0)) (fun i z => (ob _ _).2.1 i z) (fun z => ((oa κ' s').2.2.2.2.1 0 z 0).mpr rfl)
theorem zTh_O (ma : zMo ea) (oa : zOK ea) (mb : zMo eb) (ob : zOK eb) (ha : zO ea A s κ κ1 Em Em1 ca) (hb : zOv (zC ca 0) eb A (zM ca 0) κ1 κ2 Em1 Em2 cb) : zO (fun κ s => zTh (ea κ s) (eb κ (zM (ea κ s) 0))) A s κ κ2 Em Em2 (zTh ca cb) := by
  have l1 := ha.1
  have l2 := zOv_le hb
  have kb := zOv_ok ob hb
  have ka := ha.2.2.2.1
  refine ⟨vLe_tr l1 l2, ?_, ?_, zTh_ok ka kb, fun i hi => ?_, fun i z => ?_, fun i z y => ?_⟩
  · exact zTh_le ha.2.1 (zle_tr (mb κ κ1 _ _ l1 (ha.2.1.2.1 0)) (zOv_lo hb)) (fun i z => (ob _ _).2.1 i z) (fun z => (ka.2.2.2.2.1 0 z 0).mpr rfl)
  · have h2 := ma κ1 κ2 s s l2 id
    have h3 := zle_tr ha.2.2.1 h2
    exact zTh_le h3 (zle_tr (zOv_hi hb) (mb κ2 κ2 _ _ vLe_rf (h3.2.1 0))) (fun i z => kb.2.1 i z) (fun z => ((oa κ2 s).2.2.2.2.1 0 z 0).mpr rfl)
  · rw [zOv_em hb hi, ha.2.2.2.2.1 i hi]
    exact or_assoc
  · rcases z with z | ⟨z0, z⟩
    · intro y
      exact ha.2.2.2.2.2.1 i z (vle_2 (l2 i) y)
    · exact (hb.1 z0).2.2.2.2.2.1 i z
  · rcases z with z | ⟨z0, z⟩
    · exact Or.inl (ha.2.2.2.2.2.2 i z (vle_2 (l2 i) y))
    · exact Or.inr ⟨z0, (hb.1 z0).2.2.2.2.2.2 i z y⟩
theorem zTh_S (ma : zMo ea) (oa : zOK ea) (ha : zO ea A s κ κ1 Em Em1 ca) (sa : zSd ea Ia s κ κ1) (hb : zC ca 0 → zSd eb Ib (zM ca 0) κ1 κ2) (hn : ¬ zC ca 0 → κ2 = κ1) (ia : zEi ea R Ia) (ib : zEi eb R Ib) (dab : ∀ i, Ia i → Ib i → False) (dR : ∀ i, R i → ¬ I i) (ua : ∀ i, Ia i → I i) (ub : ∀ i, Ib i → I i) : zSd (fun κ s => zTh (ea κ s) (eb κ (zM (ea κ s) 0))) I s κ κ2 := by
  intro μ r s' hk hs h1 h0
  have k1 : vLe κ1 μ := sa μ r s' hk hs (fun i h2 hr z => h1 i h2 hr (Or.inl z)) (fun i hi z => h0 i (ua i hi) (fun ⟨y1, y2⟩ => by
    rcases y2 with y2 | ⟨-, y2⟩
    · exact z ⟨y1, y2⟩
    · rcases ib _ _ _ y2 with y3 | y3
      · exact dR i y3 (ua i hi)
      · exact dab i hi y3))
  by_cases v : zC ca 0
  · refine hb v μ (r ∧ zC (ea μ s') 0) (zM (ea μ s') 0) k1 (fun z => ?_) (fun i h2 hr z => h1 i (vle_2 (ha.1 i) h2) hr.1 (Or.inr ⟨hr.2, z⟩)) (fun i hi z => h0 i (ub i hi) (fun ⟨y1, y2⟩ => ?_))
    · have zs := hs (ha.2.2.2.1.1 0 z)
      have m1 : zM (ea μ s') 0 := (ma κ1 μ s s' k1 (fun y => (hs y).2)).2.1 0 (ha.2.2.1.2.1 0 z)
      exact ⟨⟨zs.1, ((oa μ s').2.2.2.2.1 0 m1 0).mpr rfl⟩, m1⟩
    · rcases y2 with y2 | ⟨y2, y3⟩
      · rcases ia _ _ _ y2 with y4 | y4
        · exact dR i y4 (ub i hi)
        · exact dab i y4 hi
      · exact z ⟨⟨y1, y2⟩, y3⟩
  · rw [hn v]; exact k1
theorem zTh_N (ha : zO ea A s κ κ1 Em Em1 ca) (hb : zOv (zC ca 0) eb A (zM ca 0) κ1 κ2 Em1 Em2 cb) (ob : zOK eb) (na : zDN ea s κ κ1 db db1 ga ch ch1 ca) (nb : zC ca 0 → zDN eb (zM ca 0) κ1 κ2 db1 db2 gb ch1 ch2 cb) (nn : ¬ zC ca 0 → (db2 ↔ db1) ∧ ∀ p, ch2 p ↔ ch1 p) (ia : zNi ea ga) (ib : zNi eb gb) (hg : ∀ p, g p ↔ ga p ∨ gb p) (oa : zOK ea) : zDN (fun κ s => zTh (ea κ s) (eb κ (zM (ea κ s) 0))) s κ κ2 db db2 g ch ch2 (zTh ca cb) := by
  have l1 := ha.1
  have l2 := zOv_le hb
  have ka := ha.2.2.2.1
  refine ⟨fun ek => ?_, fun p hp => ?_⟩
  · have e1 : κ1 = κ := vLe_m l1 l2 ek
    have e2 : κ2 = κ1 := ek.trans e1.symm
    obtain ⟨a1, a2⟩ := na.1 e1
    obtain ⟨q1, q2, -⟩ := zO_a ha e1
    have em : zM ca 0 = zM (ea κ s) 0 := propext (q2 0)
    have oka := oa κ s
    by_cases v : zC ca 0
    · obtain ⟨b1, b2⟩ := (nb v).1 e2
      have b3 := (nb v).2
      rw [e1, em] at b1 b2
      have v' := (q1 0).mp v
      refine ⟨?_, fun hm h0 p hp => ?_⟩
      · rw [b1, a1]
        show _ ↔ db ∨ (zD (ea κ s) ∨ (zC (ea κ s) 0 ∧ zD (eb κ (zM (ea κ s) 0))))
        constructor
        · rintro ((z | z) | z)
          · exact Or.inl z
          · exact Or.inr (Or.inl z)
          · exact Or.inr (Or.inr ⟨v', z⟩)
        · rintro (z | z | ⟨-, z⟩)
          · exact Or.inl (Or.inl z)
          · exact Or.inl (Or.inr z)
          · exact Or.inr z
      · have hm : zM ca 0 ∧ (zM cb 0 ∨ zM cb 1) := by
          rcases hm with hm | hm
          · rcases hm with hm | hm
            · exact ⟨hm.1, Or.inl hm.2⟩
            · exact absurd rfl hm.1
          · rcases hm with hm | hm
            · exact ⟨hm.1, Or.inr hm.2⟩
            · have := (ka.2.2.2.2.1 1 hm.2 0).mp v
              omega
        have n1 : ∀ p, ga p → (ch1 p ↔ zN (ea κ s) p) := a2 (Or.inl hm.1) (fun p z => h0 p ((hg p).mpr (Or.inl z)))
        have n0 : ∀ p, ¬ zN (ea κ s) p := oka.2.2.2.2.2.2 ((q2 0).mp hm.1)
        have n2 : ∀ p, ¬ ga p → (ch1 p ↔ ch p) := na.2
        have c1 : ∀ p, g p → ¬ ch1 p := by
          intro p z
          by_cases y : ga p
          · rw [n1 p y]; exact n0 p
          · rw [n2 p y]; exact h0 p z
        have n3 := b2 hm.2 (fun p z => c1 p ((hg p).mpr (Or.inr z)))
        show ch2 p ↔ zN (ea κ s) p ∨ (zC (ea κ s) 0 ∧ zN (eb κ (zM (ea κ s) 0)) p)
        by_cases y : gb p
        · rw [n3 p y]
          exact ⟨fun z => Or.inr ⟨v', z⟩, fun z => z.elim (fun z => absurd z (n0 p)) (fun z => z.2)⟩
        · rw [b3 p y]
          exact ⟨fun z => absurd z (c1 p hp), fun z => z.elim (fun z => absurd z (n0 p)) (fun z => absurd (ib _ _ _ z.2) y)⟩
    · obtain ⟨d1, d2⟩ := nn v
      have v' : ¬ zC (ea κ s) 0 := fun z => v ((q1 0).mpr z)
      refine ⟨?_, fun hm h0 p hp => ?_⟩
      · rw [d1, a1]
        show _ ↔ db ∨ (zD (ea κ s) ∨ (zC (ea κ s) 0 ∧ zD (eb κ (zM (ea κ s) 0))))
        exact ⟨fun z => z.imp id Or.inl, fun z => z.imp id (fun z => z.elim id (fun z => absurd z.1 v'))⟩
      · have hm : zM ca 1 := by
          rcases hm with hm | hm
          · rcases hm with hm | hm
            · exact absurd ((ka.2.2.2.2.1 0 hm.1 0).mpr rfl) v
            · exact absurd rfl hm.1
          · rcases hm with hm | hm
            · exact absurd ((ka.2.2.2.2.1 0 hm.1 0).mpr rfl) v
            · exact hm.2
        have n1 : ∀ p, ga p → (ch1 p ↔ zN (ea κ s) p) := a2 (Or.inr hm) (fun p z => h0 p ((hg p).mpr (Or.inl z)))
        show ch2 p ↔ zN (ea κ s) p ∨ (zC (ea κ s) 0 ∧ zN (eb κ (zM (ea κ s) 0)) p)
        rw [d2 p]
        by_cases y : ga p
        · rw [n1 p y]
          exact ⟨Or.inl, fun z => z.elim id (fun z => absurd z.1 v')⟩
        · rw [na.2 p y]
          exact ⟨fun z => absurd z (h0 p hp), fun z => z.elim (fun z => absurd (ia _ _ _ z) y) (fun z => absurd z.1 v')⟩
  · have hp : ¬ ga p ∧ ¬ gb p := ⟨fun z => hp ((hg p).mpr (Or.inl z)), fun z => hp ((hg p).mpr (Or.inr z))⟩
    by_cases v : zC ca 0
    · rw [(nb v).2 p hp.2, na.2 p hp.1]
    · rw [(nn v).2 p, na.2 p hp.1]
end ZCO
