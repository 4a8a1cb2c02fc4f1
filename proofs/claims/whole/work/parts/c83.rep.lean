/-! trees in the class's list of nodes -/
def repC (ND : Nat → ndT) : tT → Nat → List Nat → Prop
  | .const x, i, I => I = [i] ∧ ND i = ((lT x).1, (lT x).2.1, none, none, (lT x).2.2.1, (lT x).2.2.2.1, (lT x).2.2.2.2.2)
  | .unary x a, i, I => ∃ i1 I1, I = i :: I1 ∧ ND i = ((lT x).1, (lT x).2.1, some i1, none, (lT x).2.2.1, (lT x).2.2.2.1, (lT x).2.2.2.2.2) ∧ repC ND a i1 I1
  | .binary x a b, i, I => ∃ i1 I1 i2 I2, I = i :: (I1 ++ I2) ∧ ND i = ((lT x).1, (lT x).2.1, some i1, some i2, (lT x).2.2.1, (lT x).2.2.2.1, (lT x).2.2.2.2.2) ∧ repC ND a i1 I1 ∧ repC ND b i2 I2
  | _, _, _ => False
def cov (I : List Nat) (lo hi : Nat) : Prop := (∀ k, k ∈ I ↔ lo ≤ k ∧ k < hi) ∧ I.Nodup
section REP
variable {ND ND' : Nat → ndT} {x : lbT} {a b : tT} {i i1 i2 : Nat} {I I1 I2 : List Nat}
theorem rep0 (h : ND i = (x.1, x.2.1, none, none, x.2.2.1, x.2.2.2.1, x.2.2.2.2.2)) : repC ND (t0 x) i [i] := by
  refine ⟨rfl, ?_⟩
  rw [lT_tL]; exact h
theorem rep1 (h : ND i = (x.1, x.2.1, some i1, none, x.2.2.1, x.2.2.2.1, x.2.2.2.2.2)) (ha : repC ND a i1 I1) : repC ND (t1 x a) i (i :: I1) := by
  refine ⟨i1, I1, rfl, ?_, ha⟩
  rw [lT_tL]; exact h
theorem rep2 (h : ND i = (x.1, x.2.1, some i1, some i2, x.2.2.1, x.2.2.2.1, x.2.2.2.2.2)) (ha : repC ND a i1 I1) (hb : repC ND b i2 I2) : repC ND (t2 x a b) i (i :: (I1 ++ I2)) := by
  refine ⟨i1, I1, i2, I2, rfl, ?_, ha, hb⟩
  rw [lT_tL]; exact h
theorem repC_ext : ∀ (T : tT) (i : Nat) (I : List Nat), repC ND T i I → (∀ k, k ∈ I → ND' k = ND k) → repC ND' T i I
  | .const x, i, I, ⟨h1, h2⟩, he => by
    refine ⟨h1, ?_⟩
    rw [he i (by rw [h1]; exact List.mem_singleton.mpr rfl)]; exact h2
  | .unary x a, i, I, ⟨i1, I1, h1, h2, h3⟩, he => by
    refine ⟨i1, I1, h1, ?_, repC_ext a i1 I1 h3 (fun k hk => he k (by rw [h1]; exact List.mem_cons_of_mem _ hk))⟩
    rw [he i (by rw [h1]; exact List.mem_cons_self)]; exact h2
  | .binary x a b, i, I, ⟨i1, I1, i2, I2, h1, h2, h3, h4⟩, he => by
    refine ⟨i1, I1, i2, I2, h1, ?_, repC_ext a i1 I1 h3 (fun k hk => he k (by rw [h1]; exact List.mem_cons_of_mem _ (List.mem_append_left _ hk))), repC_ext b i2 I2 h4 (fun k hk => he k (by rw [h1]; exact List.mem_cons_of_mem _ (List.mem_append_right _ hk)))⟩
    rw [he i (by rw [h1]; exact List.mem_cons_self)]; exact h2
theorem repC_mem : ∀ (T : tT) (i : Nat) (I : List Nat), repC ND T i I → i ∈ I
  | .const x, i, I, ⟨h1, h2⟩ => by rw [h1]; exact List.mem_singleton.mpr rfl
  | .unary x a, i, I, ⟨i1, I1, h1, h2, h3⟩ => by rw [h1]; exact List.mem_cons_self
  | .binary x a b, i, I, ⟨i1, I1, i2, I2, h1, h2, h3, h4⟩ => by rw [h1]; exact List.mem_cons_self
theorem cov_app {p q r : Nat} (h1 : cov I1 p q) (h2 : cov I2 q r) (hpq : p ≤ q) (hqr : q ≤ r) : cov (I1 ++ I2) p r := by
  refine ⟨fun k => ?_, ?_⟩
  · rw [List.mem_append, h1.1, h2.1]; omega
  · refine List.nodup_append.mpr ⟨h1.2, h2.2, fun y hy z hz e => ?_⟩
    have a1 := (h1.1 y).mp hy
    have a2 := (h2.1 z).mp hz
    omega
theorem cov_app' {p q r : Nat} (h1 : cov I1 q r) (h2 : cov I2 p q) (hpq : p ≤ q) (hqr : q ≤ r) : cov (I1 ++ I2) p r := by
  refine ⟨fun k => ?_, ?_⟩
  · rw [List.mem_append, h1.1, h2.1]; omega
  · refine List.nodup_append.mpr ⟨h1.2, h2.2, fun y hy z hz e => ?_⟩
    have a1 := (h1.1 y).mp hy
    have a2 := (h2.1 z).mp hz
    omega
theorem cov_cons {p r : Nat} (h : cov I p r) (hp : p ≤ r) : cov (r :: I) p (r + 1) := by
  refine ⟨fun k => ?_, ?_⟩
  · rw [List.mem_cons, h.1]; omega
  · refine List.nodup_cons.mpr ⟨fun z => ?_, h.2⟩
    have := (h.1 r).mp z
    omega
theorem cov_nil {p : Nat} : cov [] p p := ⟨fun k => ⟨fun z => absurd z List.not_mem_nil, fun z => absurd z (by omega)⟩, List.nodup_nil⟩
end REP
section TRO
variable {G : hg_E} {sz t0' : Nat} {H0 : Nat → Option va_E} {K1 K2 n : Nat} {f : Nat → Int32} {S S' : hg_S} {A C : Nat → Nat} {B : Nat → Nat → Int32} {Q : Nat → Int32} {j o : Nat} {el : Nat → Option Nat} {P : Nat → Nat} {ND : Nat → ndT}
/-- a tree made: its nodes are those from lo on -/
def trO (G : hg_E) (t0' : Nat) (H0 : Nat → Option va_E) (K1 K2 n : Nat) (f : Nat → Int32) (B : Nat → Nat → Int32) (j : Nat) (A C : Nat → Nat) (Q : Nat → Int32) (P : Nat → Nat) (ND : Nat → ndT) (T : tT) (lo : Nat) (m : Int) (S' : hg_S) (r : Option Nat) : Prop :=
  ∃ A' C' Q' el' P' ND' i I, PV G t0' H0 K1 K2 n f S' A' C' B Q' j el' P' ND' ∧ RC n K1 K2 C' Q' ∧ evC A C Q P ND A' C' Q' P' ND' ∧ (Q' 12).toInt = (Q 12).toInt + m ∧ r = some (P' i) ∧ i + 1 = (Q' 12).toInt.toNat ∧ repC ND' T i I ∧ cov I lo (Q' 12).toInt.toNat
theorem chkD (v : PV G t0' H0 K1 K2 n f S A C B Q j el P ND) (ho : A 5 = o) {τ : Type} {E : Nat → Option τ} {F : τ → Prop} (kk : dc_wp (E o) F) : dc_wp ((hg_chk S (some o) 6).bind E) F := by
  subst ho
  exact wq_chk v.dr kk
theorem lf_t (v : PV G t0' H0 K1 K2 n f S A C B Q j el P ND) (rc : RC n K1 K2 C Q) (ho : A 5 = o) (hr : (Q 12).toInt + 1 ≤ 6 * (n : Int)) {k y l sv : Int32} : dc_wp (hm_DR_leaf G S o k y l) (fun q => trO G t0' H0 K1 K2 n f B j A C Q P ND (t0 (k, l, y, -1, sv, -1)) (Q 12).toInt.toNat 1 q.1 q.2) := by
  subst ho
  refine dc_mono (leafC v rc hr) ?_
  rintro q ⟨A', C', Q', el', P', ND', g1, g2, g3, g4, g5, g6⟩
  have a7 := rc.2.2.1.2.1
  refine ⟨A', C', Q', el', P', ND', (Q 12).toInt.toNat, [(Q 12).toInt.toNat], g1, g2, g3, g4, g6, by omega, rep0 g5, ?_⟩
  rw [show (Q' 12).toInt.toNat = (Q 12).toInt.toNat + 1 by omega]
  exact cov_cons cov_nil (Nat.le_refl _)
theorem jn1_t (v : PV G t0' H0 K1 K2 n f S A C B Q j el P ND) (rc : RC n K1 K2 C Q) (ho : A 5 = o) (hr : (Q 12).toInt + 1 ≤ 6 * (n : Int)) {T : tT} {i lo : Nat} {I : List Nat} (hT : repC ND T i I) (hI : cov I lo (Q 12).toInt.toNat) (hlo : lo ≤ (Q 12).toInt.toNat) {r : Option Nat} (er : r = some (P i)) {k l sv : Int32} : dc_wp (hm_DR_join G S o k r none l) (fun q => trO G t0' H0 K1 K2 n f B j A C Q P ND (t1 (k, l, -1, -1, sv, -1) T) lo 1 q.1 q.2) := by
  subst ho
  have a7 := rc.2.2.1.2.1
  have hi := (hI.1 i).mp (repC_mem _ _ _ hT)
  refine dc_mono (joinC v rc hr (c1 := some i) (c2 := none) (fun c hc => by rcases hc with hc | hc <;> cases hc; exact hi.2) er rfl) ?_
  rintro q ⟨A', C', Q', el', P', ND', g1, g2, g3, g4, g5, g6⟩
  refine ⟨A', C', Q', el', P', ND', (Q 12).toInt.toNat, (Q 12).toInt.toNat :: I, g1, g2, g3, g4, g6, by omega, rep1 g5 (repC_ext _ _ _ hT (fun y hy => (g3.2.2.2.2 y ((hI.1 y).mp hy).2).2)), ?_⟩
  rw [show (Q' 12).toInt.toNat = (Q 12).toInt.toNat + 1 by omega]
  exact cov_cons hI hlo
theorem jn2_t (v : PV G t0' H0 K1 K2 n f S A C B Q j el P ND) (rc : RC n K1 K2 C Q) (ho : A 5 = o) (hr : (Q 12).toInt + 1 ≤ 6 * (n : Int)) {T1 T2 : tT} {i1 i2 lo : Nat} {I1 I2 : List Nat} (h1 : repC ND T1 i1 I1) (h2 : repC ND T2 i2 I2) (hI : cov (I1 ++ I2) lo (Q 12).toInt.toNat) (hlo : lo ≤ (Q 12).toInt.toNat) {r1 r2 : Option Nat} (e1 : r1 = some (P i1)) (e2 : r2 = some (P i2)) {k l sv : Int32} : dc_wp (hm_DR_join G S o k r1 r2 l) (fun q => trO G t0' H0 K1 K2 n f B j A C Q P ND (t2 (k, l, -1, -1, sv, -1) T1 T2) lo 1 q.1 q.2) := by
  subst ho
  have a7 := rc.2.2.1.2.1
  have m1 := (hI.1 i1).mp (List.mem_append_left _ (repC_mem _ _ _ h1))
  have m2 := (hI.1 i2).mp (List.mem_append_right _ (repC_mem _ _ _ h2))
  refine dc_mono (joinC v rc hr (c1 := some i1) (c2 := some i2) (fun c hc => by rcases hc with hc | hc <;> cases hc; exact m1.2; exact m2.2) e1 e2) ?_
  rintro q ⟨A', C', Q', el', P', ND', g1, g2, g3, g4, g5, g6⟩
  refine ⟨A', C', Q', el', P', ND', (Q 12).toInt.toNat, (Q 12).toInt.toNat :: (I1 ++ I2), g1, g2, g3, g4, g6, by omega, rep2 g5 (repC_ext _ _ _ h1 (fun y hy => (g3.2.2.2.2 y ((hI.1 y).mp (List.mem_append_left _ hy)).2).2)) (repC_ext _ _ _ h2 (fun y hy => (g3.2.2.2.2 y ((hI.1 y).mp (List.mem_append_right _ hy)).2).2)), ?_⟩
  rw [show (Q' 12).toInt.toNat = (Q 12).toInt.toNat + 1 by omega]
  exact cov_cons hI hlo
/-- something set in a node -/
theorem PV_set (v : PV G t0' H0 K1 K2 n f S A C B Q j el P ND) {i : Nat} (hi : i < (Q 12).toInt.toNat) {x : ndT} (hx : x.2.2.1 = (ND i).2.2.1 ∧ x.2.2.2.1 = (ND i).2.2.2.1) : PV G t0' H0 K1 K2 n f (hu S (P i) (.inr (8, ndC P x))) A C B Q j el P (nU ND i x) := by
  have c0 := (v.nd i hi).2.2.1
  have t0i := (v.nd i hi).2.1
  have ne : ∀ {k : Nat} {y : va_E}, hg_at S.1 (A k) = some y → (∀ fs, ¬ y = .inr (8, fs)) → hg_at (hu S (P i) (.inr (8, ndC P x))).1 (A k) = hg_at S.1 (A k) := fun {k y} hy d => hu_ne (v.nd_ne hi hy d).symm
  refine ⟨⟨v.st.1.hu, v.st.2.1, v.st.2.2.1, ?_, v.st.2.2.2.2.1, v.st.2.2.2.2.2⟩, (ne v.pa (fun _ z => by cases z)).trans v.pa, v.lx.fr (ne v.lx.1 (fun _ z => by cases z)) (ne v.lx.2.1 (fun _ z => by cases z)), v.sn.fr (ne v.sn.1 (fun _ z => by cases z)) (ne v.sn.2.1 (fun _ z => by cases z)) (ne v.sn.2.2.1 (fun _ z => by cases z)) (ne v.sn.2.2.2 (fun _ z => by cases z)), v.tn.fr (ne v.tn.1 (fun _ z => by cases z)) (ne v.tn.2.1 (fun _ z => by cases z)) (ne v.tn.2.2.1 (fun _ z => by cases z)) (ne v.tn.2.2.2 (fun _ z => by cases z)), (ne v.dr (fun _ z => by cases z)).trans v.dr, v.pi.fr (ne v.pi.1 (fun _ z => by cases z)) (ne v.pi.2.1 (fun _ z => by cases z)) (ne v.pi.2.2.1 (fun _ z => by cases z)) (ne v.pi.2.2.2.1 (fun _ z => by cases z)) (ne v.pi.2.2.2.2.1 (fun _ z => by cases z)) (ne v.pi.2.2.2.2.2 (fun _ z => by cases z)), ⟨v.al.fr (ne v.al.1 (fun _ z => by cases z)) (fun z => ?_), v.a19⟩, ?_, v.rm⟩
  · intro b hb
    rw [hu_ne (by omega)]
    exact v.st.2.2.2.1 b hb
  · rcases v.al.2 with ⟨y, -⟩ | ⟨-, -, y⟩
    · exact absurd y z
    · exact ne y (fun _ z => by cases z)
  · intro k hk
    obtain ⟨y1, y2, y3, y4, y5⟩ := v.nd k hk
    by_cases e : k = i
    · subst e
      have p2 : nU ND k x k = x := if_pos rfl
      rw [p2]
      exact ⟨y1, y2, hu_self c0, y4, fun c hc => y5 c (by rw [hx.1, hx.2] at hc; exact hc)⟩
    · have p2 : nU ND i x k = ND k := if_neg e
      have pn : P k ≠ P i := by
        rcases Nat.lt_or_gt_of_ne e with z | z
        · have := (v.nd i hi).2.2.2.1 k z; omega
        · have := y4 i z; omega
      rw [p2]
      exact ⟨y1, y2, (hu_ne pn).trans y3, y4, y5⟩
theorem set_w (v : PV G t0' H0 K1 K2 n f S A C B Q j el P ND) {i : Nat} (hi : i < (Q 12).toInt.toNat) {x : ndT} (hx : x.2.2.1 = (ND i).2.2.1 ∧ x.2.2.2.1 = (ND i).2.2.2.1) {fl : Nat} {y : Value} (hf : fl < 13) (hfs : (ndC P (ND i)).set fl y = ndC P x) {r : Option Nat} (er : r = some (P i)) {τ : Type} {E : hg_S → Option τ} {F : τ → Prop} (kk : ∀ S', PV G t0' H0 K1 K2 n f S' A C B Q j el P (nU ND i x) → dc_wp (E S') F) : dc_wp ((hg_pf S r 8 fl y).bind E) F := by
  subst er
  refine wq_pfT (v.nd i hi).2.2.1 hf hfs ?_
  intro T eT
  refine kk T ?_
  rw [← eT]
  exact PV_set v hi hx
theorem nU_i {ND : Nat → ndT} {i : Nat} {x : ndT} : nU ND i x i = x := if_pos rfl
theorem nU_n {ND : Nat → ndT} {i k : Nat} {x : ndT} (h : ¬ k = i) : nU ND i x k = ND k := if_neg h
theorem evC_set {A' C' : Nat → Nat} {Q' : Nat → Int32} {P' : Nat → Nat} {ND' : Nat → ndT} {i : Nat} {x : ndT} (h : evC A C Q P ND A' C' Q' P' ND') (hi : (Q 12).toInt.toNat ≤ i) : evC A C Q P ND A' C' Q' P' (nU ND' i x) := by
  obtain ⟨h1, h2, h3, h4, h5⟩ := h
  exact ⟨h1, h2, h3, h4, fun k hk => ⟨(h5 k hk).1, (nU_n (by omega)).trans (h5 k hk).2⟩⟩
/-- join and set: one below -/
theorem js1_t (v : PV G t0' H0 K1 K2 n f S A C B Q j el P ND) (rc : RC n K1 K2 C Q) (ho : A 5 = o) (hr : (Q 12).toInt + 1 ≤ 6 * (n : Int)) {T : tT} {i lo : Nat} {I : List Nat} (hT : repC ND T i I) (hI : cov I lo (Q 12).toInt.toNat) (hlo : lo ≤ (Q 12).toInt.toNat) {r : Option Nat} (er : r = some (P i)) {k l y1 y2 y3 sv : Int32} {fl : Nat} {y : Int32} (hf : fl < 13) (hfs : ∀ p : Value, ([.int k, .int l, p, .null, .int (-1), .int (-1), .int (-1), .int 0, .int 0, .int (-1), .int 0, .int 1, .int 0] : List Value).set fl (.int y) = [.int k, .int l, p, .null, .int y1, .int y2, .int y3, .int 0, .int 0, .int (-1), .int 0, .int 1, .int 0]) {τ : Type} {E : hg_S → Option Nat → Option τ} {F : τ → Prop} (kk : ∀ S' r', trO G t0' H0 K1 K2 n f B j A C Q P ND (t1 (k, l, y1, y2, sv, y3) T) lo 1 S' r' → dc_wp (E S' r') F) : dc_wp ((hm_DR_join G S o k r none l).bind fun q => (hg_pf q.1 q.2 8 fl (.int y)).bind fun S' => E S' q.2) F := by
  subst ho
  have a7 := rc.2.2.1.2.1
  have hi := (hI.1 i).mp (repC_mem _ _ _ hT)
  refine wq_call (joinC v rc hr (c1 := some i) (c2 := none) (fun c hc => by rcases hc with hc | hc <;> cases hc; exact hi.2) er rfl) ?_
  rintro q ⟨A', C', Q', el', P', ND', g1, g2, g3, g4, g5, g6⟩
  refine set_w g1 (i := (Q 12).toInt.toNat) (x := (k, l, some i, none, y1, y2, y3)) (by omega) (by rw [g5]; exact ⟨rfl, rfl⟩) hf (by rw [g5]; exact hfs _) g6 ?_
  intro T' v'
  refine kk T' q.2 ⟨A', C', Q', el', P', _, (Q 12).toInt.toNat, (Q 12).toInt.toNat :: I, v', g2, evC_set g3 (Nat.le_refl _), g4, g6, by omega, rep1 nU_i (repC_ext _ _ _ hT (fun z hz => ?_)), ?_⟩
  · have hz2 := ((hI.1 z).mp hz).2
    rw [nU_n (by omega)]
    exact (g3.2.2.2.2 z hz2).2
  · rw [show (Q' 12).toInt.toNat = (Q 12).toInt.toNat + 1 by omega]
    exact cov_cons hI hlo
/-- join and set: two below -/
theorem js2_t (v : PV G t0' H0 K1 K2 n f S A C B Q j el P ND) (rc : RC n K1 K2 C Q) (ho : A 5 = o) (hr : (Q 12).toInt + 1 ≤ 6 * (n : Int)) {T1 T2 : tT} {i1 i2 lo : Nat} {I1 I2 : List Nat} (h1 : repC ND T1 i1 I1) (h2 : repC ND T2 i2 I2) (hI : cov (I1 ++ I2) lo (Q 12).toInt.toNat) (hlo : lo ≤ (Q 12).toInt.toNat) {r1 r2 : Option Nat} (e1 : r1 = some (P i1)) (e2 : r2 = some (P i2)) {k l y1 y2 y3 sv : Int32} {fl : Nat} {y : Int32} (hf : fl < 13) (hfs : ∀ p p' : Value, ([.int k, .int l, p, p', .int (-1), .int (-1), .int (-1), .int 0, .int 0, .int (-1), .int 0, .int 1, .int 0] : List Value).set fl (.int y) = [.int k, .int l, p, p', .int y1, .int y2, .int y3, .int 0, .int 0, .int (-1), .int 0, .int 1, .int 0]) {τ : Type} {E : hg_S → Option Nat → Option τ} {F : τ → Prop} (kk : ∀ S' r', trO G t0' H0 K1 K2 n f B j A C Q P ND (t2 (k, l, y1, y2, sv, y3) T1 T2) lo 1 S' r' → dc_wp (E S' r') F) : dc_wp ((hm_DR_join G S o k r1 r2 l).bind fun q => (hg_pf q.1 q.2 8 fl (.int y)).bind fun S' => E S' q.2) F := by
  subst ho
  have a7 := rc.2.2.1.2.1
  have m1 := (hI.1 i1).mp (List.mem_append_left _ (repC_mem _ _ _ h1))
  have m2 := (hI.1 i2).mp (List.mem_append_right _ (repC_mem _ _ _ h2))
  refine wq_call (joinC v rc hr (c1 := some i1) (c2 := some i2) (fun c hc => by rcases hc with hc | hc <;> cases hc; exact m1.2; exact m2.2) e1 e2) ?_
  rintro q ⟨A', C', Q', el', P', ND', g1, g2, g3, g4, g5, g6⟩
  refine set_w g1 (i := (Q 12).toInt.toNat) (x := (k, l, some i1, some i2, y1, y2, y3)) (by omega) (by rw [g5]; exact ⟨rfl, rfl⟩) hf (by rw [g5]; exact hfs _ _) g6 ?_
  intro T' v'
  have ext : ∀ z, z ∈ I1 ++ I2 → nU ND' (Q 12).toInt.toNat (k, l, some i1, some i2, y1, y2, y3) z = ND z := fun z hz => by
    have hz2 := ((hI.1 z).mp hz).2
    rw [nU_n (by omega)]
    exact (g3.2.2.2.2 z hz2).2
  refine kk T' q.2 ⟨A', C', Q', el', P', _, (Q 12).toInt.toNat, (Q 12).toInt.toNat :: (I1 ++ I2), v', g2, evC_set g3 (Nat.le_refl _), g4, g6, by omega, rep2 nU_i (repC_ext _ _ _ h1 (fun z hz => ext z (List.mem_append_left _ hz))) (repC_ext _ _ _ h2 (fun z hz => ext z (List.mem_append_right _ hz))), ?_⟩
  rw [show (Q' 12).toInt.toNat = (Q 12).toInt.toNat + 1 by omega]
  exact cov_cons hI hlo
/-- join and set: a leaf -/
theorem js0_t (v : PV G t0' H0 K1 K2 n f S A C B Q j el P ND) (rc : RC n K1 K2 C Q) (ho : A 5 = o) (hr : (Q 12).toInt + 1 ≤ 6 * (n : Int)) {k l y sv : Int32} {τ : Type} {E : hg_S → Option Nat → Option τ} {F : τ → Prop} (kk : ∀ S' r', trO G t0' H0 K1 K2 n f B j A C Q P ND (t0 (k, l, -1, y, sv, -1)) (Q 12).toInt.toNat 1 S' r' → dc_wp (E S' r') F) : dc_wp ((hm_DR_join G S o k none none l).bind fun q => (hg_pf q.1 q.2 8 5 (.int y)).bind fun S' => E S' q.2) F := by
  subst ho
  have a7 := rc.2.2.1.2.1
  refine wq_call (joinC v rc hr (c1 := none) (c2 := none) (fun c hc => by rcases hc with hc | hc <;> cases hc) rfl rfl) ?_
  rintro q ⟨A', C', Q', el', P', ND', g1, g2, g3, g4, g5, g6⟩
  refine set_w g1 (i := (Q 12).toInt.toNat) (x := (k, l, none, none, -1, y, -1)) (by omega) (by rw [g5]; exact ⟨rfl, rfl⟩) (by omega) (by rw [g5]; rfl) g6 ?_
  intro T' v'
  refine kk T' q.2 ⟨A', C', Q', el', P', _, (Q 12).toInt.toNat, [(Q 12).toInt.toNat], v', g2, evC_set g3 (Nat.le_refl _), g4, g6, by omega, rep0 nU_i, ?_⟩
  rw [show (Q' 12).toInt.toNat = (Q 12).toInt.toNat + 1 by omega]
  exact cov_cons cov_nil (Nat.le_refl _)
end TRO
