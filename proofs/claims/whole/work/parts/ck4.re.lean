/-! the reference's react, to its end -/
section RX4
variable {M : md_S} {names : Int32} {kk ff ss xx : Nat → Int32} {m ins io inst pa : Nat} {T : tT}
/-- statuses before anything is found out -/
def sg0 (M : md_S) (ins inst : Nat) (x1 : Int32) (i : Nat) : Int32 := if i < inst then (if i < ins then (x1 >>> (Int32.ofNat i &&& (31 : Int32))) &&& 1 else 2) else M.2.1 70 i
theorem a1_01 {x : Int32} : x &&& 1 = 0 ∨ x &&& 1 = 1 := by
  rcases Bool.eq_false_or_eq_true (gb x 0) with h | h
  · exact Or.inr (bit1.mpr h)
  · exact Or.inl (bit0.mpr h)
theorem sg0_3 {x1 : Int32} (h : ∀ i, v3 (M.2.1 70 i)) (i : Nat) : v3 (sg0 M ins inst x1 i) := by
  unfold sg0
  split
  · split
    · exact a1_01.elim Or.inl (fun z => Or.inr (Or.inl z))
    · exact Or.inr (Or.inr rfl)
  · exact h i
theorem lrn_id {Q : Nat → Nat → Int32} {hs sel : Nat → Prop} {ρ : Nat → Nat} {md : Option Nat} {L : Nat → Prop} {σ σ' : Nat → Int32} (l : lrn Q hs sel T ρ md L σ σ') (e : ∀ i, L i → σ i = 2 → zE (rtZ Q hs sel T ρ md σ) i ∧ ¬ zS (rtZ Q hs sel T ρ md σ) i) : σ' = σ := by
  funext i
  exact (l i).2.2 (fun t => t.2.2.elim (e i t.1 t.2.1).2 (fun z => z (e i t.1 t.2.1).1))
/-- doubt of the whole, or an output unknown -/
def rxD (e : zvT) (μ : Nat → Int32) (ins io : Nat) : Prop := zD e ∨ ∃ i, ins ≤ i ∧ i < io ∧ μ i = 2
/-- what the reference's react leaves -/
def rxO (M q : md_S) (ins io inst pa : Nat) (T : tT) (x1 r : Int32) : Prop := (rxF M q ∧ (∀ i, v3 (q.2.1 70 i)) ∧ ∀ p, p ≤ pa → q.2.1 76 p = Int32.ofNat (cntH (M.2.1 74) p)) ∧ RIv M.2.1 (hsC M.2.1 (q.2.1 76)) (seM M) T (fun s => s) (mdB (M.1 77)) (lnR ins io inst) (sg0 M ins inst x1) (fun i => q.2.1 70 i) ∧ (∀ i, lnR ins io inst i → q.2.1 70 i = 2 → zE (rtZ M.2.1 (hsC M.2.1 (q.2.1 76)) (seM M) T (fun s => s) (mdB (M.1 77)) (fun i => q.2.1 70 i)) i ∧ ¬ zS (rtZ M.2.1 (hsC M.2.1 (q.2.1 76)) (seM M) T (fun s => s) (mdB (M.1 77)) (fun i => q.2.1 70 i)) i) ∧ (rxD (rtZ M.2.1 (hsC M.2.1 (q.2.1 76)) (seM M) T (fun s => s) (mdB (M.1 77)) (fun i => q.2.1 70 i)) (fun i => q.2.1 70 i) ins io → r = -1) ∧ (¬ rxD (rtZ M.2.1 (hsC M.2.1 (q.2.1 76)) (seM M) T (fun s => s) (mdB (M.1 77)) (fun i => q.2.1 70 i)) (fun i => q.2.1 70 i) ins io → mB r (zM (rtZ M.2.1 (hsC M.2.1 (q.2.1 76)) (seM M) T (fun s => s) (mdB (M.1 77)) (fun i => q.2.1 70 i)))) ∧ ((∃ c, zM (rtZ M.2.1 (hsC M.2.1 (q.2.1 76)) (seM M) T (fun s => s) (mdB (M.1 77)) (fun i => q.2.1 70 i)) c) → ∀ p, p < pa → (zN (rtZ M.2.1 (hsC M.2.1 (q.2.1 76)) (seM M) T (fun s => s) (mdB (M.1 77)) (fun i => q.2.1 70 i)) p → q.2.1 75 p = 1) ∧ (¬ zN (rtZ M.2.1 (hsC M.2.1 (q.2.1 76)) (seM M) T (fun s => s) (mdB (M.1 77)) (fun i => q.2.1 70 i)) p → q.2.1 75 p = 0))
/-- doubt and outputs unknown, gathered -/
theorem lp_217 {S Z : md_S} {x3 : Int32} (hb : ins ≤ io ∧ io ≤ 62) (eio : S.1 45 + S.1 46 = Int32.ofNat io) (h78 : S.1 78 = 0 ∨ S.1 78 = 1) (hq : dc_it (mm_react_s217 x3) (S, Int32.ofNat ins) = some Z) : (∀ i, ¬ i = 78 → Z.1 i = S.1 i) ∧ Z.2 = S.2 ∧ (Z.1 78 = 0 ↔ S.1 78 = 0 ∧ ∀ i, ins ≤ i → i < io → ¬ S.2.1 70 i = 2) := by
  have key : dc_pw ((dc_it (mm_react_s217 x3) (S, Int32.ofNat ins)).bind some) (fun Z => (∀ i, ¬ i = 78 → Z.1 i = S.1 i) ∧ Z.2 = S.2 ∧ (Z.1 78 = 0 ↔ S.1 78 = 0 ∧ ∀ i, ins ≤ i → i < io → ¬ S.2.1 70 i = 2)) := by
    refine pw_loop (fun (y : md_S × Int32) => ∃ k, y.2 = Int32.ofNat k ∧ ins ≤ k ∧ k ≤ io ∧ (∀ i, ¬ i = 78 → y.1.1 i = S.1 i) ∧ y.1.2 = S.2 ∧ (y.1.1 78 = 0 ↔ S.1 78 = 0 ∧ ∀ i, ins ≤ i → i < k → ¬ S.2.1 70 i = 2)) (fun Z => (∀ i, ¬ i = 78 → Z.1 i = S.1 i) ∧ Z.2 = S.2 ∧ (Z.1 78 = 0 ↔ S.1 78 = 0 ∧ ∀ i, ins ≤ i → i < io → ¬ S.2.1 70 i = 2)) ⟨ins, rfl, Nat.le_refl _, hb.1, fun _ _ => rfl, rfl, ⟨fun z => ⟨z, fun i h1 h2 => by omega⟩, fun z => z.1⟩⟩ ?_ (fun Z h => pw_some h)
    rintro ⟨Y, v⟩ ⟨k, ev, k1, k2, f1, f2, f3⟩
    have ev : v = Int32.ofNat k := ev
    have f1 : ∀ i, ¬ i = 78 → Y.1 i = S.1 i := f1
    have f2 : Y.2 = S.2 := f2
    have f3 : Y.1 78 = 0 ↔ S.1 78 = 0 ∧ ∀ i, ins ≤ i → i < k → ¬ S.2.1 70 i = 2 := f3
    subst ev
    have tk : (Int32.ofNat k).toInt = (k : Int) := Int32.toInt_ofNat_of_lt (by omega)
    have tkn : (Int32.ofNat k).toInt.toNat = k := by omega
    have tb : (Int32.ofNat io).toInt = (io : Int) := Int32.toInt_ofNat_of_lt (by omega)
    show dc_pw (mm_react_b217 Y x3 (Int32.ofNat k)) _
    delta mm_react_b217
    rw [f1 45 (by omega), f1 46 (by omega), eio]
    refine pw_ifc (fun c => ?_) (fun c => ?_)
    · have c := i_lt.mp c
      rw [tk, tb] at c
      have set : ∀ u : Int32, (u = 0 ∨ u = 1) → (u = 0 ↔ S.1 78 = 0 ∧ ∀ i, ins ≤ i → i < k + 1 → ¬ S.2.1 70 i = 2) → dc_pw (mm_react_L255 Y x3 (Int32.ofNat k) u) (Sum.elim (fun (y : md_S × Int32) => ∃ k, y.2 = Int32.ofNat k ∧ ins ≤ k ∧ k ≤ io ∧ (∀ i, ¬ i = 78 → y.1.1 i = S.1 i) ∧ y.1.2 = S.2 ∧ (y.1.1 78 = 0 ↔ S.1 78 = 0 ∧ ∀ i, ins ≤ i → i < k → ¬ S.2.1 70 i = 2)) (fun Z => (∀ i, ¬ i = 78 → Z.1 i = S.1 i) ∧ Z.2 = S.2 ∧ (Z.1 78 = 0 ↔ S.1 78 = 0 ∧ ∀ i, ins ≤ i → i < io → ¬ S.2.1 70 i = 2))) := by
        intro u hu he
        delta mm_react_L255
        have ez : dc_zb u = some () := if_pos hu
        rw [ez]
        refine pw_some ⟨k + 1, ad_m (by omega), by omega, by omega, fun i hi => by show (md_i Y 78 u).1 i = _; rw [md_ij hi]; exact f1 i hi, f2, ?_⟩
        show (md_i Y 78 u).1 78 = 0 ↔ _
        rw [md_ii]
        exact he
      refine pw_ifc (fun z => ?_) (fun z => ?_)
      · obtain ⟨z1, z2⟩ := f3.mp z
        refine pw_ix (fun _ _ => ?_)
        rw [tkn, f2]
        refine pw_ifc (fun y => ?_) (fun y => ?_)
        · exact set 1 (Or.inr rfl) ⟨fun t => absurd t (by decide), fun t => absurd y (t.2 k k1 (by omega))⟩
        · refine set 0 (Or.inl rfl) ⟨fun _ => ⟨z1, fun i h1 h2 => ?_⟩, fun _ => rfl⟩
          by_cases e : i = k
          · rw [e]; exact y
          · exact z2 i h1 (by omega)
      · exact set 1 (Or.inr rfl) ⟨fun t => absurd t (by decide), fun t => absurd (f3.mpr ⟨t.1, fun i h1 h2 => t.2 i h1 (by omega)⟩) z⟩
    · have c : ¬ (k : Int) < (io : Int) := fun z => c (i_lt.mpr (by rw [tk, tb]; exact z))
      have ek : k = io := by omega
      subst ek
      exact pw_some ⟨f1, f2, f3⟩
  exact key Z (by rw [hq]; rfl)
/-- THE REFERENCE'S REACT: its statuses are the least that fit, its answer is what the tree means there -/
theorem react_r (hm : m ≤ 1000) (W : pcW names kk ff ss xx m) (hT : sfT M kk ff xx m T (fun y => 0 ≤ y.toInt ∧ y.toInt < (io : Int)) 0 (-1) 1 (-1) 0 0 []) (hn : rxN M ins io inst pa T) (h3 : ∀ i, v3 (M.2.1 70 i)) {x1 : Int32} {r : md_S × Int32} (hq : mm_react M x1 = some r) : rxO M r.1 ins io inst pa T x1 r.2 := by
  have hn0 := hn
  obtain ⟨⟨e45, eio, e50, e47⟩, ⟨b1, b2, b3, b4, b5⟩, hpa, h77⟩ := hn0
  have hq : (dc_it (mm_react_s9 x1) (md_a M 76 0 0, 0)).bind (fun (z : md_S) => mm_react_L52 z x1) = some r := hq
  obtain ⟨Z1, z1, hq⟩ := iv_bind hq
  obtain ⟨u1, u2, u3⟩ := lp_9 (pa := pa) (S := md_a M 76 0 0) (by rw [md_a1]; exact e47) b5 rfl z1
  have hq : (dc_it (mm_react_s54 x1) (Z1, 0)).bind (fun (z : md_S) => mm_react_L91 z) = some r := hq
  obtain ⟨Z2, z2, hq⟩ := iv_bind hq
  obtain ⟨v1, v2, v3'⟩ := lp_54 (inst := inst) (ins := ins) (S := Z1) (by rw [u1, md_a1]; exact e50) (by rw [u1, md_a1]; exact e45) ⟨b4, by omega⟩ z2
  have hq : (dc_it mm_react_s93 (Z2, 1)).bind (fun (z : md_S) => mm_react_L206 z) = some r := hq
  have g1 : ∀ i, Z2.1 i = M.1 i := fun i => by rw [v1, u1, md_a1]
  have g2 : ∀ i, ¬ (i = 70 ∨ i = 76) → Z2.2.1 i = M.2.1 i := fun i hi => by rw [v2 i (by omega), u2 i (by omega), md_a2, if_neg (by omega)]
  have gF : rxF M Z2 := ⟨fun i _ => g1 i, fun i hi => g2 i (by omega)⟩
  have g76 : ∀ p, p ≤ pa → Z2.2.1 76 p = Int32.ofNat (cntH (M.2.1 74) p) := fun p hp => by
    rw [v2 76 (by omega)]
    have := u3 p hp
    rw [md_a2, if_neg (by omega)] at this
    exact this
  have g70 : (fun i => Z2.2.1 70 i) = sg0 M ins inst x1 := by
    funext i
    unfold sg0
    by_cases c : i < inst
    · rw [if_pos c]; exact (v3' i).1 c
    · rw [if_neg c, (v3' i).2 (by omega), u2 70 (by omega), md_a2, if_neg (by omega)]
  have hC : ∀ p p', p ≤ p' → p' ≤ pa → (Z2.2.1 76 p).toInt ≤ (Z2.2.1 76 p').toInt := by
    intro p p' l1 l2
    rw [g76 p (by omega), g76 p' l2]
    have c1 := cntH_le (f := M.2.1 74) p
    have c2 := cntH_le (f := M.2.1 74) p'
    have c3 := cntH_m (f := M.2.1 74) (p := p) (p' - p)
    rw [show p + (p' - p) = p' by omega] at c3
    rw [Int32.toInt_ofNat_of_lt (by omega), Int32.toInt_ofNat_of_lt (by omega)]
    omega
  have r0 : RIv M.2.1 (hsC M.2.1 (Z2.2.1 76)) (seM M) T (fun s => s) (mdB (M.1 77)) (lnR ins io inst) (sg0 M ins inst x1) (sg0 M ins inst x1) := by
    have l2 : ∀ i, lnR ins io inst i → sg0 M ins inst x1 i = 2 := fun i hi => by
      unfold lnR at hi
      unfold sg0
      rw [if_pos (by omega), if_neg (by omega)]
    refine ⟨fun _ _ => rfl, fun κ hk i => ?_, fun i hi => ⟨fun z => ?_, fun z => ?_, sg0_3 h3 i⟩⟩
    · by_cases c : lnR ins io inst i
      · exact Or.inl (l2 i c)
      · exact Or.inr (hk.1 i c).symm
    · rw [l2 i hi] at z; exact absurd z (by decide)
    · rw [l2 i hi] at z; exact absurd z (by decide)
  obtain ⟨Z3, z3, hq⟩ := iv_bind hq
  have key : dc_pw ((dc_it mm_react_s93 (Z2, 1)).bind some) (fun Z => rxF M Z ∧ Z.2.1 76 = Z2.2.1 76 ∧ (∀ i, v3 (Z.2.1 70 i)) ∧ RIv M.2.1 (hsC M.2.1 (Z2.2.1 76)) (seM M) T (fun s => s) (mdB (M.1 77)) (lnR ins io inst) (sg0 M ins inst x1) (fun i => Z.2.1 70 i) ∧ (∀ i, lnR ins io inst i → Z.2.1 70 i = 2 → zE (rtZ M.2.1 (hsC M.2.1 (Z2.2.1 76)) (seM M) T (fun s => s) (mdB (M.1 77)) (fun i => Z.2.1 70 i)) i ∧ ¬ zS (rtZ M.2.1 (hsC M.2.1 (Z2.2.1 76)) (seM M) T (fun s => s) (mdB (M.1 77)) (fun i => Z.2.1 70 i)) i) ∧ rxE Z pa (rtZ M.2.1 (hsC M.2.1 (Z2.2.1 76)) (seM M) T (fun s => s) (mdB (M.1 77)) (fun i => Z.2.1 70 i))) := by
    refine pw_loop (fun (y : md_S × Int32) => rxF M y.1 ∧ y.1.2.1 76 = Z2.2.1 76 ∧ (∀ i, v3 (y.1.2.1 70 i)) ∧ RIv M.2.1 (hsC M.2.1 (Z2.2.1 76)) (seM M) T (fun s => s) (mdB (M.1 77)) (lnR ins io inst) (sg0 M ins inst x1) (fun i => y.1.2.1 70 i) ∧ (y.2 = 0 → (∀ i, lnR ins io inst i → y.1.2.1 70 i = 2 → zE (rtZ M.2.1 (hsC M.2.1 (Z2.2.1 76)) (seM M) T (fun s => s) (mdB (M.1 77)) (fun i => y.1.2.1 70 i)) i ∧ ¬ zS (rtZ M.2.1 (hsC M.2.1 (Z2.2.1 76)) (seM M) T (fun s => s) (mdB (M.1 77)) (fun i => y.1.2.1 70 i)) i) ∧ rxE y.1 pa (rtZ M.2.1 (hsC M.2.1 (Z2.2.1 76)) (seM M) T (fun s => s) (mdB (M.1 77)) (fun i => y.1.2.1 70 i)))) _ ⟨gF, rfl, fun i => by have := congrFun g70 i; show v3 (Z2.2.1 70 i); rw [show Z2.2.1 70 i = _ from this]; exact sg0_3 h3 i, by show RIv _ _ _ _ _ _ _ _ (fun i => Z2.2.1 70 i); rw [g70]; exact r0, fun z => absurd (show (1 : Int32) = 0 from z) (by decide)⟩ ?_ (fun Z h => pw_some h)
    rintro ⟨Y, v⟩ ⟨f1, f2, f3, f4, f5⟩
    have f1 : rxF M Y := f1
    have f2 : Y.2.1 76 = Z2.2.1 76 := f2
    have f3 : ∀ i, v3 (Y.2.1 70 i) := f3
    show dc_pw (mm_react_b93 Y v) _
    delta mm_react_b93
    refine pw_ifc (fun c => ?_) (fun c => ?_)
    · obtain ⟨f6, f7⟩ := f5 c
      exact pw_some ⟨f1, f2, f3, f4, f6, f7⟩
    · intro o ho
      obtain ⟨q, more, eo, p1, p2, p3, p4, p5, p6, p7⟩ := rx_it hm W hT hn hC f1 f2 f3 ho
      rw [eo]
      refine ⟨p1, p2, p3, RIv_s f4 p4, fun z => ?_⟩
      have z : more = 0 := z
      have eq : (fun i => q.2.1 70 i) = fun i => Y.2.1 70 i := lrn_id p4 (p6 z)
      refine ⟨fun i hi h2 => ?_, ?_⟩
      · have h2 : q.2.1 70 i = 2 := h2
        have h2 : Y.2.1 70 i = 2 := (congrFun eq i).symm.trans h2
        show zE (rtZ _ _ _ _ _ _ (fun i => q.2.1 70 i)) i ∧ ¬ zS (rtZ _ _ _ _ _ _ (fun i => q.2.1 70 i)) i
        rw [eq]
        exact p6 z i hi h2
      · show rxE q pa (rtZ _ _ _ _ _ _ (fun i => q.2.1 70 i))
        rw [eq]
        exact p7
  obtain ⟨k1, k2, k3, k4, k5, k6⟩ := key Z3 (by rw [z3]; rfl)
  have hq : (dc_it (mm_react_s217 (Z3.1 80)) (Z3, Z3.1 45)).bind (fun (z : md_S) => mm_react_L264 z (Z3.1 80)) = some r := hq
  obtain ⟨Z4, z4, hq⟩ := iv_bind hq
  rw [k1.1 45 (by omega), e45] at z4
  have ⟨⟨o1, o2⟩, o3, o4⟩ := k6
  have d01 : Z3.1 78 = 0 ∨ Z3.1 78 = 1 := (Classical.em _).elim (fun z => Or.inr (o3.1 z)) (fun z => Or.inl (o3.2 z))
  obtain ⟨w1, w2, w3⟩ := lp_217 (ins := ins) (io := io) ⟨b1, b2⟩ (by rw [k1.1 45 (by omega), k1.1 46 (by omega)]; exact eio) d01 z4
  have w4 : Z4.1 78 = 0 ↔ ¬ rxD (rtZ M.2.1 (hsC M.2.1 (Z2.2.1 76)) (seM M) T (fun s => s) (mdB (M.1 77)) (fun i => Z3.2.1 70 i)) (fun i => Z3.2.1 70 i) ins io := by
    rw [w3]
    unfold rxD
    constructor
    · rintro ⟨y1, y2⟩ (t | ⟨i, t1, t2, t3⟩)
      · rw [o3.1 t] at y1
        exact absurd y1 (by decide)
      · exact y2 i t1 t2 t3
    · intro y
      exact ⟨o3.2 (fun t => y (Or.inl t)), fun i t1 t2 t3 => y (Or.inr ⟨i, t1, t2, t3⟩)⟩
  have fin : r.1 = Z4 ∧ ((Z4.1 78 = 0 ∧ r.2 = Z3.1 80) ∨ (¬ Z4.1 78 = 0 ∧ r.2 = -1)) := by
    delta mm_react_L264 mm_react_L276 at hq
    by_cases c : Z4.1 78 = 0
    · rw [if_pos c] at hq
      have := Option.some.inj hq
      rw [← this]
      exact ⟨rfl, Or.inl ⟨c, rfl⟩⟩
    · rw [if_neg c] at hq
      have := Option.some.inj hq
      rw [← this]
      exact ⟨rfl, Or.inr ⟨c, rfl⟩⟩
  obtain ⟨e1, e2⟩ := fin
  rw [e1]
  unfold rxO
  rw [w2, k2]
  refine ⟨⟨⟨fun i hi => by rw [w1 i (by omega)]; exact k1.1 i hi, fun i hi => by rw [w2]; exact k1.2 i hi⟩, k3, g76⟩, k4, k5, fun z => ?_, fun z => ?_, o4⟩
  · rcases e2 with ⟨t, _⟩ | ⟨_, t⟩
    · exact absurd z (w4.mp t)
    · exact t
  · rcases e2 with ⟨_, t⟩ | ⟨t, _⟩
    · rw [t]; exact o2
    · exact absurd (w4.mpr z) t
end RX4
