/-! rows that count; the reference learns -/
/-- rows that a meaning looks at -/
abbrev zRo (i : Nat) : Prop := i = 54 ∨ i = 57 ∨ i = 59 ∨ i = 61 ∨ i = 62
theorem zv_Q {Q Q' : Nat → Nat → Int32} {tv : (Nat → Nat) → Int32 → Int32} {σ : Nat → Int32} {hs sel : Nat → Prop} (e : ∀ i, zRo i → Q' i = Q i) : ∀ (T : tT) (k : Nat) (ρ : Nat → Nat) (md : Option Nat) (s : Prop), zv Q' tv σ hs sel T k ρ md s = zv Q tv σ hs sel T k ρ md s := by
  have e54 : Q' 54 = Q 54 := e 54 (by omega)
  have nu : ∀ k, nuQ Q' k = nuQ Q k := fun k => by unfold nuQ; rw [e54]
  have wt : ∀ k, wtQ Q' k = wtQ Q k := fun k => by unfold wtQ; rw [e 57 (by omega)]
  have ba : ∀ k, baQ Q' k = baQ Q k := fun k => by unfold baQ; rw [e 61 (by omega)]
  have pf : ∀ k, pfQ Q' k = pfQ Q k := fun k => by unfold pfQ; rw [e 62 (by omega)]
  have pt : ∀ k, ptQ Q' k = ptQ Q k := fun k => by unfold ptQ; rw [e 62 (by omega), e 59 (by omega)]
  intro T
  induction T with
  | const x =>
    intro k ρ md s
    unfold zv
    rw [nu]
  | unary x A ih =>
    intro k ρ md s
    unfold zv
    rw [nu, wt, ba, pf, pt, e54]
    simp only [ih]
  | binary x A B ihA ihB =>
    intro k ρ md s
    unfold zv
    rw [wt, e54]
    simp only [ihA, ihB]
  | _ => intro k ρ md s; rfl
section SFC
variable {M X : md_S} {names : Int32} {kk ff ss xx : Nat → Int32} {m : Nat} {V : Int32 → Prop} {k : Nat} {up : Int32} {w : Int} {t : Int32} {a c : Int} {E : List (Int32 × Int32)} {T : tT}
/-- what is known of a tree stays where its rows stay -/
theorem sfT_c (W : pcW names kk ff ss xx m) (e : ∀ i, 51 ≤ i → i ≤ 66 → X.2.1 i = M.2.1 i) (h : sfT M kk ff xx m T V k up w t a c E) : sfT X kk ff xx m T V k up w t a c E := by
  obtain ⟨hO, hL, hC, hw, hb, h62, hE, hB, hn, hl, hV⟩ := h
  refine ⟨hO, ?_, ?_, hw, hb, by rw [e 62 (by omega) (by omega)]; exact h62, hE, fun j j1 j2 => ?_, hn, hl, hV⟩
  · exact LPr_h W (e 63 (by omega) (by omega)) (e 64 (by omega) (by omega)) (e 65 (by omega) (by omega)) (e 66 (by omega) (by omega)) T _ _ _ _ _ _ _ hO (fun i j hi _ _ _ => by rw [e i (by omega) (by omega)]) (fun j _ _ _ => by rw [e 54 (by omega) (by omega)]) hL
  · exact CPr_s (e 55 (by omega) (by omega)) (e 59 (by omega) (by omega)) (fun j _ => by rw [e 54 (by omega) (by omega)]) T _ _ _ _ _ _ _ _ hO hL hC
  · unfold wtQ
    rw [e 51 (by omega) (by omega), e 61 (by omega) (by omega), e 57 (by omega) (by omega)]
    exact hB j j1 j2
end SFC
section LRN
variable {S q : md_S}
/-- signals that are learned of -/
def lnR (ins io inst i : Nat) : Prop := (ins ≤ i ∧ i < io) ∨ (62 ≤ i ∧ i < inst)
/-- what learns leaves -/
def lnO (S q : md_S) (ins io inst : Nat) (more : Int32) : Prop :=
  (q.1 = S.1 ∧ ∀ i, ¬ i = 70 → q.2.1 i = S.2.1 i) ∧ (∀ i, (lnR ins io inst i → S.2.1 70 i = 2 → ¬ S.2.1 71 i = 0 → q.2.1 70 i = 1) ∧ (lnR ins io inst i → S.2.1 70 i = 2 → S.2.1 71 i = 0 → S.2.1 72 i = 0 → q.2.1 70 i = 0) ∧ (¬ (lnR ins io inst i ∧ S.2.1 70 i = 2 ∧ (¬ S.2.1 71 i = 0 ∨ S.2.1 72 i = 0)) → q.2.1 70 i = S.2.1 70 i)) ∧ (more = 0 ∨ more = 1) ∧ (more = 0 → ∀ i, lnR ins io inst i → S.2.1 70 i = 2 → S.2.1 71 i = 0 ∧ ¬ S.2.1 72 i = 0)
theorem learn_r {ins io inst : Nat} (e45 : S.1 45 = Int32.ofNat ins) (eio : S.1 45 + S.1 46 = Int32.ofNat io) (e50 : S.1 50 = Int32.ofNat inst) (hb : ins ≤ io ∧ io ≤ 62 ∧ 62 ≤ inst ∧ inst ≤ 1662) {r : md_S × Int32} (hq : mm_learns S = some r) : lnO S r.1 ins io inst r.2 := by
  have key : dc_pw (mm_learns_L7 S 0 (Int32.ofNat ins)) (fun r => lnO S r.1 ins io inst r.2) := by
    delta mm_learns_L7
    refine pw_loop (fun (y : md_S × Int32 × Int32) => ∃ k, y.2.2 = Int32.ofNat k ∧ ins ≤ k ∧ k ≤ inst ∧ (y.1.1 = S.1 ∧ ∀ i, ¬ i = 70 → y.1.2.1 i = S.2.1 i) ∧ (∀ i, (k ≤ i → y.1.2.1 70 i = S.2.1 70 i) ∧ (i < k → (lnR ins io inst i → S.2.1 70 i = 2 → ¬ S.2.1 71 i = 0 → y.1.2.1 70 i = 1) ∧ (lnR ins io inst i → S.2.1 70 i = 2 → S.2.1 71 i = 0 → S.2.1 72 i = 0 → y.1.2.1 70 i = 0) ∧ (¬ (lnR ins io inst i ∧ S.2.1 70 i = 2 ∧ (¬ S.2.1 71 i = 0 ∨ S.2.1 72 i = 0)) → y.1.2.1 70 i = S.2.1 70 i))) ∧ (y.2.1 = 0 ∨ y.2.1 = 1) ∧ (y.2.1 = 0 → ∀ i, i < k → lnR ins io inst i → S.2.1 70 i = 2 → S.2.1 71 i = 0 ∧ ¬ S.2.1 72 i = 0)) (fun r => lnO S r.1 ins io inst r.2) ⟨ins, rfl, Nat.le_refl _, by omega, ⟨rfl, fun _ _ => rfl⟩, fun i => ⟨fun _ => rfl, fun hi => ⟨fun z => ?_, fun z => ?_, fun _ => rfl⟩⟩, Or.inl rfl, fun _ i hi z => ?_⟩ ?_ ?_
    · unfold lnR at z; omega
    · unfold lnR at z; omega
    · unfold lnR at z; omega
    · rintro ⟨Y, mo, v⟩ ⟨k, ev, k1, k2, ⟨f1, f2⟩, f3, f4, f5⟩
      have ev : v = Int32.ofNat k := ev
      have f1 : Y.1 = S.1 := f1
      have f2 : ∀ i, ¬ i = 70 → Y.2.1 i = S.2.1 i := f2
      have f4 : mo = 0 ∨ mo = 1 := f4
      have f3 : ∀ i, (k ≤ i → Y.2.1 70 i = S.2.1 70 i) ∧ (i < k → (lnR ins io inst i → S.2.1 70 i = 2 → ¬ S.2.1 71 i = 0 → Y.2.1 70 i = 1) ∧ (lnR ins io inst i → S.2.1 70 i = 2 → S.2.1 71 i = 0 → S.2.1 72 i = 0 → Y.2.1 70 i = 0) ∧ (¬ (lnR ins io inst i ∧ S.2.1 70 i = 2 ∧ (¬ S.2.1 71 i = 0 ∨ S.2.1 72 i = 0)) → Y.2.1 70 i = S.2.1 70 i)) := f3
      have f5 : mo = 0 → ∀ i, i < k → lnR ins io inst i → S.2.1 70 i = 2 → S.2.1 71 i = 0 ∧ ¬ S.2.1 72 i = 0 := f5
      subst ev
      have tk : (Int32.ofNat k).toInt = (k : Int) := Int32.toInt_ofNat_of_lt (by omega)
      have tkn : (Int32.ofNat k).toInt.toNat = k := by omega
      have tin : (Int32.ofNat inst).toInt = (inst : Int) := Int32.toInt_ofNat_of_lt (by omega)
      have tio : (Int32.ofNat io).toInt = (io : Int) := Int32.toInt_ofNat_of_lt (by omega)
      have t62 : (62 : Int32).toInt = 62 := by decide
      show dc_pw (mm_learns_b7 Y mo (Int32.ofNat k)) _
      delta mm_learns_b7
      rw [f1, e50, eio]
      -- nothing is learned of k
      have skip : ¬ (lnR ins io inst k ∧ S.2.1 70 k = 2 ∧ (¬ S.2.1 71 k = 0 ∨ S.2.1 72 k = 0)) → k < inst → dc_pw (mm_learns_L87 Y mo (Int32.ofNat k)) (Sum.elim (fun (y : md_S × Int32 × Int32) => ∃ k, y.2.2 = Int32.ofNat k ∧ ins ≤ k ∧ k ≤ inst ∧ (y.1.1 = S.1 ∧ ∀ i, ¬ i = 70 → y.1.2.1 i = S.2.1 i) ∧ (∀ i, (k ≤ i → y.1.2.1 70 i = S.2.1 70 i) ∧ (i < k → (lnR ins io inst i → S.2.1 70 i = 2 → ¬ S.2.1 71 i = 0 → y.1.2.1 70 i = 1) ∧ (lnR ins io inst i → S.2.1 70 i = 2 → S.2.1 71 i = 0 → S.2.1 72 i = 0 → y.1.2.1 70 i = 0) ∧ (¬ (lnR ins io inst i ∧ S.2.1 70 i = 2 ∧ (¬ S.2.1 71 i = 0 ∨ S.2.1 72 i = 0)) → y.1.2.1 70 i = S.2.1 70 i))) ∧ (y.2.1 = 0 ∨ y.2.1 = 1) ∧ (y.2.1 = 0 → ∀ i, i < k → lnR ins io inst i → S.2.1 70 i = 2 → S.2.1 71 i = 0 ∧ ¬ S.2.1 72 i = 0)) (fun r => lnO S r.1 ins io inst r.2)) := by
        intro nl hk
        refine pw_some ⟨k + 1, ad_m (by omega), by omega, by omega, ⟨f1, f2⟩, fun i => ⟨fun hi => (f3 i).1 (by omega), fun hi => ?_⟩, f4, fun z i hi l y => ?_⟩
        · by_cases e : i = k
          · subst e
            exact ⟨fun l y z => absurd ⟨l, y, Or.inl z⟩ nl, fun l y z1 z2 => absurd ⟨l, y, Or.inr z2⟩ nl, fun _ => (f3 i).1 (Nat.le_refl _)⟩
          · exact (f3 i).2 (by omega)
        · by_cases e : i = k
          · subst e
            refine ⟨Classical.byContradiction (fun t => nl ⟨l, y, Or.inl t⟩), fun t => nl ⟨l, y, Or.inr t⟩⟩
          · exact f5 z i (by omega) l y
      have set : ∀ u : Int32, lnR ins io inst k → S.2.1 70 k = 2 → ((¬ S.2.1 71 k = 0 ∧ u = 1) ∨ (S.2.1 71 k = 0 ∧ S.2.1 72 k = 0 ∧ u = 0)) → k < inst → dc_pw (mm_learns_L84 Y (Int32.ofNat k) u (Int32.ofNat k)) (Sum.elim (fun (y : md_S × Int32 × Int32) => ∃ k, y.2.2 = Int32.ofNat k ∧ ins ≤ k ∧ k ≤ inst ∧ (y.1.1 = S.1 ∧ ∀ i, ¬ i = 70 → y.1.2.1 i = S.2.1 i) ∧ (∀ i, (k ≤ i → y.1.2.1 70 i = S.2.1 70 i) ∧ (i < k → (lnR ins io inst i → S.2.1 70 i = 2 → ¬ S.2.1 71 i = 0 → y.1.2.1 70 i = 1) ∧ (lnR ins io inst i → S.2.1 70 i = 2 → S.2.1 71 i = 0 → S.2.1 72 i = 0 → y.1.2.1 70 i = 0) ∧ (¬ (lnR ins io inst i ∧ S.2.1 70 i = 2 ∧ (¬ S.2.1 71 i = 0 ∨ S.2.1 72 i = 0)) → y.1.2.1 70 i = S.2.1 70 i))) ∧ (y.2.1 = 0 ∨ y.2.1 = 1) ∧ (y.2.1 = 0 → ∀ i, i < k → lnR ins io inst i → S.2.1 70 i = 2 → S.2.1 71 i = 0 ∧ ¬ S.2.1 72 i = 0)) (fun r => lnO S r.1 ins io inst r.2)) := by
        intro u l y hu hk
        delta mm_learns_L84
        refine pw_ix (fun _ _ => ?_)
        rw [tkn]
        have g : ∀ i, (md_a Y 70 k u).2.1 70 i = if i = k then u else Y.2.1 70 i := by
          intro i
          rw [md_a2, if_pos rfl]
          by_cases e : i = k
          · rw [e, upd_s, if_pos rfl]
          · rw [upd_n e, if_neg e]
        refine pw_some ⟨k + 1, ad_m (by omega), by omega, by omega, ⟨f1, fun i hi => by show (md_a Y 70 k u).2.1 i = _; rw [md_a2, if_neg hi]; exact f2 i hi⟩, fun i => ⟨fun hi => ?_, fun hi => ?_⟩, Or.inr rfl, fun (z : (1 : Int32) = 0) => absurd z (by decide)⟩
        · show (md_a Y 70 k u).2.1 70 i = _
          rw [g, if_neg (by omega)]
          exact (f3 i).1 (by omega)
        · show (_ → _ → _ → (md_a Y 70 k u).2.1 70 i = 1) ∧ (_ → _ → _ → _ → (md_a Y 70 k u).2.1 70 i = 0) ∧ (_ → (md_a Y 70 k u).2.1 70 i = _)
          rw [g]
          by_cases e : i = k
          · subst e
            rw [if_pos rfl]
            refine ⟨fun _ _ z => hu.elim (fun t => t.2) (fun t => absurd t.1 z), fun _ _ z1 z2 => hu.elim (fun t => absurd z1 t.1) (fun t => t.2.2), fun z => absurd ⟨l, y, hu.imp (fun t => t.1) (fun t => t.2.1)⟩ z⟩
          · rw [if_neg e]
            exact (f3 i).2 (by omega)
      -- a signal that may be learned of
      have look : lnR ins io inst k → k < inst → dc_pw (mm_learns_L34 Y mo (Int32.ofNat k)) (Sum.elim (fun (y : md_S × Int32 × Int32) => ∃ k, y.2.2 = Int32.ofNat k ∧ ins ≤ k ∧ k ≤ inst ∧ (y.1.1 = S.1 ∧ ∀ i, ¬ i = 70 → y.1.2.1 i = S.2.1 i) ∧ (∀ i, (k ≤ i → y.1.2.1 70 i = S.2.1 70 i) ∧ (i < k → (lnR ins io inst i → S.2.1 70 i = 2 → ¬ S.2.1 71 i = 0 → y.1.2.1 70 i = 1) ∧ (lnR ins io inst i → S.2.1 70 i = 2 → S.2.1 71 i = 0 → S.2.1 72 i = 0 → y.1.2.1 70 i = 0) ∧ (¬ (lnR ins io inst i ∧ S.2.1 70 i = 2 ∧ (¬ S.2.1 71 i = 0 ∨ S.2.1 72 i = 0)) → y.1.2.1 70 i = S.2.1 70 i))) ∧ (y.2.1 = 0 ∨ y.2.1 = 1) ∧ (y.2.1 = 0 → ∀ i, i < k → lnR ins io inst i → S.2.1 70 i = 2 → S.2.1 71 i = 0 ∧ ¬ S.2.1 72 i = 0)) (fun r => lnO S r.1 ins io inst r.2)) := by
        intro l hk
        delta mm_learns_L34
        refine pw_ix (fun _ _ => ?_)
        rw [tkn, (f3 k).1 (Nat.le_refl _)]
        refine pw_ifc (fun c => ?_) (fun c => skip (fun z => c z.2.1) hk)
        refine pw_ix (fun _ _ => ?_)
        rw [tkn, f2 71 (by omega)]
        refine pw_ifc (fun c1 => ?_) (fun c1 => ?_)
        · refine pw_ix (fun _ _ => ?_)
          rw [tkn, f2 72 (by omega)]
          refine pw_ifc (fun c2 => ?_) (fun c2 => skip (fun z => z.2.2.elim (fun t => t c1) (fun t => c2 t)) hk)
          delta mm_learns_L65
          refine pw_ix (fun _ _ => ?_)
          rw [tkn, f2 71 (by omega), if_pos c1]
          exact set 0 l c (Or.inr ⟨c1, c2, rfl⟩) hk
        · delta mm_learns_L65
          refine pw_ix (fun _ _ => ?_)
          rw [tkn, f2 71 (by omega), if_neg c1]
          exact set 1 l c (Or.inl ⟨c1, rfl⟩) hk
      refine pw_ifc (fun c => ?_) (fun c => ?_)
      · have c := i_lt.mp c
        rw [tk, tin] at c
        refine pw_ifc (fun c1 => ?_) (fun c1 => ?_)
        · have c1 := i_lt.mp c1
          rw [tk, tio] at c1
          exact look (Or.inl ⟨k1, by omega⟩) (by omega)
        · have c1 : ¬ (k : Int) < (io : Int) := fun z => c1 (i_lt.mpr (by rw [tk, tio]; exact z))
          refine pw_ifc (fun c2 => ?_) (fun c2 => ?_)
          · have c2 := i_lt.mp c2
            rw [tk, t62] at c2
            exact skip (fun z => by have := z.1; unfold lnR at this; omega) (by omega)
          · have c2 : ¬ (k : Int) < 62 := fun z => c2 (i_lt.mpr (by rw [tk, t62]; exact z))
            exact look (Or.inr ⟨by omega, by omega⟩) (by omega)
      · have c : ¬ (k : Int) < (inst : Int) := fun z => c (i_lt.mpr (by rw [tk, tin]; exact z))
        have ek : k = inst := by omega
        subst ek
        refine pw_some ⟨⟨f1, f2⟩, fun i => ?_, f4, fun z i l => f5 z i (by unfold lnR at l; omega) l⟩
        by_cases e : i < k
        · exact (f3 i).2 e
        · have := (f3 i).1 (by omega)
          exact ⟨fun l => absurd l (by unfold lnR; omega), fun l => absurd l (by unfold lnR; omega), fun _ => this⟩
    · rintro ⟨Z, mo⟩ h
      show dc_pw (mm_learns_L93 Z mo) _
      delta mm_learns_L93
      refine pw_any (fun _ => pw_some h)
  have hq : mm_learns_L7 S 0 (S.1 45) = some r := hq
  rw [e45] at hq
  exact key r hq
end LRN
