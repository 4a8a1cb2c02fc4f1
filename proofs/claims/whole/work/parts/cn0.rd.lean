/-! the class's react: a round, all rounds -/
def cn2 (f : Nat → Int32) : Nat → Nat
  | 0 => 0
  | n + 1 => cn2 f n + if f n = 2 then 1 else 0
theorem cn2_le {f : Nat → Int32} : ∀ n, cn2 f n ≤ n
  | 0 => Nat.le_refl _
  | n + 1 => by
    have := cn2_le (f := f) n
    show cn2 f n + (if f n = 2 then 1 else 0) ≤ n + 1
    split <;> omega
theorem cn2_m {f g : Nat → Int32} (h : ∀ p, vle (f p) (g p)) : ∀ n, cn2 g n ≤ cn2 f n
  | 0 => Nat.le_refl _
  | n + 1 => by
    have := cn2_m h n
    show cn2 g n + (if g n = 2 then 1 else 0) ≤ cn2 f n + (if f n = 2 then 1 else 0)
    by_cases z : g n = 2
    · rw [if_pos z, if_pos (vle_2 (h n) z)]; omega
    · rw [if_neg z]
      split <;> omega
theorem cn2_s {f g : Nat → Int32} (h : ∀ p, vle (f p) (g p)) {p : Nat} (h1 : f p = 2) (h2 : ¬ g p = 2) : ∀ n, p < n → cn2 g n + 1 ≤ cn2 f n
  | 0, hp => absurd hp (by omega)
  | n + 1, hp => by
    show cn2 g n + (if g n = 2 then 1 else 0) + 1 ≤ cn2 f n + (if f n = 2 then 1 else 0)
    by_cases e : p = n
    · subst e
      have := cn2_m h p
      rw [if_neg h2, if_pos h1]; omega
    · have := cn2_s h h1 h2 n (by omega)
      by_cases z : g n = 2
      · rw [if_pos z, if_pos (vle_2 (h n) z)]; omega
      · rw [if_neg z]
        split <;> omega
section RND
variable {G : hg_E} {E : rvP} {M : md_S} {P : gvP} {D : Option Nat → Prop} {names : Int32} {kk ff ss xx : Nat → Int32} {m n ps sg pa pls N : Nat} {T : tT} {up : Int32} {t : Int32} {a c : Int} {Es : List (Int32 × Int32)} {S : hg_S} {q : rsT} {ins io inst : Nat} {md : Option Nat} {μ : Nat → Int32} {p y : Int32}
/-- the whole meaning, at statuses -/
def gRt (M : md_S) (P : gvP) (T : tT) (md : Option Nat) (κ : Nat → Int32) : zvT := gZ M P T 0 (fun s => s) md κ True
/-- between rounds -/
def rdI (P : gvP) (ins io pls : Nat) (μ : Nat → Int32) (r : Nat) (q : rsT) : Prop := (q.2 12 = Int32.ofNat r ∧ 1 ≤ r ∧ r ≤ pls + 2) ∧ gIv P q ∧ (∀ p, p < pls → ∃ e, e < r ∧ q.1 2 p = Int32.ofNat e) ∧ (∀ y, y < io → q.1 4 y = Int32.ofNat y) ∧ vLe (kap P q) μ ∧ (∀ i, i < ins → ¬ kap P q i = 2) ∧ ∀ p, q.1 11 p = 0 ∨ q.1 11 p = 1
/-- the last round found nothing out -/
def rdF (M : md_S) (P : gvP) (T : tT) (md : Option Nat) (ins io : Nat) (q : rsT) : Prop := (∀ i, zS (gRt M P T md (kap P q)) i → ¬ kap P q i = 2) ∧ (∀ i, zV (gRt M P T md (kap P q)) i → kap P q i = 2 → zE (gRt M P T md (kap P q)) i) ∧ (∀ i, ins ≤ i → i < io → kap P q i = 2 → zE (gRt M P T md (kap P q)) i) ∧ (q.2 14 = 1 ↔ zD (gRt M P T md (kap P q))) ∧ mB (q.1 8 0) (zM (gRt M P T md (kap P q))) ∧ ((zM (gRt M P T md (kap P q)) 0 ∨ zM (gRt M P T md (kap P q)) 1) → ∀ p, gRg M 0 p → (chS q p ↔ zN (gRt M P T md (kap P q)) p))
/-- what the statuses of the other side are -/
def rdM (M : md_S) (P : gvP) (T : tT) (md : Option Nat) (ins io : Nat) (μ : Nat → Int32) : Prop := ∀ i, ((ins ≤ i ∧ i < io) ∨ INq M.2.1 0 (tsz T) md 1 i) → (zS (gRt M P T md μ) i → μ i = 1) ∧ (¬ zE (gRt M P T md μ) i → μ i = 0)
theorem rd_1 (W : pcW names kk ff ss xx m) (hgO : ∀ i, v3 (gO P i)) (hm : m ≤ 1000) (hS : gSt M E P D n ps sg pa pls N) (hT : gTr M kk ff xx m n ps sg pa T (fun y => 0 ≤ y.toInt ∧ y.toInt < (io : Int)) 0 up 1 t a c Es) (hN : wsm T 1 * 4 ≤ (N : Int)) (e1 : vC E 1 = Int32.ofNat ins) (e2 : vC E 1 + vC E 2 = Int32.ofNat io) (hio : ins ≤ io ∧ io ≤ pls ∧ io ≤ 62) (hiA : ∀ i, i < io → gA P i ∧ gPl P i = i) (hlc : ∀ y, y ∈ lcT T → (io : Int) ≤ y.toInt) (hy : mdY md p y) (hD : D md) (hh : md = none → hsC M.2.1 (gC P) 0) (hμ : rdM M P T md ins io μ) {r : Nat} (hr : rdI P ins io pls μ r q) (hr2 : r ≤ pls + 1) (hR : RV G E S q) (h13 : q.2 13 = 0) (h14 : q.2 14 = 0) : dc_wp (hm_RE_goThrough G S (vO E) p) (fun S1 => (∃ q1, RV G E S1 q1) ∧ dc_wp (hm_RE_closeOutputs G S1 (vO E)) (fun S2 => ∃ q2, RV G E S2 q2 ∧ q2.2 12 = Int32.ofNat r ∧ (∀ v, v = Int32.ofNat (r + 1) → rdI P ins io pls μ (r + 1) (uC q2 12 v)) ∧ ((q2.2 13 = 0 ∧ rdF M P T md ins io q2) ∨ (q2.2 13 = 1 ∧ cn2 (q2.1 1) pls + 1 ≤ cn2 (q.1 1) pls)))) := by
  obtain ⟨⟨r1, r2, r3⟩, hI, hem, h4, hle, hin, h11⟩ := hr
  have hpls := hS.2.1.2.2.2.2
  have l1 := hS.2.2.2.1.1.1
  have l2 := hS.2.2.2.1.1.2.1
  have z1 := tsz_pos T
  have mdw : mdW md (1 : Int).toNat := by
    cases md with
    | none => trivial
    | some d =>
      obtain ⟨-, -, e⟩ : p = 0 ∧ y = 1 ∧ d = 0 := hy
      show d ≤ 1
      omega
  have fm := gZ_fm (P := P) hm hT.1 (ρ := fun s => s) (md := md) mdw
  have mlt : ∀ d, md = some d → d < (1 : Int).toNat := by
    rintro d rfl
    obtain ⟨-, -, e⟩ : p = 0 ∧ y = 1 ∧ d = 0 := hy
    show d < 1
    omega
  have iA : ∀ i, INq M.2.1 0 (tsz T) md 1 i → gA P i := fun i hi => gI_A hS hT hD mlt hi
  have i62 : ∀ i, INq M.2.1 0 (tsz T) md 1 i → 62 ≤ i := by
    rintro i ⟨j, d, -, -, ei, -, -⟩
    have := lis_m (kd := M.2.1 51) (wt := M.2.1 57) (n := 0) j
    have e0 : lis (M.2.1 51) (M.2.1 57) 0 = 62 := rfl
    rw [Nat.zero_add, e0] at this
    omega
  have nem : ∀ i, gA P i → ¬ emS P q i := by
    intro i hi z
    have hb := hS.2.2.2.2.1.2 i hi
    obtain ⟨e, e3, e4⟩ := hem (gPl P i) hb
    have z : q.1 2 (gPl P i) = q.2 12 := z
    rw [e4, r1] at z
    have := congrArg Int32.toInt z
    rw [Int32.toInt_ofNat_of_lt (by omega), Int32.toInt_ofNat_of_lt (by omega)] at this
    omega
  have hV : ∀ y' : Int32, (0 ≤ y'.toInt ∧ y'.toInt < (io : Int)) → gA P y'.toInt.toNat ∧ q.1 4 y'.toInt.toNat = Int32.ofNat (gPl P y'.toInt.toNat) ∧ ¬ INq M.2.1 0 (tsz T) md 1 y'.toInt.toNat := by
    intro y' hy'
    obtain ⟨b1, b2⟩ := hiA y'.toInt.toNat (by omega)
    refine ⟨b1, by rw [b2]; exact h4 _ (by omega), fun z => ?_⟩
    have := i62 _ z
    omega
  refine wq_w (gth_w W hgO hm hS hT hN (ρ := fun s => s) hy hI hV (fun i hi => nem i (iA i hi)) hD hh hR) ?_
  rintro S1 ⟨q1, g1, pst⟩
  obtain ⟨f1, -, fk, fI, z, ⟨zc, zm⟩, za⟩ := pst
  have qa : ∀ i, ¬ i = 9 → ¬ i = 11 → (reGt E q y).1 i = q.1 i := by
    intro i h1 h2
    unfold reGt
    rw [uX_n h1]
    show (reCl E q 0).1 i = _
    exact fX_n h2
  have qo : ∀ i, ¬ i = 15 → ¬ i = 16 → ¬ i = 17 → (reGt E q y).2 i = q.2 i := by
    intro i h1 h2 h3
    show (uC (uC (uC (reCl E q 0) 15 y) 16 (-1)) 17 0).2 i = q.2 i
    rw [uC_n h3, uC_n h2, uC_n h1]
    rfl
  have k0 : kap P (reGt E q y) = kap P q := by funext i; unfold kap; rw [qa 1 (by decide) (by decide)]
  have em0 : emS P (reGt E q y) = emS P q := by funext i; unfold emS; rw [qa 2 (by decide) (by decide), qo 12 (by decide) (by decide) (by decide)]
  have ch0 : ∀ p, gRg M 0 p → ¬ chS (reGt E q y) p := by
    intro p hp u
    apply u
    obtain ⟨e8, e9, p1, p2⟩ := gPs hm hS hT
    have hp : pfQ M.2.1 0 ≤ p ∧ p < ptQ M.2.1 0 := hp
    have hpa := hS.2.1.2.2.2.1
    unfold reGt
    rw [uX_n (by decide)]
    show (reCl E q 0).1 11 p = 0
    unfold reCl
    rw [fX_s, e8, e9, Int32.toInt_ofNat_of_lt (by omega), Int32.toInt_ofNat_of_lt (by omega)]
    exact if_pos hp
  have d0 : ((reGt E q y).2 14 = 1) = False := propext ⟨fun u => by rw [qo 14 (by decide) (by decide) (by decide), h14] at u; exact absurd u (by decide), False.elim⟩
  have e13 : (reGt E q y).2 13 = 0 := by rw [qo 13 (by decide) (by decide) (by decide)]; exact h13
  have e12 : q1.2 12 = Int32.ofNat r := by rw [fk.2.1.1, qo 12 (by decide) (by decide) (by decide)]; exact r1
  -- statuses found out are those of the other side
  have k1 : vLe (kap P q1) μ := by
    have hz := za.2.1 μ True True
    refine hz (by show vLe (kap P (reGt E q y)) μ; rw [k0]; exact hle) (fun _ => ⟨trivial, trivial⟩) (fun i h2 _ zs => ?_) (fun i hi ne => ?_)
    · have h2 : kap P (reGt E q y) i = 2 := h2
      rw [k0] at h2
      have ze := (gZ_ok (M := M) (P := P) (T := T) (k := 0) (ρ := fun s => s) (md := md) μ True).2.2.2.2.2.1 i zs
      refine (hμ i ?_).1 zs
      rcases fm.2.2.1 μ True i ze with ⟨y', ⟨a1, a2⟩, ey⟩ | u
      · have ey : i = y'.toInt.toNat := ey
        refine Or.inl ⟨?_, by omega⟩
        by_cases u : i < ins
        · exact absurd h2 (hin i u)
        · omega
      · exact Or.inr u
    · exact (hμ i (Or.inr hi)).2 (fun u => ne ⟨trivial, u⟩)
  refine ⟨⟨q1, g1⟩, wq_w (cou_w e1 e2 ⟨hio.1, hio.2.1, by omega⟩ l1 l2 g1) ?_⟩
  rintro S2 ⟨q2, g2, c1, c2, c3, c4⟩
  have e12' : q2.2 12 = Int32.ofNat r := by rw [c2 12 (by decide)]; exact e12
  have K : gK0 pls (reGt E q y) q2 := gK0_tr fk.1 c4
  have l2' : vLe (kap P q1) (kap P q2) := by
    intro i
    by_cases hi : gA P i
    · rw [kap_A hi, kap_A hi]; exact c4.1 _
    · rw [kap_n hi, kap_n hi]; exact Or.inr rfl
  have nemo : ∀ i, gA P i → (emS P q1 i ↔ zE z i) := by
    intro i hi
    have h := za.1.2.2.2.2.1 i hi
    have h : emS P q1 i ↔ emS P (reGt E q y) i ∨ zE z i := h
    rw [h, em0]
    exact ⟨fun u => u.elim (fun u => absurd u (nem i hi)) id, Or.inr⟩
  have kout : ∀ i, ins ≤ i → i < io → kap P q2 i = 2 → emS P q1 i := by
    intro i i1 i2 u
    obtain ⟨b1, b2⟩ := hiA i i2
    rw [kap_A b1, c3, b2] at u
    unfold emS
    rw [b2]
    by_cases v : q1.1 2 i = q1.2 12
    · exact v
    · exfalso
      by_cases w : q1.1 1 i = 2
      · rw [if_pos ⟨⟨i1, i2⟩, w, v⟩] at u
        exact absurd u (by decide)
      · rw [if_neg (fun s => w s.2.1)] at u
        exact w u
  have k2 : vLe (kap P q2) μ := by
    intro i
    by_cases hi : gA P i
    · rw [kap_A hi, c3]
      by_cases v : (ins ≤ gPl P i ∧ gPl P i < io) ∧ q1.1 1 (gPl P i) = 2 ∧ ¬ q1.1 2 (gPl P i) = q1.2 12
      · rw [if_pos v]
        have ei : i = gPl P i := by
          obtain ⟨b1, b2⟩ := hiA (gPl P i) v.1.2
          exact hS.2.2.2.2.1.1 i (gPl P i) hi b1 b2.symm
        have hl : ins ≤ i ∧ i < io := by rw [ei]; exact v.1
        refine Or.inr ((hμ i (Or.inl hl)).2 (fun u => v.2.2 ?_)).symm
        have u1 : zE z i := za.1.2.2.1.2.2.1 i ((gZ_mo (kap P q1) μ True True k1 id).2.2.1 i u)
        exact (nemo i hi).mpr u1
      · rw [if_neg v]
        have := k1 i
        rw [kap_A hi] at this
        exact this
    · rw [kap_n hi]
      have := k1 i
      rw [kap_n hi] at this
      exact this
  have hI2 : gIv P q2 := by
    refine ⟨by rw [c1 3 (by decide)]; exact fI.1, by rw [c1 10 (by decide)]; exact fI.2.1, fun p => ?_, by rw [c2 14 (by decide)]; exact fI.2.2.2⟩
    rw [c3]
    split
    · exact Or.inl rfl
    · exact fI.2.2.1 p
  have hin2 : ∀ i, i < ins → ¬ kap P q2 i = 2 := by
    intro i hi u
    have u1 := vle_2 (l2' i) u
    have u2 : vLe (kap P (reGt E q y)) (kap P q1) := za.1.1
    have u3 := vle_2 (u2 i) u1
    rw [k0] at u3
    exact hin i hi u3
  refine ⟨q2, g2, e12', fun v ev => ?_, ?_⟩
  · refine ⟨⟨by rw [uC_s]; exact ev, by omega, by omega⟩, ⟨hI2.1, hI2.2.1, hI2.2.2.1, by rw [uC_n (by decide)]; exact hI2.2.2.2⟩, fun p hp => ?_, fun y' hy' => ?_, k2, hin2, fun p => ?_⟩
    · show ∃ e, e < r + 1 ∧ q2.1 2 p = Int32.ofNat e
      rw [c1 2 (by decide)]
      rcases fk.2.1.2 p with u | u
      · rw [u, qa 2 (by decide) (by decide)]
        obtain ⟨e, e3, e4⟩ := hem p hp
        exact ⟨e, by omega, e4⟩
      · rw [u, qo 12 (by decide) (by decide) (by decide), r1]
        exact ⟨r, by omega, rfl⟩
    · show q2.1 4 y' = _
      rw [c1 4 (by decide), f1.2.1 y' (fun u hu e => ?_), qa 4 (by decide) (by decide)]
      · exact h4 y' hy'
      · have := hlc u hu
        omega
    · show q2.1 11 p = 0 ∨ q2.1 11 p = 1
      rw [c1 11 (by decide)]
      rcases fk.2.2 p with u | u
      · rw [u]
        unfold reGt
        rw [uX_n (by decide)]
        show (reCl E q 0).1 11 p = 0 ∨ (reCl E q 0).1 11 p = 1
        unfold reCl
        rw [fX_s]
        split
        · exact Or.inl rfl
        · exact h11 p
      · exact u
  · rcases K.2 with ⟨u1, u2⟩ | ⟨u1, pp, u2, u3, u4⟩
    · refine Or.inl ⟨by rw [u1]; exact e13, ?_⟩
      have kk2 : kap P q2 = kap P (reGt E q y) := by funext i; unfold kap; rw [u2]
      have le1 : vLe (kap P (reGt E q y)) (kap P q1) := za.1.1
      have kk1 : kap P q1 = kap P (reGt E q y) := vLe_m le1 l2' kk2
      have kq : kap P q2 = kap P q1 := kk2.trans kk1.symm
      obtain ⟨aC, aM, aE⟩ := zO_a za.1 kk1
      have ek : (sem P (reGt E q y)).1 = kap P q2 := kk2.symm
      rw [ek] at aC aM aE
      have lo : zle (gRt M P T md (kap P q2)) z := by
        have := za.1.2.1
        rw [ek] at this
        exact this
      have hi : zle z (gRt M P T md (kap P q2)) := by
        have := za.1.2.2.1
        have e3 : (sem P q1).1 = kap P q2 := kq.symm
        rw [e3] at this
        exact this
      obtain ⟨n1, n2⟩ := za.2.2.1 kk1
      rw [ek] at n1 n2
      refine ⟨fun i zs u => ?_, fun i zv u => ?_, fun i i1 i2 u => ?_, ?_, ?_, fun hm0 p hp => ?_⟩
      · have := za.1.2.2.2.2.2.1 i (lo.2.2.2.1 i zs)
        have e3 : (sem P q1).1 i = kap P q2 i := by rw [kq]; rfl
        rw [e3] at this
        exact this u
      · have e3 : (sem P q1).1 i = kap P q2 i := by rw [kq]; rfl
        have := za.1.2.2.2.2.2.2 i (hi.2.2.2.2 i zv) (by rw [e3]; exact u)
        exact lo.2.2.1 i this
      · exact lo.2.2.1 i ((nemo i (hiA i i2).1).mp (kout i i1 i2 u))
      · rw [c2 14 (by decide)]
        have n1 : q1.2 14 = 1 ↔ (reGt E q y).2 14 = 1 ∨ zD (gRt M P T md (kap P q2)) := n1
        rw [n1, d0]
        exact ⟨fun u => u.elim False.elim id, Or.inr⟩
      · rw [c1 8 (by decide)]
        exact mB_cg zm aM
      · have := n2 (hm0.imp (aM 0).mpr (aM 1).mpr) ch0 p hp
        have e4 : chS q2 p = chS q1 p := by unfold chS; rw [c1 11 (by decide)]
        rw [e4]
        exact this
    · refine Or.inr ⟨u1, ?_⟩
      have e3 : (reGt E q y).1 1 = q.1 1 := qa 1 (by decide) (by decide)
      have K1 := K.1
      rw [e3] at K1 u3
      exact cn2_s K1 u3 u4 pls u2
end RND
