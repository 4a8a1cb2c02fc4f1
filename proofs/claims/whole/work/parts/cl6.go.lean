/-! a visit of the class: statement; leaves -/
def gRg (M : md_S) (k p : Nat) : Prop := pfQ M.2.1 k ≤ p ∧ p < ptQ M.2.1 k
/-- what stands: rows, lengths, places, held pauses, places of locals -/
def gSt (M : md_S) (E : rvP) (P : gvP) (D : Option Nat → Prop) (n ps sg pa pls N : Nat) : Prop :=
  (rEqF (vR E) M.2.1 n ps ∧ gtK E N) ∧ (n ≤ 1200 ∧ ps ≤ 1000 ∧ sg ≤ 400 ∧ pa ≤ 200 ∧ pls ≤ 100000) ∧ ((∀ i, i < 10 → vN E i = n) ∧ vN E 11 = ps ∧ vN E 12 = ps ∧ vN E 13 = ps ∧ vN E 14 = ps) ∧ ((vL' E 1 = pls ∧ vL' E 2 = pls ∧ vL' E 3 = sg ∧ vL' E 4 = sg ∧ vL' E 5 = ps) ∧ (∀ i, 6 ≤ i → i < 10 → vL' E i = n) ∧ vL' E 10 = pa + 1 ∧ vL' E 11 = pa) ∧ ((∀ i j, gA P i → gA P j → gPl P i = gPl P j → i = j) ∧ ∀ i, gA P i → gPl P i < pls) ∧ ((∀ p p', p ≤ p' → p' ≤ pa → (gC P p).toInt ≤ (gC P p').toInt) ∧ ∀ p, p < pa → (gSe P p ↔ (gC P p).toInt < (gC P (p + 1)).toInt)) ∧ (∀ j, j < n → M.2.1 51 j = 10 → (D none → gA P (lis (M.2.1 51) (M.2.1 57) j + wtQ M.2.1 j) ∧ gF3 P (nuQ M.2.1 j) = Int32.ofNat (gPl P (lis (M.2.1 51) (M.2.1 57) j + wtQ M.2.1 j))) ∧ ∀ d, d < wtQ M.2.1 j → D (some d) → gA P (lis (M.2.1 51) (M.2.1 57) j + d) ∧ gF3 P (nuQ M.2.1 j) + Int32.ofNat d = Int32.ofNat (gPl P (lis (M.2.1 51) (M.2.1 57) j + d))) ∧ (D none → ∀ d, 1 ≤ d → D (some d))
def gMd (md : Option Nat) (w : Nat) (q : rsT) : Prop := match md with | none => q.2 15 = 0 ∧ q.2 16 = -1 ∧ q.2 17 = 0 | some d => ¬ q.2 15 = 0 ∧ q.2 17 = Int32.ofNat d ∧ d < w
def gIv (P : gvP) (q : rsT) : Prop := q.1 3 = gF3 P ∧ q.1 10 = gC P ∧ (∀ p, v3 (q.1 1 p)) ∧ (q.2 14 = 0 ∨ q.2 14 = 1)
def gPre (M : md_S) (P : gvP) (D : Option Nat → Prop) (T : tT) (V : Int32 → Prop) (k w : Nat) (ρ : Nat → Nat) (md : Option Nat) (s : Prop) (q : rsT) : Prop :=
  gIv P q ∧ bB (q.1 9 k) s ∧ (∀ y, V y → gA P (ρ y.toInt.toNat) ∧ q.1 4 y.toInt.toNat = Int32.ofNat (gPl P (ρ y.toInt.toNat)) ∧ ¬ INq M.2.1 k (tsz T) md w (ρ y.toInt.toNat)) ∧ gMd md w q ∧ (∀ j, k < j → j < k + tsz T → ¬ q.2 16 = Int32.ofNat j) ∧ (∀ i, INq M.2.1 k (tsz T) md w i → ¬ emS P q i) ∧ D md ∧ (md = none → hsC M.2.1 (gC P) k)
def gPost (M : md_S) (P : gvP) (pls : Nat) (T : tT) (k w : Nat) (ρ : Nat → Nat) (md : Option Nat) (s : Prop) (q q' : rsT) : Prop :=
  gFr k (k + tsz T) (lcT T) q q' ∧ (q'.2 15 = q.2 15 ∧ q'.2 16 = q.2 16 ∧ q'.2 17 = q.2 17) ∧ gKn pls q q' ∧ gIv P q' ∧ ∃ c, (cB (q'.1 7 k) (zC c) ∧ mB (q'.1 8 k) (zM c)) ∧ zA (gZ M P T k ρ md) (INq M.2.1 k (tsz T) md w) (gA P) (gRg M k) s (sem P q) (sem P q') c
/-- visits at most -/
def rvs : tT → Nat
  | .const _ => 1
  | .unary x A => 1 + rvs A + if (lT x).1 = 6 then tsz A else 0
  | .binary x A B => 1 + rvs A + rvs B + if (lT x).1 = 5 then tsz B else 0
  | _ => 1
def cst (T : tT) (md : Option Nat) : Nat := match md with | none => 2 * rvs T | some _ => 2 * tsz T
def gVis (G : hg_E) (E : rvP) (M : md_S) (P : gvP) (D : Option Nat → Prop) (pls N : Nat) (T : tT) (V : Int32 → Prop) (k w : Nat) : Prop :=
  ∀ (ρ : Nat → Nat) (md : Option Nat) (s : Prop) (S : hg_S) (q : rsT) (x2 : Int32) (st : Nat) (F : hg_S ⊕ hg_S → Prop), RV G E S q → gPre M P D T V k w ρ md s q → st + cst T md ≤ N → (∀ S' q' st', RV G E S' q' → gPost M P pls T k w ρ md s q q' → st' + 1 ≤ st + cst T md → dc_wp (dc_it (gtS G E) (S', Int32.ofNat k, -1, Int32.ofNat st')) F) → dc_wp (dc_it (gtS G E) (S, x2, Int32.ofNat k, Int32.ofNat st)) F
/-- the tree fits what stands -/
def gTr (M : md_S) (kk ff xx : Nat → Int32) (m n ps sg pa : Nat) (T : tT) (V : Int32 → Prop) (k : Nat) (up : Int32) (w : Int) (t : Int32) (a c : Int) (Es : List (Int32 × Int32)) : Prop :=
  sfT M kk ff xx m T V k up w t a c Es ∧ k + tsz T ≤ n ∧ c + tsm xx T ≤ (ps : Int) ∧ a + pas T ≤ (pa : Int) ∧ (∀ y, V y → y.toInt < (sg : Int)) ∧ ∀ y, y ∈ lcT T → y.toInt < (sg : Int)
theorem tsz_pos (T : tT) : 1 ≤ tsz T := by
  cases T with
  | unary x A => show 1 ≤ 1 + tsz A; omega
  | binary x A B => show 1 ≤ 1 + tsz A + tsz B; omega
  | _ => exact Nat.le_refl _
section GOL
variable {G : hg_E} {E : rvP} {M : md_S} {P : gvP} {D : Option Nat → Prop} {names : Int32} {kk ff ss xx : Nat → Int32} {m n ps sg pa pls N : Nat} {T : tT} {V : Int32 → Prop} {k : Nat} {up : Int32} {w : Int} {t : Int32} {a c : Int} {Es : List (Int32 × Int32)} {S : hg_S} {q : rsT}
theorem gRow (hS : gSt M E P D n ps sg pa pls N) {j : Nat} (hj : j < n) : rvN E (Int32.ofNat j) ∧ (Int32.ofNat j).toInt.toNat = j ∧ (vR E 0 j = M.2.1 51 j ∧ vR E 1 j = M.2.1 52 j ∧ vR E 2 j = M.2.1 53 j ∧ vR E 3 j = M.2.1 58 j ∧ vR E 4 j = M.2.1 54 j ∧ vR E 7 j = M.2.1 57 j) ∧ vR E 8 j = M.2.1 62 j ∧ vR E 9 j = M.2.1 62 (M.2.1 59 j).toInt.toNat := by
  obtain ⟨⟨⟨h1, -⟩, -⟩, ⟨b1, -⟩, ⟨b2, -⟩, ⟨-, b3, -⟩, -⟩ := hS
  have tj : (Int32.ofNat j).toInt = (j : Int) := Int32.toInt_ofNat_of_lt (by omega)
  obtain ⟨⟨r0, r1, r2, r3, r4, -, -, r7, r8⟩, ⟨l, l1, l2, l3, l4⟩, -⟩ := h1 j hj
  refine ⟨⟨by omega, fun i hi => by rw [b2 i hi]; omega, fun i h6 h10 => by rw [b3 i h6 h10]; omega⟩, by omega, ⟨r0, r1, r2, r3, r4, r7⟩, r8, ?_⟩
  rw [l4, l3, Int32.toInt_ofNat_of_lt (by omega)]
  rfl
theorem gPs (hm : m ≤ 1000) (hS : gSt M E P D n ps sg pa pls N) (hT : gTr M kk ff xx m n ps sg pa T V k up w t a c Es) : vR E 8 k = Int32.ofNat (pfQ M.2.1 k) ∧ vR E 9 k = Int32.ofNat (ptQ M.2.1 k) ∧ pfQ M.2.1 k ≤ ptQ M.2.1 k ∧ ptQ M.2.1 k ≤ pa := by
  obtain ⟨h1, h2, h3, h4, -⟩ := hT
  obtain ⟨⟨r1, r2⟩, r3, r4⟩ := rg_b hm h1
  have kn : k < n := by
    have := tsz_pos T
    omega
  obtain ⟨-, -, -, e8, e9⟩ := gRow hS kn
  refine ⟨e8.trans r1, e9.trans r2, r3, ?_⟩
  have := (sfT_p h1).2
  omega
theorem hd_hs (hS : gSt M E P D n ps sg pa pls N) (hI : gIv P q) {j : Nat} (hj : j < n) : hdC E q j ↔ hsC M.2.1 (gC P) j := by
  obtain ⟨-, -, -, e8, e9⟩ := gRow hS hj
  unfold hdC hsC pfQ ptQ
  rw [e8, e9, hI.2.1]
theorem gHd (hm : m ≤ 1000) (hS : gSt M E P D n ps sg pa pls N) (hT : gTr M kk ff xx m n ps sg pa T V k up w t a c Es) (h : RV G E S q) : dc_wp (hm_RE_isHeld G S (vO E) (Int32.ofNat k)) (fun r => (hdC E q k ∧ r = 1) ∨ (¬ hdC E q k ∧ r = 0)) := by
  obtain ⟨e8, e9, p1, p2⟩ := gPs hm hS hT
  have kn : k < n := by
    have := tsz_pos T
    have := hT.2.1
    omega
  obtain ⟨hx, tk, -⟩ := gRow hS kn
  have hp := hS.2.1.2.2.2.1
  have h10 := hS.2.2.2.1.2.2.1
  have key := ih_w h hx (f := pfQ M.2.1 k) (t := ptQ M.2.1 k) (by rw [tk]; exact e8) (by rw [tk]; exact e9) p1 (by rw [h10]; omega) (by omega)
  rw [tk] at key
  exact key
theorem gZ_fm (hm : m ≤ 1000) (hT : sfT M kk ff xx m T V k up w t a c Es) {ρ : Nat → Nat} {md : Option Nat} (hw : mdW md w.toNat) : zFm (gZ M P T k ρ md) (fun i => ∃ y, V y ∧ i = ρ y.toInt.toNat) (INq M.2.1 k (tsz T) md w.toNat) (gRg M k) := by
  refine ⟨gZ_mo, gZ_ok, fun κ s i z => ?_, fun κ s p z => ?_⟩
  · refine E_in T V k up w t a c ρ md s hT.1 hT.2.1 hT.2.2.2.2.1.2.2.2.1 hw (fun j j1 j2 j3 => ?_) i z
    obtain ⟨u1, u2⟩ := hT.2.2.2.2.2.2.2.1 j j1 j2 j3
    unfold baQ
    rw [u1, Int32.toInt_ofNat_of_lt (by omega)]
    rfl
  · have := N_in hm T V k up w t a c Es ρ md s hT p z
    unfold gRg
    rw [(sfT_p hT).1, (sfT_p hT).2]
    exact this
theorem gMd_W {md : Option Nat} {v : Nat} (h : gMd md v q) : mdW md v := by
  cases md with
  | none => trivial
  | some d => exact Nat.le_of_lt h.2.2
theorem gtN (hS : gSt M E P D n ps sg pa pls N) : gtK E N := hS.1.2
/-- a quiet end: the answer of a leaf -/
theorem gLf {ρ : Nat → Nat} {md : Option Nat} {s : Prop} {q' : rsT} {v : Nat} {x : Lean.Name} {cs c0 : Int32} (hI : gIv P q) (hb : bB (q.1 9 k) s) (hq : q' = reAn q k cs c0) {d : Nat} (hd : d < 28) (ec : c0 = Int32.ofNat d) (hc : cB cs (fun i => i = d)) (he : gZ M P (.const x) k ρ md = fun _ s => zK d s) : gPost M P pls (.const x) k v ρ md s q q' := by
  subst hq
  have hQ : gQ k (k + 1) [] q (reAn q k cs c0) := gQ_an (Nat.le_refl _) (by omega)
  refine ⟨hQ.1, ⟨rfl, rfl, rfl⟩, gQ_kn hQ, ⟨by rw [hQ.1.2.2.1]; exact hI.1, by rw [hQ.1.2.2.2.1]; exact hI.2.1, by rw [hQ.2.1.1]; exact hI.2.2.1, by rw [hQ.2.2.2]; exact hI.2.2.2⟩, zK d s, ⟨by rw [reAn_7]; exact hc, ?_⟩, ?_⟩
  · rw [reAn_8]
    refine mB_s hd ?_
    rw [← ec]
    exact bB_i hb
  · rw [he, gQ_sem hQ]
    exact ⟨zK_O (fun _ _ => Iff.rfl), zK_S, zK_N Iff.rfl (fun _ => Iff.rfl)⟩
end GOL
