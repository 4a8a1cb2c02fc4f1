/-! the draft and its nodes as settle sees them -/
def nrow (P : Nat → Nat) (c1 c2 : Option Nat) (g : Nat → Int32) : List Value := [.int (g 0), .int (g 1), va_rf (c1.map P), va_rf (c2.map P), .int (g 4), .int (g 5), .int (g 6), .int (g 7), .int (g 8), .int (g 9), .int (g 10), .int (g 11), .int (g 12)]
def DV (G : hg_E) (S : hg_S) (a5 a6 a7 : Nat) (P : Nat → Nat) (m : Nat) (c1 c2 : Nat → Option Nat) (xA xc : Nat) (xx : Nat → Int32) (F : Nat → Nat → Int32) (D : Nat → Int32) : Prop :=
  (hw S ∧ m ≤ 200000) ∧ hg_at S.1 a5 = some (.inr (6, [.ref a7, .ref a6, .int (D 2), .int (D 3), .int (D 4), .int (D 5)])) ∧
  (∃ y0 y1 y2 y4 y5, hg_at S.1 a6 = some (.inr (5, [y0, y1, y2, .ref xA, y4, y5]))) ∧ hg_at S.1 xA = some (.inl (G.1 0, xc, .inl xx)) ∧
  (∃ e mod cap el, hg_at S.1 a7 = some (.inr (7, [.ref e, .int (Int32.ofNat m), .int mod])) ∧ hg_at S.1 e = some (.inl (G.1 3, cap, .inr (.inr (.inr (.inr el))))) ∧ m ≤ cap ∧ ∀ i, i < m → el i = some (P i)) ∧
  ∀ i, i < m → hg_at S.1 (P i) = some (.inr (8, nrow P (c1 i) (c2 i) (F i))) ∧ (∀ i', i' < i → P i' < P i) ∧ ∀ c, c1 i = some c ∨ c2 i = some c → c < i
def frD (P : Nat → Nat) (m a5 : Nat) (S S' : hg_S) : Prop := S'.2 = S.2 ∧ ∀ b, (∀ i, i < m → b ≠ P i) → b ≠ a5 → hg_at S'.1 b = hg_at S.1 b
def fU (F : Nat → Nat → Int32) (i k : Nat) (v : Int32) : Nat → Nat → Int32 := fun i' k' => if i' = i ∧ k' = k then v else F i' k'
theorem fU_s {F : Nat → Nat → Int32} {i k : Nat} {v : Int32} : fU F i k v i k = v := if_pos ⟨rfl, rfl⟩
theorem fU_i {F : Nat → Nat → Int32} {i k i' k' : Nat} {v : Int32} (h : ¬ i' = i) : fU F i k v i' k' = F i' k' := if_neg (fun z => h z.1)
theorem fU_k {F : Nat → Nat → Int32} {i k i' k' : Nat} {v : Int32} (h : ¬ k' = k) : fU F i k v i' k' = F i' k' := if_neg (fun z => h z.2)
section DVS
variable {G : hg_E} {S S' S2 : hg_S} {a5 a6 a7 m xA xc : Nat} {P : Nat → Nat} {c1 c2 : Nat → Option Nat} {xx : Nat → Int32} {F : Nat → Nat → Int32} {D : Nat → Int32}
theorem frD.rf : frD P m a5 S S := ⟨rfl, fun _ _ _ => rfl⟩
theorem frD.tr (h : frD P m a5 S S') (g : frD P m a5 S' S2) : frD P m a5 S S2 := ⟨g.1.trans h.1, fun b h1 h2 => (g.2 b h1 h2).trans (h.2 b h1 h2)⟩
theorem DV.nd (v : DV G S a5 a6 a7 P m c1 c2 xA xc xx F D) {i : Nat} (hi : i < m) : hg_at S.1 (P i) = some (.inr (8, nrow P (c1 i) (c2 i) (F i))) := (v.2.2.2.2.2 i hi).1
theorem DV.ch (v : DV G S a5 a6 a7 P m c1 c2 xA xc xx F D) {i c : Nat} (hi : i < m) (h : c1 i = some c ∨ c2 i = some c) : c < i := (v.2.2.2.2.2 i hi).2.2 c h
theorem DV.inj (v : DV G S a5 a6 a7 P m c1 c2 xA xc xx F D) {i k : Nat} (hi : i < m) (hk : k < m) (e : ¬ i = k) : P i ≠ P k := by
  rcases Nat.lt_or_gt_of_ne e with z | z
  · have := (v.2.2.2.2.2 k hk).2.1 i z; omega
  · have := (v.2.2.2.2.2 i hi).2.1 k z; omega
/-- a number of a node written -/
theorem DV_nd (v : DV G S a5 a6 a7 P m c1 c2 xA xc xx F D) {i k : Nat} (hi : i < m) {x : Int32} (hs : (nrow P (c1 i) (c2 i) (F i)).set k (.int x) = nrow P (c1 i) (c2 i) (fU F i k x i)) : DV G (hu S (P i) (.inr (8, (nrow P (c1 i) (c2 i) (F i)).set k (.int x)))) a5 a6 a7 P m c1 c2 xA xc xx (fU F i k x) D ∧ frD P m a5 S (hu S (P i) (.inr (8, (nrow P (c1 i) (c2 i) (F i)).set k (.int x)))) := by
  have c0 := v.nd hi
  rw [hs]
  have ne : ∀ {a : Nat} {y : va_E}, hg_at S.1 a = some y → (∀ fs, ¬ y = .inr (8, fs)) → hg_at (hu S (P i) (.inr (8, nrow P (c1 i) (c2 i) (fU F i k x i)))).1 a = hg_at S.1 a := fun {a y} hy d => hu_ne (fun e => d _ (Option.some.inj ((e ▸ hy).symm.trans c0)))
  obtain ⟨⟨w1, w2⟩, w3, ⟨y0, y1, y2, y4, y5, w4⟩, w5, ⟨e, md, cap, el, w6, w7, w8, w9⟩, w10⟩ := v
  refine ⟨⟨⟨w1.hu, w2⟩, (ne w3 (fun _ z => by cases z)).trans w3, ⟨y0, y1, y2, y4, y5, (ne w4 (fun _ z => by cases z)).trans w4⟩, (ne w5 (fun _ z => by cases z)).trans w5, ⟨e, md, cap, el, (ne w6 (fun _ z => by cases z)).trans w6, (ne w7 (fun _ z => by cases z)).trans w7, w8, w9⟩, fun i' hi' => ?_⟩, rfl, fun b h1 _ => hu_ne (h1 i hi)⟩
  obtain ⟨z1, z2, z3⟩ := w10 i' hi'
  by_cases ei : i' = i
  · subst ei
    exact ⟨hu_self c0, z2, z3⟩
  · have pn : P i' ≠ P i := by
      rcases Nat.lt_or_gt_of_ne ei with z | z
      · have := (w10 i hi).2.1 i' z; omega
      · have := z2 i z; omega
    have fe : fU F i k x i' = F i' := funext (fun k' => fU_i ei)
    rw [fe]
    exact ⟨(hu_ne pn).trans z1, z2, z3⟩
theorem wn_pf (v : DV G S a5 a6 a7 P m c1 c2 xA xc xx F D) {i k : Nat} (hi : i < m) {x : Int32} (hk : k < 13) (hs : (nrow P (c1 i) (c2 i) (F i)).set k (.int x) = nrow P (c1 i) (c2 i) (fU F i k x i)) {τ : Type} {E : hg_S → Option τ} {Φ : τ → Prop} (kk : ∀ S', DV G S' a5 a6 a7 P m c1 c2 xA xc xx (fU F i k x) D → frD P m a5 S S' → dc_wp (E S') Φ) : dc_wp ((hg_pf S (some (P i)) 8 k (.int x)).bind E) Φ := by
  refine wq_pf (v.nd hi) hk ?_
  obtain ⟨g1, g2⟩ := DV_nd v hi hs
  exact kk _ g1 g2
/-- a number of the draft written -/
theorem DV_dr (v : DV G S a5 a6 a7 P m c1 c2 xA xc xx F D) {D' : Nat → Int32} : DV G (hu S a5 (.inr (6, [.ref a7, .ref a6, .int (D' 2), .int (D' 3), .int (D' 4), .int (D' 5)]))) a5 a6 a7 P m c1 c2 xA xc xx F D' ∧ frD P m a5 S (hu S a5 (.inr (6, [.ref a7, .ref a6, .int (D' 2), .int (D' 3), .int (D' 4), .int (D' 5)]))) := by
  obtain ⟨⟨w1, w2⟩, w3, ⟨y0, y1, y2, y4, y5, w4⟩, w5, ⟨e, md, cap, el, w6, w7, w8, w9⟩, w10⟩ := v
  have ne : ∀ {a : Nat} {y : va_E}, hg_at S.1 a = some y → (∀ fs, ¬ y = .inr (6, fs)) → hg_at (hu S a5 (.inr (6, [.ref a7, .ref a6, .int (D' 2), .int (D' 3), .int (D' 4), .int (D' 5)]))).1 a = hg_at S.1 a := fun {a y} hy d => hu_ne (fun e => d _ (Option.some.inj ((e ▸ hy).symm.trans w3)))
  refine ⟨⟨⟨w1.hu, w2⟩, hu_self w3, ⟨y0, y1, y2, y4, y5, (ne w4 (fun _ z => by cases z)).trans w4⟩, (ne w5 (fun _ z => by cases z)).trans w5, ⟨e, md, cap, el, (ne w6 (fun _ z => by cases z)).trans w6, (ne w7 (fun _ z => by cases z)).trans w7, w8, w9⟩, fun i' hi' => ?_⟩, rfl, fun b _ h2 => hu_ne h2⟩
  obtain ⟨z1, z2, z3⟩ := w10 i' hi'
  exact ⟨(ne z1 (fun _ z => by cases z)).trans z1, z2, z3⟩
/-- size, get -/
theorem wn_size (v : DV G S a5 a6 a7 P m c1 c2 xA xc xx F D) {τ : Type} {E : Int32 → Option τ} {Φ : τ → Prop} (kk : dc_wp (E (Int32.ofNat m)) Φ) : dc_wp ((hm_AL_size G S a7).bind E) Φ := by
  obtain ⟨-, -, -, -, ⟨e, md, cap, el, w6, -⟩, -⟩ := v
  refine wq_call (P := fun z => z = Int32.ofNat m) ?_ (fun z hz => by rw [hz]; exact kk)
  delta hm_AL_size
  refine wq_gi (x := Int32.ofNat m) w6 rfl ?_
  exact ⟨_, rfl, rfl⟩
theorem wn_get (v : DV G S a5 a6 a7 P m c1 c2 xA xc xx F D) {i : Nat} (hi : i < m) {τ : Type} {E : Option Nat → Option τ} {Φ : τ → Prop} (kk : dc_wp (E (some (P i))) Φ) : dc_wp ((hm_AL_get G S a7 (Int32.ofNat i)).bind E) Φ := by
  obtain ⟨⟨-, hm⟩, -, -, -, ⟨e, md, cap, el, w6, w7, w8, w9⟩, -⟩ := v
  have tI : (Int32.ofNat i).toInt = (i : Int) := Int32.toInt_ofNat_of_lt (by omega)
  have tM : (Int32.ofNat m).toInt = (m : Int) := Int32.toInt_ofNat_of_lt (by omega)
  refine wq_call (P := fun z => z = some (P i)) ?_ (fun z hz => by rw [hz]; exact kk)
  delta hm_AL_get
  refine wq_gi (x := Int32.ofNat m) w6 rfl ?_
  have ck : hm_OB_checkIndex G S (Int32.ofNat i) (Int32.ofNat m) = some (Int32.ofNat i) := by
    delta hm_OB_checkIndex hm_PC_checkIndex
    rw [if_neg (fun z => by have := i_lt.mp z; rw [il_0] at this; omega), if_pos (i_lt.mpr (by omega))]
    rfl
  rw [ck, Option.bind_some]
  refine wq_chk w6 ?_
  delta hm_AL_elementData
  refine wq_call (P := fun z => z = some (P i)) ?_ (fun z hz => by rw [hz]; exact ⟨_, rfl, rfl⟩)
  refine wq_gr (x := some e) w6 rfl ?_
  refine wq_call (P := fun z => z = some (P i)) ?_ (fun z hz => by rw [hz]; exact ⟨_, rfl, rfl⟩)
  delta hg_old
  have oa : hg_oa S (some e) (G.1 3) = some (e, cap, el) := by
    unfold hg_oa
    dsimp only
    rw [w7]
    exact if_pos rfl
  rw [oa, Option.bind_some]
  show dc_wp ((dc_ix (Int32.ofNat i) cap).bind fun j => some (el j)) _
  refine wq_ix (by omega) (by rw [tI]; omega) ?_
  refine ⟨_, rfl, ?_⟩
  rw [tI]
  exact w9 i hi
/-- the extent of what may be missing -/
def exN (F : Nat → Nat → Int32) (k : Nat) : Option Nat → Int32
  | none => 0
  | some c => F c k
theorem wn_ext (v : DV G S a5 a6 a7 P m c1 c2 xA xc xx F D) {c : Option Nat} (hc : ∀ x, c = some x → x < m) {τ : Type} {E : Int32 → Option τ} {Φ : τ → Prop} (kk : dc_wp (E (exN F 7 c)) Φ) : dc_wp ((hm_DR_extentOf G S (c.map P)).bind E) Φ := by
  refine wq_call (P := fun z => z = exN F 7 c) ?_ (fun z hz => by rw [hz]; exact kk)
  delta hm_DR_extentOf
  cases c with
  | none =>
    show dc_wp (if (none : Option Nat) = none then _ else _) _
    rw [if_pos rfl]
    exact ⟨_, rfl, rfl⟩
  | some x =>
    show dc_wp (if some (P x) = none then _ else _) _
    rw [if_neg (fun z => by cases z)]
    show dc_wp ((hg_gi S (some (P x)) 8 7).bind _) _
    refine wq_gi (x := F x 7) (v.nd (hc x rfl)) rfl ?_
    exact ⟨_, rfl, rfl⟩
end DVS
