/-! nodes made by the class: join, leaf, and what is set in one -/
def RC (n K1 K2 : Nat) (C : Nat → Nat) (Q : Nat → Int32) : Prop := (40 * n + 70 ≤ K1 ∧ 200 * n + 400 ≤ K2) ∧ (C 0 ≤ n + 5 ∧ C 1 ≤ 2 * n + 4 ∧ C 2 ≤ 2 * n + 4) ∧ ((C 3 : Int) ≤ 2 * (Q 12).toInt + 10 ∧ 0 ≤ (Q 12).toInt ∧ (Q 12).toInt ≤ (C 3 : Int)) ∧ n ≤ 32768
def evC (A C : Nat → Nat) (Q : Nat → Int32) (P : Nat → Nat) (ND : Nat → ndT) (A' C' : Nat → Nat) (Q' : Nat → Int32) (P' : Nat → Nat) (ND' : Nat → ndT) : Prop :=
  (∀ k, ¬ k = 19 → A' k = A k) ∧ (∀ k, ¬ k = 3 → C' k = C k) ∧ (∀ k, ¬ k = 12 → ¬ k = 13 → Q' k = Q k) ∧ (Q 12).toInt ≤ (Q' 12).toInt ∧ ∀ i, i < (Q 12).toInt.toNat → P' i = P i ∧ ND' i = ND i
section EVC
variable {A C A' C' A2 C2 P P' P2 : Nat → Nat} {Q Q' Q2 : Nat → Int32} {ND ND' ND2 : Nat → ndT}
theorem evC_rf : evC A C Q P ND A C Q P ND := ⟨fun _ _ => rfl, fun _ _ => rfl, fun _ _ _ => rfl, Int.le_refl _, fun _ _ => ⟨rfl, rfl⟩⟩
theorem evC_tr (h : evC A C Q P ND A' C' Q' P' ND') (g : evC A' C' Q' P' ND' A2 C2 Q2 P2 ND2) : evC A C Q P ND A2 C2 Q2 P2 ND2 := by
  obtain ⟨h1, h2, h3, h4, h5⟩ := h
  obtain ⟨g1, g2, g3, g4, g5⟩ := g
  refine ⟨fun k d => (g1 k d).trans (h1 k d), fun k d => (g2 k d).trans (h2 k d), fun k d e => (g3 k d e).trans (h3 k d e), Int.le_trans h4 g4, fun i hi => ?_⟩
  obtain ⟨x1, x2⟩ := h5 i hi
  obtain ⟨y1, y2⟩ := g5 i (by omega)
  exact ⟨y1.trans x1, y2.trans x2⟩
end EVC
section NDC
variable {G : hg_E} {sz t0 : Nat} {H0 : Nat → Option va_E} {K1 K2 n : Nat} {f : Nat → Int32} {S S' : hg_S} {A C : Nat → Nat} {B : Nat → Nat → Int32} {Q : Nat → Int32} {j : Nat} {el : Nat → Option Nat} {P : Nat → Nat} {ND : Nat → ndT} {M M' : md_S} {b u w : Int}
/-- one node more: x is what it holds -/
def nO (G : hg_E) (t0 : Nat) (H0 : Nat → Option va_E) (K1 K2 n : Nat) (f : Nat → Int32) (B : Nat → Nat → Int32) (j : Nat) (A C : Nat → Nat) (Q : Nat → Int32) (P : Nat → Nat) (ND : Nat → ndT) (x : ndT) (q : hg_S × Option Nat) : Prop :=
  ∃ A' C' Q' el' P' ND', PV G t0 H0 K1 K2 n f q.1 A' C' B Q' j el' P' ND' ∧ RC n K1 K2 C' Q' ∧ evC A C Q P ND A' C' Q' P' ND' ∧ (Q' 12).toInt = (Q 12).toInt + 1 ∧ ND' (Q 12).toInt.toNat = x ∧ q.2 = some (P' (Q 12).toInt.toNat)
theorem RC.room (h : PV G t0 H0 K1 K2 n f S A C B Q j el P ND) (hc : RC n K1 K2 C Q) (hr : (Q 12).toInt + 1 ≤ 6 * (n : Int)) : 2 ≤ S.2.2.1 ∧ C 3 + C 3 / 2 + 23 ≤ S.2.2.2 ∧ C 3 ≤ 500000 := by
  obtain ⟨⟨a1, a2⟩, ⟨a3, a4, a5⟩, ⟨a6, a7, a8⟩, a9⟩ := hc
  obtain ⟨b1, b2⟩ := h.rm
  refine ⟨?_, ?_, ?_⟩ <;> omega
theorem nO_of (hc : RC n K1 K2 C Q) {x : ndT} {T : hg_S} {e c : Nat} {el' : Nat → Option Nat} {a : Nat} (v : PV G t0 H0 K1 K2 n f T (c1 A 19 e) (c1 C 3 c) B (q1 (q1 Q 12 (Q 12 + 1)) 13 (Q 13 + 1)) j el' (pU P (Q 12).toInt.toNat a) (nU ND (Q 12).toInt.toNat x)) (g1 : (Q 12).toInt < (c : Int)) (g2 : c = C 3 ∨ (C 3 = 0 ∧ c = 10) ∨ (10 ≤ C 3 ∧ (Q 12).toInt = (C 3 : Int) ∧ c = C 3 + C 3 / 2)) (hr : (Q 12).toInt + 1 ≤ 6 * (n : Int)) : nO G t0 H0 K1 K2 n f B j A C Q P ND x (T, some a) := by
  obtain ⟨a1, a3, ⟨a6, a7, a8⟩, a9⟩ := hc
  have ad : (Q 12 + 1).toInt = (Q 12).toInt + 1 := by rw [i_addS (by rw [il_1]; omega), il_1]
  refine ⟨_, _, _, el', _, _, v, ⟨a1, a3, ?_, a9⟩, ⟨fun k d => if_neg d, fun k d => if_neg d, fun k d d2 => ?_, ?_, fun i hi => ⟨if_neg (by omega), if_neg (by omega)⟩⟩, ad, if_pos rfl, ?_⟩
  · show (c : Int) ≤ 2 * (Q 12 + 1).toInt + 10 ∧ 0 ≤ (Q 12 + 1).toInt ∧ (Q 12 + 1).toInt ≤ (c : Int)
    omega
  · show (if k = 13 then _ else if k = 12 then _ else Q k) = Q k
    rw [if_neg d2, if_neg d]
  · show (Q 12).toInt ≤ (Q 12 + 1).toInt
    omega
  · show some a = some (if (Q 12).toInt.toNat = (Q 12).toInt.toNat then a else _)
    rw [if_pos rfl]
/-- a new object of a node -/
theorem new_w (h : PV G t0 H0 K1 K2 n f S A C B Q j el P ND) {k l : Int32} {c1 c2 : Option Nat} (hc : 2 ≤ S.2.2.1) (hs : 23 ≤ S.2.2.2) {τ : Type} {E : hg_S → Option τ} {F : τ → Prop} (kk : ∀ S2, hw S2 → S2.2 = (S.2.1 + 1, S.2.2.1 - 1, S.2.2.2 - 13) → hg_at S2.1 S.2.1 = some (.inr (8, [.int k, .int l, va_rf c1, va_rf c2, .int (-1), .int (-1), .int (-1), .int 0, .int 0, .int (-1), .int 0, .int 1, .int 0])) → (∀ b, b ≠ S.2.1 → hg_at S2.1 b = hg_at S.1 b) → dc_wp (E S2) F) : dc_wp ((hg_new S 8 13 [.int 0, .int 0, .null, .null, .int 0, .int 0, .int 0, .int 0, .int 0, .int 0, .int 0, .int 0, .int 0]).bind fun S1 => (hm_ND_init G S1 S.2.1 k l c1 c2).bind E) F := by
  refine wq_new (by omega) (by omega) ?_
  have b0 := hp_self (e := .inr (8, [.int 0, .int 0, .null, .null, .int 0, .int 0, .int 0, .int 0, .int 0, .int 0, .int 0, .int 0, .int 0])) (n := 13) h.st.1
  refine wq_call (ndi_w b0) ?_
  rintro S2 ⟨g1, g2⟩
  refine kk S2 (hw_of1 h.st.1.hp b0 g2) ?_ g1 (fun b hb => (g2.2 b hb).trans (hp_ne hb))
  rw [g2.1]; rfl
theorem joinC (h : PV G t0 H0 K1 K2 n f S A C B Q j el P ND) (hc : RC n K1 K2 C Q) (hr : (Q 12).toInt + 1 ≤ 6 * (n : Int)) {k l : Int32} {c1 c2 : Option Nat} (h1 : ∀ c, c1 = some c ∨ c2 = some c → c < (Q 12).toInt.toNat) {p1 p2 : Option Nat} (e1 : p1 = c1.map P) (e2 : p2 = c2.map P) : dc_wp (hm_DR_join G S (A 5) k p1 p2 l) (nO G t0 H0 K1 K2 n f B j A C Q P ND (k, l, c1, c2, -1, -1, -1)) := by
  subst e1 e2
  have rm := RC.room h hc hr
  have hc0 := hc
  obtain ⟨-, -, ⟨a6, a7, a8⟩, a9⟩ := hc
  delta hm_DR_join
  refine new_w h rm.1 (by omega) ?_
  intro S2 w2 z2 v2 f2
  refine wq_let (fun v hv => ?_)
  subst hv
  have d5 : hg_at S2.1 (A 5) = some (.inr (6, [.ref (A 7), .ref (A 6), .int 0, .int 0, .int 0, .int 0])) := (f2 _ (by have := h.lt 5 (by omega); omega)).trans h.dr
  have d7 : hg_at S2.1 (A 7) = some (.inr (7, [.ref (A 19), .int (Q 12), .int (Q 13)])) := (f2 _ (by have := h.lt 7 (by omega); omega)).trans h.al.1
  refine wq_gr (x := some (A 7)) d5 rfl ?_
  refine wq_chk d7 ?_
  refine wq_call (mk2 h a7 a8 rm.2.2 (x := (k, l, c1, c2, -1, -1, -1)) h1 w2 z2 v2 f2 rm.1 rm.2.1) ?_
  rintro ⟨T, y⟩ ⟨e, c, el', g1, g2, g3⟩
  exact ⟨_, rfl, nO_of hc0 g1 g2 g3 hr⟩
theorem leafC (h : PV G t0 H0 K1 K2 n f S A C B Q j el P ND) (hc : RC n K1 K2 C Q) (hr : (Q 12).toInt + 1 ≤ 6 * (n : Int)) {k v l : Int32} : dc_wp (hm_DR_leaf G S (A 5) k v l) (nO G t0 H0 K1 K2 n f B j A C Q P ND (k, l, none, none, v, -1, -1)) := by
  have rm := RC.room h hc hr
  have hc0 := hc
  obtain ⟨-, -, ⟨a6, a7, a8⟩, a9⟩ := hc
  delta hm_DR_leaf
  refine new_w h rm.1 (by omega) ?_
  intro S2 w2 z2 v2 f2
  refine wq_let (fun v hv => ?_)
  subst hv
  refine wq_pfT (fs' := [.int k, .int l, .null, .null, .int v, .int (-1), .int (-1), .int 0, .int 0, .int (-1), .int 0, .int 1, .int 0]) v2 (Nat.le_of_ble_eq_true rfl) rfl ?_
  intro S3 e3
  have f3 : ∀ b, b ≠ S.2.1 → hg_at S3.1 b = hg_at S.1 b := fun b hb => by rw [← e3, hu_ne hb]; exact f2 b hb
  have d5 : hg_at S3.1 (A 5) = some (.inr (6, [.ref (A 7), .ref (A 6), .int 0, .int 0, .int 0, .int 0])) := (f3 _ (by have := h.lt 5 (by omega); omega)).trans h.dr
  have d7 : hg_at S3.1 (A 7) = some (.inr (7, [.ref (A 19), .int (Q 12), .int (Q 13)])) := (f3 _ (by have := h.lt 7 (by omega); omega)).trans h.al.1
  refine wq_gr (x := some (A 7)) d5 rfl ?_
  refine wq_chk d7 ?_
  refine wq_call (mk2 h a7 a8 rm.2.2 (x := (k, l, none, none, v, -1, -1)) (fun c hc => by rcases hc with hc | hc <;> cases hc) (S2 := S3) (by rw [← e3]; exact w2.hu) (by rw [← e3]; exact z2) (by rw [← e3]; exact hu_self v2) f3 rm.1 rm.2.1) ?_
  rintro ⟨T, y⟩ ⟨e, c, el', g1, g2, g3⟩
  exact ⟨_, rfl, nO_of hc0 g1 g2 g3 hr⟩
end NDC
