/-! the class's parser as its heap holds it; the reference's reader beside it -/
def inA (A : Nat → Nat) : Prop := ∀ i, i < 19 → ∀ j, j < 19 → A i = A j → i = j
theorem inA.ne {A : Nat → Nat} (h : inA A) {i j : Nat} (hi : i < 19) (hj : j < 19) (d : ¬ i = j) : A i ≠ A j := fun e => d (h i hi j hj e)
def piv (G : hg_E) (S : hg_S) (a kA fA sA xA pA cap : Nat) (kk ff ss xx pp : Nat → Int32) (made : Int32) : Prop :=
  hg_at S.1 a = some (.inr (5, [.ref kA, .ref fA, .ref sA, .ref xA, .ref pA, .int made])) ∧ hg_at S.1 kA = some (.inl (G.1 0, cap, .inl kk)) ∧ hg_at S.1 fA = some (.inl (G.1 0, cap, .inl ff)) ∧ hg_at S.1 sA = some (.inl (G.1 0, cap, .inl ss)) ∧ hg_at S.1 xA = some (.inl (G.1 0, cap, .inl xx)) ∧ hg_at S.1 pA = some (.inl (G.1 0, cap, .inl pp))
def alv (G : hg_E) (S : hg_S) (a e cap : Nat) (el : Nat → Option Nat) (size mod : Int32) : Prop :=
  hg_at S.1 a = some (.inr (7, [.ref e, .int size, .int mod])) ∧ ((e = G.2.2.1 ∧ cap = 0) ∨ (¬ e = G.2.2.1 ∧ 10 ≤ cap ∧ hg_at S.1 e = some (.inl (G.1 3, cap, .inr (.inr (.inr (.inr el)))))))
/-- a node: kind, line, first, second (by their numbers in the list), number, trap, test -/
abbrev ndT : Type := Int32 × Int32 × Option Nat × Option Nat × Int32 × Int32 × Int32
def ndC (P : Nat → Nat) (x : ndT) : List Value := [.int x.1, .int x.2.1, va_rf (x.2.2.1.map P), va_rf (x.2.2.2.1.map P), .int x.2.2.2.2.1, .int x.2.2.2.2.2.1, .int x.2.2.2.2.2.2, .int 0, .int 0, .int (-1), .int 0, .int 1, .int 0]
def ndv (S : hg_S) (el : Nat → Option Nat) (P : Nat → Nat) (ND : Nat → ndT) (m t0 : Nat) : Prop := ∀ i, i < m → el i = some (P i) ∧ t0 ≤ P i ∧ hg_at S.1 (P i) = some (.inr (8, ndC P (ND i))) ∧ (∀ i', i' < i → P i' < P i) ∧ ∀ c, (ND i).2.2.1 = some c ∨ (ND i).2.2.2.1 = some c → c < i
/-- addresses, rooms, what arrays hold, numbers, token, list, places of nodes, nodes -/
def PV (G : hg_E) (t0 : Nat) (H0 : Nat → Option va_E) (K1 K2 : Nat) (n : Nat) (f : Nat → Int32) (S : hg_S) (A C : Nat → Nat) (B : Nat → Nat → Int32) (Q : Nat → Int32) (j : Nat) (el : Nat → Option Nat) (P : Nat → Nat) (ND : Nat → ndT) : Prop :=
  (hw S ∧ inA A ∧ (∀ i, i < 19 → t0 ≤ A i) ∧ (∀ b, b < t0 → hg_at S.1 b = H0 b) ∧ G.2.2.1 < t0 ∧ t0 ≤ S.2.1) ∧
  hg_at S.1 (A 0) = some (.inr (4, [.ref (A 1), .ref (A 3), .ref (A 4), .ref (A 5), .int (Q 0), .int (Q 1), .int (Q 2)])) ∧
  lxv G S (A 1) (A 2) n f (some (G.2.1 j)) (Q 3) (Q 4) (Q 5) (Q 6) ∧
  nmv G S (A 3) (A 2) (A 8) (A 9) (A 10) (C 0) (B 0) (B 1) (B 2) (Q 7) (Q 8) ∧
  nmv G S (A 4) (A 2) (A 11) (A 12) (A 13) (C 1) (B 3) (B 4) (B 5) (Q 9) (Q 10) ∧
  hg_at S.1 (A 5) = some (.inr (6, [.ref (A 7), .ref (A 6), .int 0, .int 0, .int 0, .int 0])) ∧
  piv G S (A 6) (A 14) (A 15) (A 16) (A 17) (A 18) (C 2) (B 6) (B 7) (B 8) (B 9) (B 10) (Q 11) ∧
  (alv G S (A 7) (A 19) (C 3) el (Q 12) (Q 13) ∧ (¬ A 19 = G.2.2.1 → t0 ≤ A 19)) ∧
  ndv S el P ND (Q 12).toInt.toNat t0 ∧
  (K1 ≤ S.2.2.1 + (Q 12).toInt.toNat + 3 * C 0 + 3 * C 1 + 5 * C 2 + C 3 ∧ K2 ≤ S.2.2.2 + 13 * (Q 12).toInt.toNat + 6 * C 0 + 6 * C 1 + 10 * C 2 + 4 * C 3)
section PVS
variable {G : hg_E} {t0 : Nat} {H0 : Nat → Option va_E} {K1 K2 n : Nat} {f : Nat → Int32} {S S' : hg_S} {A C : Nat → Nat} {B : Nat → Nat → Int32} {Q : Nat → Int32} {j : Nat} {el : Nat → Option Nat} {P : Nat → Nat} {ND : Nat → ndT}
theorem PV.st (h : PV G t0 H0 K1 K2 n f S A C B Q j el P ND) : hw S ∧ inA A ∧ (∀ i, i < 19 → t0 ≤ A i) ∧ (∀ b, b < t0 → hg_at S.1 b = H0 b) ∧ G.2.2.1 < t0 ∧ t0 ≤ S.2.1 := h.1
theorem PV.pa (h : PV G t0 H0 K1 K2 n f S A C B Q j el P ND) : hg_at S.1 (A 0) = some (.inr (4, [.ref (A 1), .ref (A 3), .ref (A 4), .ref (A 5), .int (Q 0), .int (Q 1), .int (Q 2)])) := h.2.1
theorem PV.lx (h : PV G t0 H0 K1 K2 n f S A C B Q j el P ND) : lxv G S (A 1) (A 2) n f (some (G.2.1 j)) (Q 3) (Q 4) (Q 5) (Q 6) := h.2.2.1
theorem PV.sn (h : PV G t0 H0 K1 K2 n f S A C B Q j el P ND) : nmv G S (A 3) (A 2) (A 8) (A 9) (A 10) (C 0) (B 0) (B 1) (B 2) (Q 7) (Q 8) := h.2.2.2.1
theorem PV.tn (h : PV G t0 H0 K1 K2 n f S A C B Q j el P ND) : nmv G S (A 4) (A 2) (A 11) (A 12) (A 13) (C 1) (B 3) (B 4) (B 5) (Q 9) (Q 10) := h.2.2.2.2.1
theorem PV.dr (h : PV G t0 H0 K1 K2 n f S A C B Q j el P ND) : hg_at S.1 (A 5) = some (.inr (6, [.ref (A 7), .ref (A 6), .int 0, .int 0, .int 0, .int 0])) := h.2.2.2.2.2.1
theorem PV.pi (h : PV G t0 H0 K1 K2 n f S A C B Q j el P ND) : piv G S (A 6) (A 14) (A 15) (A 16) (A 17) (A 18) (C 2) (B 6) (B 7) (B 8) (B 9) (B 10) (Q 11) := h.2.2.2.2.2.2.1
theorem PV.al (h : PV G t0 H0 K1 K2 n f S A C B Q j el P ND) : alv G S (A 7) (A 19) (C 3) el (Q 12) (Q 13) := h.2.2.2.2.2.2.2.1.1
theorem PV.a19 (h : PV G t0 H0 K1 K2 n f S A C B Q j el P ND) : ¬ A 19 = G.2.2.1 → t0 ≤ A 19 := h.2.2.2.2.2.2.2.1.2
theorem PV.nd (h : PV G t0 H0 K1 K2 n f S A C B Q j el P ND) : ndv S el P ND (Q 12).toInt.toNat t0 := h.2.2.2.2.2.2.2.2.1
theorem PV.rm (h : PV G t0 H0 K1 K2 n f S A C B Q j el P ND) : K1 ≤ S.2.2.1 + (Q 12).toInt.toNat + 3 * C 0 + 3 * C 1 + 5 * C 2 + C 3 ∧ K2 ≤ S.2.2.2 + 13 * (Q 12).toInt.toNat + 6 * C 0 + 6 * C 1 + 10 * C 2 + 4 * C 3 := h.2.2.2.2.2.2.2.2.2
theorem nmv.fr {a tx fA eA sA cap : Nat} {ff ee ss : Nat → Int32} {made sc : Int32} (h : nmv G S a tx fA eA sA cap ff ee ss made sc) (e0 : hg_at S'.1 a = hg_at S.1 a) (e1 : hg_at S'.1 fA = hg_at S.1 fA) (e2 : hg_at S'.1 eA = hg_at S.1 eA) (e3 : hg_at S'.1 sA = hg_at S.1 sA) : nmv G S' a tx fA eA sA cap ff ee ss made sc := ⟨e0.trans h.1, e1.trans h.2.1, e2.trans h.2.2.1, e3.trans h.2.2.2⟩
theorem piv.fr {a kA fA sA xA pA cap : Nat} {kk ff ss xx pp : Nat → Int32} {made : Int32} (h : piv G S a kA fA sA xA pA cap kk ff ss xx pp made) (e0 : hg_at S'.1 a = hg_at S.1 a) (e1 : hg_at S'.1 kA = hg_at S.1 kA) (e2 : hg_at S'.1 fA = hg_at S.1 fA) (e3 : hg_at S'.1 sA = hg_at S.1 sA) (e4 : hg_at S'.1 xA = hg_at S.1 xA) (e5 : hg_at S'.1 pA = hg_at S.1 pA) : piv G S' a kA fA sA xA pA cap kk ff ss xx pp made := ⟨e0.trans h.1, e1.trans h.2.1, e2.trans h.2.2.1, e3.trans h.2.2.2.1, e4.trans h.2.2.2.2.1, e5.trans h.2.2.2.2.2⟩
theorem lxv.fr {o tx : Nat} {tk : Option Nat} {fr to ln fa : Int32} (h : lxv G S o tx n f tk fr to ln fa) (e0 : hg_at S'.1 o = hg_at S.1 o) (e1 : hg_at S'.1 tx = hg_at S.1 tx) : lxv G S' o tx n f tk fr to ln fa := ⟨e0.trans h.1, e1.trans h.2.1, h.2.2⟩
theorem alv.fr {a e cap : Nat} {el : Nat → Option Nat} {size mod : Int32} (h : alv G S a e cap el size mod) (e0 : hg_at S'.1 a = hg_at S.1 a) (e1 : ¬ e = G.2.2.1 → hg_at S'.1 e = hg_at S.1 e) : alv G S' a e cap el size mod := ⟨e0.trans h.1, h.2.imp id (fun z => ⟨z.1, z.2.1, (e1 z.1).trans z.2.2⟩)⟩
theorem ndv.fr {m : Nat} (h : ndv S el P ND m t0) (e : ∀ i, i < m → hg_at S'.1 (P i) = hg_at S.1 (P i)) : ndv S' el P ND m t0 := fun i hi => ⟨(h i hi).1, (h i hi).2.1, (e i hi).trans (h i hi).2.2.1, (h i hi).2.2.2⟩
/-- an address that holds something else is another one -/
theorem at_ne {a b : Nat} {x y : va_E} (ha : hg_at S.1 a = some x) (hb : hg_at S.1 b = some y) (d : ¬ x = y) : a ≠ b := fun e => d (Option.some.inj ((e ▸ ha).symm.trans hb))
theorem PV.nd_ne (h : PV G t0 H0 K1 K2 n f S A C B Q j el P ND) {i a : Nat} (hi : i < (Q 12).toInt.toNat) {x : va_E} (ha : hg_at S.1 a = some x) (d : ∀ fs, ¬ x = .inr (8, fs)) : P i ≠ a := at_ne (h.nd i hi).2.2.1 ha (fun e => d _ e.symm)
theorem PV.el_ne (h : PV G t0 H0 K1 K2 n f S A C B Q j el P ND) (e19 : ¬ A 19 = G.2.2.1) {a : Nat} {x : va_E} (ha : hg_at S.1 a = some x) (d : ∀ c m g, ¬ x = .inl (c, m, .inr g)) : A 19 ≠ a := by
  rcases h.al.2 with ⟨z, -⟩ | ⟨-, -, z⟩
  · exact absurd z e19
  · exact at_ne z ha (fun e => d _ _ _ e.symm)
def q4 (Q : Nat → Int32) (a b c d : Int32) : Nat → Int32 := fun k => if k = 3 then a else if k = 4 then b else if k = 5 then c else if k = 6 then d else Q k
def q1 (Q : Nat → Int32) (i : Nat) (v : Int32) : Nat → Int32 := fun k => if k = i then v else Q k
theorem hw_of1 {o : Nat} {x : va_E} (h : hw S) (hx : hg_at S.1 o = some x) (e : of1 S S' o) : hw S' := by
  intro b hb
  rw [e.1] at hb
  have := h.lt hx
  rw [e.2 b (by omega)]
  exact h b hb
/-- another lexer -/
theorem PV_lx (h : PV G t0 H0 K1 K2 n f S A C B Q j el P ND) (o : of1 S S' (A 1)) {j' : Nat} {a b c d : Int32} (v : lxv G S' (A 1) (A 2) n f (some (G.2.1 j')) a b c d) : PV G t0 H0 K1 K2 n f S' A C B (q4 Q a b c d) j' el P ND := by
  have ne : ∀ i, i < 19 → ¬ i = 1 → hg_at S'.1 (A i) = hg_at S.1 (A i) := fun i hi d => o.2 _ (h.st.2.1.ne hi (by omega) d)
  refine ⟨⟨hw_of1 h.st.1 h.lx.1 o, h.st.2.1, h.st.2.2.1, ?_, h.st.2.2.2.2.1, ?_⟩, (ne 0 (by omega) (by omega)).trans h.pa, v, ?_, ?_, (ne 5 (by omega) (by omega)).trans h.dr, ?_, ?_, ?_, ?_⟩
  · intro b hb
    have := h.st.2.2.1 1 (by omega)
    rw [o.2 b (by omega)]
    exact h.st.2.2.2.1 b hb
  · rw [o.1]; exact h.st.2.2.2.2.2
  · exact h.sn.fr (ne 3 (by omega) (by omega)) (ne 8 (by omega) (by omega)) (ne 9 (by omega) (by omega)) (ne 10 (by omega) (by omega))
  · exact h.tn.fr (ne 4 (by omega) (by omega)) (ne 11 (by omega) (by omega)) (ne 12 (by omega) (by omega)) (ne 13 (by omega) (by omega))
  · exact h.pi.fr (ne 6 (by omega) (by omega)) (ne 14 (by omega) (by omega)) (ne 15 (by omega) (by omega)) (ne 16 (by omega) (by omega)) (ne 17 (by omega) (by omega)) (ne 18 (by omega) (by omega))
  · exact ⟨h.al.fr (ne 7 (by omega) (by omega)) (fun z => o.2 _ (h.el_ne z h.lx.1 (fun _ _ _ z => by cases z))), h.a19⟩
  · exact h.nd.fr (fun i hi => o.2 _ (h.nd_ne hi h.lx.1 (fun _ z => by cases z)))
  · rw [o.1]; exact h.rm
/-- another parser: inputs, outputs, open -/
theorem PV_pa (h : PV G t0 H0 K1 K2 n f S A C B Q j el P ND) {i : Nat} {v : Int32} (hi : i < 3) : PV G t0 H0 K1 K2 n f (hu S (A 0) (.inr (4, [.ref (A 1), .ref (A 3), .ref (A 4), .ref (A 5), .int (q1 Q i v 0), .int (q1 Q i v 1), .int (q1 Q i v 2)]))) A C B (q1 Q i v) j el P ND := by
  have qe : ∀ k, 3 ≤ k → q1 Q i v k = Q k := fun k hk => if_neg (by omega)
  have ne : ∀ k, k < 19 → ¬ k = 0 → ∀ e, hg_at (hu S (A 0) e).1 (A k) = hg_at S.1 (A k) := fun k hk d e => hu_ne (h.st.2.1.ne hk (by omega) d)
  refine ⟨⟨h.st.1.hu, h.st.2.1, h.st.2.2.1, ?_, h.st.2.2.2.2.1, h.st.2.2.2.2.2⟩, hu_self h.pa, ?_, ?_, ?_, (ne 5 (by omega) (by omega) _).trans h.dr, ?_, ?_, ?_, ?_⟩
  · intro b hb
    have := h.st.2.2.1 0 (by omega)
    rw [hu_ne (by omega)]
    exact h.st.2.2.2.1 b hb
  · rw [qe 3 (by omega), qe 4 (by omega), qe 5 (by omega), qe 6 (by omega)]
    exact h.lx.fr (ne 1 (by omega) (by omega) _) (ne 2 (by omega) (by omega) _)
  · rw [qe 7 (by omega), qe 8 (by omega)]
    exact h.sn.fr (ne 3 (by omega) (by omega) _) (ne 8 (by omega) (by omega) _) (ne 9 (by omega) (by omega) _) (ne 10 (by omega) (by omega) _)
  · rw [qe 9 (by omega), qe 10 (by omega)]
    exact h.tn.fr (ne 4 (by omega) (by omega) _) (ne 11 (by omega) (by omega) _) (ne 12 (by omega) (by omega) _) (ne 13 (by omega) (by omega) _)
  · rw [qe 11 (by omega)]
    exact h.pi.fr (ne 6 (by omega) (by omega) _) (ne 14 (by omega) (by omega) _) (ne 15 (by omega) (by omega) _) (ne 16 (by omega) (by omega) _) (ne 17 (by omega) (by omega) _) (ne 18 (by omega) (by omega) _)
  · rw [qe 12 (by omega), qe 13 (by omega)]
    exact ⟨h.al.fr (ne 7 (by omega) (by omega) _) (fun z => hu_ne (h.el_ne z h.pa (fun _ _ _ z => by cases z))), h.a19⟩
  · rw [qe 12 (by omega)]
    exact h.nd.fr (fun i hi => hu_ne (h.nd_ne hi h.pa (fun _ z => by cases z)))
  · rw [qe 12 (by omega)]; exact h.rm
end PVS
