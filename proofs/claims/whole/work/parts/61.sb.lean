/-! numbers of 32 bits as whole numbers; how a told program is shown to come to something -/
theorem i_add {x y : Int32} (h1 : -2147483648 ≤ x.toInt + y.toInt) (h2 : x.toInt + y.toInt < 2147483648) : (x + y).toInt = x.toInt + y.toInt := by
  rw [Int32.toInt_add]; exact Int.bmod_eq_of_le (by omega) (by omega)
theorem i_sub {x y : Int32} (h1 : -2147483648 ≤ x.toInt - y.toInt) (h2 : x.toInt - y.toInt < 2147483648) : (x - y).toInt = x.toInt - y.toInt := by
  rw [Int32.toInt_sub]; exact Int.bmod_eq_of_le (by omega) (by omega)
theorem i_mul {x y : Int32} (h1 : -2147483648 ≤ x.toInt * y.toInt) (h2 : x.toInt * y.toInt < 2147483648) : (x * y).toInt = x.toInt * y.toInt := by
  rw [Int32.toInt_mul]; exact Int.bmod_eq_of_le (by omega) (by omega)
theorem i_lt {x y : Int32} : x < y ↔ x.toInt < y.toInt := Int32.lt_iff_toInt_lt
theorem i_eq {x y : Int32} : x = y ↔ x.toInt = y.toInt := Int32.toInt_inj.symm
theorem i_le {x y : Int32} : x ≤ y ↔ x.toInt ≤ y.toInt := Int32.le_iff_toInt_le
theorem bm32 (x : Int) : x.bmod (2 ^ 32) = (x + 2147483648) % 4294967296 - 2147483648 := by
  unfold Int.bmod; simp only [show ((2 ^ 32 : Nat) : Int) = 4294967296 from rfl]; split <;> omega
theorem a_add (x y : Int32) : (x + y).toInt = (x.toInt + y.toInt + 2147483648) % 4294967296 - 2147483648 := by rw [Int32.toInt_add, bm32]
theorem a_sub (x y : Int32) : (x - y).toInt = (x.toInt - y.toInt + 2147483648) % 4294967296 - 2147483648 := by rw [Int32.toInt_sub, bm32]
theorem a_mul (x y : Int32) : (x * y).toInt = (x.toInt * y.toInt + 2147483648) % 4294967296 - 2147483648 := by rw [Int32.toInt_mul, bm32]
theorem i_lo (x : Int32) : -2147483648 ≤ x.toInt := Int32.le_toInt x
theorem i_hi (x : Int32) : x.toInt < 2147483648 := Int32.toInt_lt x
theorem i_nat {x : Int32} (h : 0 ≤ x.toInt) : (x.toNatClampNeg : Int) = x.toInt := by unfold Int32.toNatClampNeg; omega
theorem i_addS {x y : Int32} (h : -2147483648 ≤ x.toInt + y.toInt ∧ x.toInt + y.toInt < 2147483648) : (x + y).toInt = x.toInt + y.toInt := i_add h.1 h.2
theorem i_subS {x y : Int32} (h : -2147483648 ≤ x.toInt - y.toInt ∧ x.toInt - y.toInt < 2147483648) : (x - y).toInt = x.toInt - y.toInt := i_sub h.1 h.2
theorem i_mulS {x y : Int32} (h : -2147483648 ≤ x.toInt * y.toInt ∧ x.toInt * y.toInt < 2147483648) : (x * y).toInt = x.toInt * y.toInt := i_mul h.1 h.2
theorem dc_letB {α τ : Type} {e : α} {f : α → Option τ} {F : τ → Prop} (k : ∀ x, x = e → dc_wp (f x) F) : dc_wp (dc_let e f) F := k e rfl
theorem dc_letN {α τ : Type} {e : α} {f : α → Option τ} {F : τ → Prop} (k : dc_wp (f e) F) : dc_wp (dc_let e f) F := k
theorem dc_ixI {τ : Type} {i : Int32} {n : Nat} {f : Nat → Option τ} {F : τ → Prop} (h0 : 0 ≤ i.toInt) (h1 : i.toInt < n) (k : ∀ j : Nat, (j : Int) = i.toInt → dc_wp (f j) F) : dc_wp ((dc_ix i n).bind f) F := by
  have e := i_nat h0
  have hd : dc_ix i n = some i.toNatClampNeg := by
    unfold dc_ix
    rw [if_neg]
    rintro (h | h)
    · have := i_lt.mp h; have : (0 : Int32).toInt = 0 := rfl; omega
    · omega
  rw [hd]
  exact k _ e
theorem dc_zbI {τ : Type} {v : Int32} {f : Unit → Option τ} {F : τ → Prop} (h : v = 0 ∨ v = 1) (k : dc_wp (f ()) F) : dc_wp ((dc_zb v).bind f) F := by
  unfold dc_zb; rw [if_pos h]; exact k
theorem dc_ifI {τ : Type} {c : Prop} [Decidable c] {E1 E2 : Option τ} {F : τ → Prop} (k1 : c → dc_wp E1 F) (k2 : ¬ c → dc_wp E2 F) : dc_wp (if c then E1 else E2) F := by
  by_cases h : c
  · rw [if_pos h]; exact k1 h
  · rw [if_neg h]; exact k2 h
theorem dc_callI {τ ρ : Type} {E : Option τ} {f : τ → Option ρ} {P : τ → Prop} {F : ρ → Prop} (h : dc_wp E P) (k : ∀ q, P q → dc_wp (f q) F) : dc_wp (E.bind f) F := dc_bindI (dc_mono h k)
theorem dc_loopI {α β ρ : Type} {step : α → Option (α ⊕ β)} {f : β → Option ρ} {x : α} {F : ρ → Prop} (I : α → Prop) (μ : α → Nat) (h0 : I x) (hs : ∀ x, I x → dc_wp (step x) (Sum.elim (fun y => I y ∧ μ y < μ x) (fun z => dc_wp (f z) F))) : dc_wp ((dc_it step x).bind f) F :=
  dc_bindI (dc_itI I μ hs x h0)
-- reading fields of a changed state
theorem md_i1 (S : md_S) (k : Nat) (v : Int32) (j : Nat) : (md_i S k v).1 j = if j = k then v else S.1 j := rfl
theorem md_i2 (S : md_S) (k : Nat) (v : Int32) : (md_i S k v).2 = S.2 := rfl
theorem md_a1 (S : md_S) (k i : Nat) (v : Int32) : (md_a S k i v).1 = S.1 := rfl
theorem md_a2 (S : md_S) (k i : Nat) (v : Int32) (j : Nat) : (md_a S k i v).2.1 j = if j = k then upd (S.2.1 k) i v else S.2.1 j := rfl
theorem md_a3 (S : md_S) (k i : Nat) (v : Int32) : (md_a S k i v).2.2 = S.2.2 := rfl
theorem md_w1 (S : md_S) (v : Int64) : (md_w S v).1 = S.1 := rfl
theorem md_w2 (S : md_S) (v : Int64) : (md_w S v).2.1 = S.2.1 := rfl
theorem md_w3 (S : md_S) (v : Int64) : (md_w S v).2.2.1 = v := rfl
theorem md_w4 (S : md_S) (v : Int64) : (md_w S v).2.2.2 = S.2.2.2 := rfl
theorem upd_at (f : Nat → Int32) (k : Nat) (v : Int32) (j : Nat) : upd f k v j = if j = k then v else f j := rfl
theorem dc_ixJ {τ : Type} {i : Int32} {n : Nat} {f : Nat → Option τ} {F : τ → Prop} (m : Int32) (hm : m.toInt = (n : Int)) (h0 : 0 ≤ i) (h1 : i < m) (k : ∀ j : Nat, j = i.toNatClampNeg → dc_wp (f j) F) : dc_wp ((dc_ix i n).bind f) F := by
  have a : 0 ≤ i.toInt := Int32.le_iff_toInt_le.mp h0
  have b : i.toInt < m.toInt := i_lt.mp h1
  refine dc_ixI a (by omega) (fun j hj => k j ?_)
  have := i_nat a
  omega
theorem dc_callE {τ ρ : Type} {E : Option τ} {f : τ → Option ρ} {v : τ} {F : ρ → Prop} (h : E = some v) (k : ∀ q, q = v → dc_wp (f q) F) : dc_wp (E.bind f) F := by
  rw [h]; exact k v rfl
theorem nat_lt {x y : Int32} (h0 : 0 ≤ x) (h : x < y) : x.toNatClampNeg < y.toNatClampNeg := by
  have a : 0 ≤ x.toInt := Int32.le_iff_toInt_le.mp h0
  have b := i_lt.mp h
  have c := i_nat a
  have d := i_nat (x := y) (by omega)
  omega
theorem dc_loopJ {α β ρ : Type} {step : α → Option (α ⊕ β)} {f : β → Option ρ} {x : α} {F : ρ → Prop} (I : α → Prop) (μ : α → Int32) (h0 : I x) (hs : ∀ x, I x → dc_wp (step x) (Sum.elim (fun y => I y ∧ (0 ≤ μ y ∧ μ y < μ x)) (fun z => dc_wp (f z) F))) : dc_wp ((dc_it step x).bind f) F :=
  dc_loopI I (fun q => (μ q).toNatClampNeg) h0 (fun x hx => dc_mono (hs x hx) (fun q hq => by
    cases q with
    | inl y => exact ⟨hq.1, nat_lt hq.2.1 hq.2.2⟩
    | inr z => exact hq))
