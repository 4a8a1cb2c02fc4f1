/-! what else a tree keeps: shapes, signals that hold, tests, how deep, local signals; how many nodes -/
def twd : tT → Nat
  | .unary x a => (if (lT x).1 = 6 then 1 else 0) + twd a
  | .binary x a b => max (twd a) ((if (lT x).1 = 5 then 1 else 0) + twd b)
  | _ => 0
def tdp : tT → Nat
  | .unary x a => (if (lT x).1 = 8 then 1 else 0) + tdp a
  | .binary _ a b => max (tdp a) (tdp b)
  | _ => 0
def txx (xx : Nat → Int32) (e : Int32) : Int := if e = -1 then 0 else (xx e.toInt.toNat).toInt
def tsm (xx : Nat → Int32) : tT → Int
  | .const x => txx xx (lT x).2.2.2.2.2
  | .unary x a => txx xx (lT x).2.2.2.2.2 + tsm xx a
  | .binary x a b => txx xx (lT x).2.2.2.2.2 + (tsm xx a + tsm xx b)
  | _ => 0
def lcT : tT → List Int32
  | .unary x a => if (lT x).1 = 10 then (lT x).2.2.1 :: lcT a else lcT a
  | .binary _ a b => lcT a ++ lcT b
  | _ => []
/-- a test that stands: its pieces lie from lo on, below hi, and their signals hold -/
def pOk (kk ff xx : Nat → Int32) (lo hi : Int) (V : Int32 → Prop) (e : Int32) : Prop := (0 ≤ e.toInt ∧ e.toInt < hi ∧ 1 ≤ (xx e.toInt.toNat).toInt ∧ lo ≤ e.toInt - (xx e.toInt.toNat).toInt + 1) ∧ ∀ k : Nat, e.toInt - (xx e.toInt.toNat).toInt < (k : Int) → (k : Int) ≤ e.toInt → kk k = 0 → V (ff k)
def lb0 (V : Int32 → Prop) (x : lbT) : Prop := ((x.1 = 0 ∨ x.1 = 1 ∨ x.1 = 9) ∨ (x.1 = 2 ∧ V x.2.2.1)) ∧ x.2.2.2.2.2 = -1 ∧ (¬ x.2.2.2.1 = -1 → x.1 = 9)
def lb1 (θ : (Int32 → Prop) → Int32 → Prop) (V : Int32 → Prop) (x : lbT) : Prop := ((x.1 = 4 ∧ θ V x.2.2.2.2.2) ∨ ((x.1 = 6 ∨ x.1 = 8 ∨ x.1 = 10) ∧ x.2.2.2.2.2 = -1)) ∧ (¬ x.2.2.2.1 = -1 → x.1 = 8) ∧ (x.1 = 8 → x.2.2.1 = -1)
def lb2 (θ : (Int32 → Prop) → Int32 → Prop) (V : Int32 → Prop) (x : lbT) : Prop := ((x.1 = 3 ∧ θ V x.2.2.2.2.2) ∨ ((x.1 = 5 ∨ x.1 = 7) ∧ x.2.2.2.2.2 = -1)) ∧ x.2.2.2.1 = -1
def vL (V : Int32 → Prop) (x : lbT) : Int32 → Prop := if x.1 = 10 then (fun y => V y ∨ y = x.2.2.1) else V
def okT (θ : (Int32 → Prop) → Int32 → Prop) : (Int32 → Prop) → tT → Prop
  | V, .const x => lb0 V (lT x)
  | V, .unary x a => lb1 θ V (lT x) ∧ okT θ (vL V (lT x)) a
  | V, .binary x a b => lb2 θ V (lT x) ∧ okT θ V a ∧ okT θ V b
  | _, _ => False
def FU (θ : (Int32 → Prop) → Int32 → Prop) (xx : Nat → Int32) (V : Int32 → Prop) (T : tT) (c : Nat) (t : Int) (L : List Int32) : Prop := okT θ V T ∧ (twd T ≤ c / 100 ∧ tdp T ≤ c % 100) ∧ tsm xx T = t ∧ lcT T = L
section FUS
variable {θ θ' : (Int32 → Prop) → Int32 → Prop} {xx xx' : Nat → Int32} {V V' : Int32 → Prop} {T T1 T2 : tT} {c c' c1 c2 : Nat} {t t' t1' t2' : Int} {L L1 L2 : List Int32} {l e sv s m : Int32}
theorem txx_n {x : lbT} (h : x.2.2.2.2.2 = -1) : txx xx x.2.2.2.2.2 = 0 := if_pos h
theorem fu0 {x : lbT} (h : lb0 V x) : FU θ xx V (t0 x) c 0 [] := by
  refine ⟨?_, ⟨Nat.zero_le _, Nat.zero_le _⟩, ?_, rfl⟩
  · show lb0 V (lT (tL x))
    rw [lT_tL]; exact h
  · show txx xx (lT (tL x)).2.2.2.2.2 = 0
    rw [lT_tL]; exact txx_n h.2.1
theorem fu1 {x : lbT} (h : lb1 θ V x) (g : FU θ xx (vL V x) T c t L) (hc : (if x.1 = 6 then 1 else 0) + c / 100 ≤ c' / 100 ∧ (if x.1 = 8 then 1 else 0) + c % 100 ≤ c' % 100) : FU θ xx V (t1 x T) c' (txx xx x.2.2.2.2.2 + t) (if x.1 = 10 then x.2.2.1 :: L else L) := by
  obtain ⟨g1, g2, g3, g4⟩ := g
  refine ⟨?_, ?_, ?_, ?_⟩
  · show lb1 θ V (lT (tL x)) ∧ okT θ (vL V (lT (tL x))) T
    rw [lT_tL]; exact ⟨h, g1⟩
  · show (if (lT (tL x)).1 = 6 then 1 else 0) + twd T ≤ c' / 100 ∧ (if (lT (tL x)).1 = 8 then 1 else 0) + tdp T ≤ c' % 100
    rw [lT_tL]; omega
  · show txx xx (lT (tL x)).2.2.2.2.2 + tsm xx T = _
    rw [lT_tL, g3]
  · show (if (lT (tL x)).1 = 10 then (lT (tL x)).2.2.1 :: lcT T else lcT T) = _
    rw [lT_tL, g4]
theorem fu2 {x : lbT} (h : lb2 θ V x) (g : FU θ xx V T1 c1 t1' L1) (k : FU θ xx V T2 c2 t2' L2) (h1 : c1 / 100 ≤ c / 100 ∧ c1 % 100 ≤ c % 100) (h2 : (if x.1 = 5 then 1 else 0) + c2 / 100 ≤ c / 100 ∧ c2 % 100 ≤ c % 100) : FU θ xx V (t2 x T1 T2) c (txx xx x.2.2.2.2.2 + (t1' + t2')) (L1 ++ L2) := by
  obtain ⟨g1, g2, g3, g4⟩ := g
  obtain ⟨k1, k2, k3, k4⟩ := k
  refine ⟨?_, ?_, ?_, ?_⟩
  · show lb2 θ V (lT (tL x)) ∧ okT θ V T1 ∧ okT θ V T2
    rw [lT_tL]; exact ⟨h, g1, k1⟩
  · show max (twd T1) ((if (lT (tL x)).1 = 5 then 1 else 0) + twd T2) ≤ c / 100 ∧ max (tdp T1) (tdp T2) ≤ c % 100
    rw [lT_tL]
    refine ⟨Nat.max_le.mpr ⟨by omega, by omega⟩, Nat.max_le.mpr ⟨by omega, by omega⟩⟩
  · show txx xx (lT (tL x)).2.2.2.2.2 + (tsm xx T1 + tsm xx T2) = _
    rw [lT_tL, g3, k3]
  · show lcT T1 ++ lcT T2 = _
    rw [g4, k4]
theorem vL_m {x : lbT} (hV : ∀ y, V y → V' y) : ∀ y, vL V x y → vL V' x y := by
  intro y hy
  unfold vL at hy ⊢
  by_cases c : x.1 = 10
  · rw [if_pos c] at hy ⊢
    exact hy.imp (hV y) id
  · rw [if_neg c] at hy ⊢
    exact hV y hy
theorem okT_V (hθ : ∀ V V' e, (∀ y, V y → V' y) → θ V e → θ' V' e) : ∀ (T : tT) (V V' : Int32 → Prop), (∀ y, V y → V' y) → okT θ V T → okT θ' V' T
  | .const x, V, V', hV, h => ⟨h.1.imp id (fun z => ⟨z.1, hV _ z.2⟩), h.2⟩
  | .unary x a, V, V', hV, h => ⟨⟨h.1.1.imp (fun z => ⟨z.1, hθ _ _ _ hV z.2⟩) id, h.1.2⟩, okT_V hθ a _ _ (vL_m hV) h.2⟩
  | .binary x a b, V, V', hV, h => ⟨⟨h.1.1.imp (fun z => ⟨z.1, hθ _ _ _ hV z.2⟩) id, h.1.2⟩, okT_V hθ a _ _ hV h.2.1, okT_V hθ b _ _ hV h.2.2⟩
theorem FU.up (h : FU θ xx V T c t L) (hc : c / 100 ≤ c' / 100 ∧ c % 100 ≤ c' % 100) : FU θ xx V T c' t L := ⟨h.1, ⟨Nat.le_trans h.2.1.1 hc.1, Nat.le_trans h.2.1.2 hc.2⟩, h.2.2⟩
theorem FU.eqt (h : FU θ xx V T c t L) (ht : t = t') : FU θ xx V T c t' L := by rw [← ht]; exact h
/-- one below, without a test -/
theorem fu1n {x : lbT} (hk : (x.1 = 6 ∨ x.1 = 8) ∧ x.2.2.2.2.2 = -1 ∧ (¬ x.2.2.2.1 = -1 → x.1 = 8) ∧ (x.1 = 8 → x.2.2.1 = -1)) (g : FU θ xx V T c t L) (hc : (if x.1 = 6 then 1 else 0) + c / 100 ≤ c' / 100 ∧ (if x.1 = 8 then 1 else 0) + c % 100 ≤ c' % 100) : FU θ xx V (t1 x T) c' t L := by
  have n10 : ¬ x.1 = 10 := by
    rcases hk.1 with z | z <;> (rw [z]; decide)
  have e : vL V x = V := if_neg n10
  have k := fu1 (x := x) (θ := θ) (xx := xx) (V := V) (T := T) (c := c) (t := t) (L := L) ⟨Or.inr ⟨hk.1.imp id Or.inl, hk.2.1⟩, hk.2.2⟩ (by rw [e]; exact g) hc
  rw [txx_n hk.2.1, if_neg n10, Int.zero_add] at k
  exact k
/-- one below, with a test -/
theorem fu1t {x : lbT} (hk : x.1 = 4 ∧ x.2.2.2.1 = -1) (hx : θ V x.2.2.2.2.2) (g : FU θ xx V T c t L) : FU θ xx V (t1 x T) c (txx xx x.2.2.2.2.2 + t) L := by
  have n10 : ¬ x.1 = 10 := by rw [hk.1]; decide
  have n6 : ¬ x.1 = 6 := by rw [hk.1]; decide
  have n8 : ¬ x.1 = 8 := by rw [hk.1]; decide
  have e : vL V x = V := if_neg n10
  have k := fu1 (x := x) (θ := θ) (xx := xx) (V := V) (T := T) (c := c) (t := t) (L := L) ⟨Or.inl ⟨hk.1, hx⟩, fun z => absurd hk.2 z, fun z => absurd z n8⟩ (by rw [e]; exact g) (c' := c) (by rw [if_neg n6, if_neg n8]; omega)
  rw [if_neg n10] at k
  exact k
/-- a local signal -/
theorem fu1l {x : lbT} (hk : x.1 = 10 ∧ x.2.2.2.2.2 = -1 ∧ x.2.2.2.1 = -1) (g : FU θ xx (fun y => V y ∨ y = x.2.2.1) T c t L) : FU θ xx V (t1 x T) c t (x.2.2.1 :: L) := by
  have n6 : ¬ x.1 = 6 := by rw [hk.1]; decide
  have n8 : ¬ x.1 = 8 := by rw [hk.1]; decide
  have e : vL V x = (fun y => V y ∨ y = x.2.2.1) := if_pos hk.1
  have k := fu1 (x := x) (θ := θ) (xx := xx) (V := V) (T := T) (c := c) (t := t) (L := L) ⟨Or.inr ⟨Or.inr (Or.inr hk.1), hk.2.1⟩, fun z => absurd hk.2.2 z, fun z => absurd z n8⟩ (by rw [e]; exact g) (c' := c) (by rw [if_neg n6, if_neg n8]; omega)
  rw [if_pos hk.1, txx_n hk.2.1, Int.zero_add] at k
  exact k
theorem fu2n {x : lbT} (hk : (x.1 = 5 ∨ x.1 = 7) ∧ x.2.2.2.2.2 = -1 ∧ x.2.2.2.1 = -1) (g : FU θ xx V T1 c1 t1' L1) (k : FU θ xx V T2 c2 t2' L2) (h1 : c1 / 100 ≤ c / 100 ∧ c1 % 100 ≤ c % 100) (h2 : (if x.1 = 5 then 1 else 0) + c2 / 100 ≤ c / 100 ∧ c2 % 100 ≤ c % 100) : FU θ xx V (t2 x T1 T2) c (t1' + t2') (L1 ++ L2) := by
  have k := fu2 (x := x) ⟨Or.inr ⟨hk.1, hk.2.1⟩, hk.2.2⟩ g k h1 h2
  rw [txx_n hk.2.1, Int.zero_add] at k
  exact k
theorem fu2t {x : lbT} (hk : x.1 = 3 ∧ x.2.2.2.1 = -1) (hx : θ V x.2.2.2.2.2) (g : FU θ xx V T1 c1 t1' L1) (k : FU θ xx V T2 c2 t2' L2) (h1 : c1 / 100 ≤ c / 100 ∧ c1 % 100 ≤ c % 100) (h2 : c2 / 100 ≤ c / 100 ∧ c2 % 100 ≤ c % 100) : FU θ xx V (t2 x T1 T2) c (txx xx x.2.2.2.2.2 + (t1' + t2')) (L1 ++ L2) := by
  have n5 : ¬ x.1 = 5 := by rw [hk.1]; decide
  exact fu2 (x := x) ⟨Or.inl ⟨hk.1, hx⟩, hk.2⟩ g k h1 (by rw [if_neg n5]; omega)
theorem FU_not : FU θ xx V (Tnot l) c 0 [] := fu0 ⟨Or.inl (Or.inl rfl), rfl, fun z => absurd rfl z⟩
theorem FU_pau : FU θ xx V (Tpau l) c 0 [] := fu0 ⟨Or.inl (Or.inr (Or.inl rfl)), rfl, fun z => absurd rfl z⟩
theorem FU_exi {x : lbT} (hk : x.1 = 9 ∧ x.2.2.2.2.2 = -1) : FU θ xx V (t0 x) c 0 [] := fu0 ⟨Or.inl (Or.inr (Or.inr hk.1)), hk.2, fun _ => hk.1⟩
theorem FU_emi (h : V s) : FU θ xx V (Temi l s) c 0 [] := fu0 ⟨Or.inr ⟨rfl, h⟩, rfl, fun z => absurd rfl z⟩
theorem FU_seq (g : FU θ xx V T1 c1 t1' L1) (k : FU θ xx V T2 c2 t2' L2) (h1 : c1 / 100 ≤ c / 100 ∧ c1 % 100 ≤ c % 100) (h2 : 1 + c2 / 100 ≤ c / 100 ∧ c2 % 100 ≤ c % 100) : FU θ xx V (Tseq l T1 T2) c (t1' + t2') (L1 ++ L2) := fu2n ⟨Or.inl rfl, rfl, rfl⟩ g k h1 (by rw [if_pos rfl]; exact h2)
theorem FU_both (g : FU θ xx V T1 c1 t1' L1) (k : FU θ xx V T2 c2 t2' L2) (h1 : c1 / 100 ≤ c / 100 ∧ c1 % 100 ≤ c % 100) (h2 : c2 / 100 ≤ c / 100 ∧ c2 % 100 ≤ c % 100) : FU θ xx V (Tboth l T1 T2) c (t1' + t2') (L1 ++ L2) := fu2n ⟨Or.inr rfl, rfl, rfl⟩ g k h1 (by rw [if_neg (show ¬ (7 : Int32) = 5 by decide)]; omega)
theorem FU_pre (hx : θ V e) (g : FU θ xx V T1 c1 t1' L1) (k : FU θ xx V T2 c2 t2' L2) (h1 : c1 / 100 ≤ c / 100 ∧ c1 % 100 ≤ c % 100) (h2 : c2 / 100 ≤ c / 100 ∧ c2 % 100 ≤ c % 100) : FU θ xx V (Tpre l e T1 T2) c (txx xx e + (t1' + t2')) (L1 ++ L2) := fu2t (x := (3, l, -1, -1, -1, e)) ⟨rfl, rfl⟩ hx g k h1 h2
theorem FU_sup (hx : θ V e) (g : FU θ xx V T c t L) : FU θ xx V (Tsup l e T) c (txx xx e + t) L := fu1t (x := (4, l, -1, -1, -1, e)) ⟨rfl, rfl⟩ hx g
theorem FU_loop (g : FU θ xx V T c t L) (hc : 1 + c / 100 ≤ c' / 100 ∧ c % 100 ≤ c' % 100) : FU θ xx V (Tloop l T) c' t L := fu1n ⟨Or.inl rfl, rfl, fun z => absurd rfl z, fun z => absurd z (show ¬ (6 : Int32) = 8 by decide)⟩ g (by rw [if_pos rfl, if_neg (show ¬ (6 : Int32) = 8 by decide)]; omega)
theorem FU_trp (g : FU θ xx V T c t L) (hc : c / 100 ≤ c' / 100 ∧ 1 + c % 100 ≤ c' % 100) : FU θ xx V (Ttrp l m sv T) c' t L := fu1n ⟨Or.inr rfl, rfl, fun _ => rfl, fun _ => rfl⟩ g (by rw [if_neg (show ¬ (8 : Int32) = 6 by decide), if_pos rfl]; omega)
theorem FU_lcl {n' : Int32} (g : FU θ xx (fun y => V y ∨ y = n') T c t L) : FU θ xx V (t1 (10, l, n', -1, -1, -1) T) c t (n' :: L) := fu1l (x := (10, l, n', -1, -1, -1)) ⟨rfl, rfl, rfl⟩ g
theorem FU_halt (hc : 1 ≤ c / 100) : FU θ xx V (Thalt l) c 0 [] := FU_loop (c := 0) FU_pau (by omega)
theorem FU_sus (h : V s) (hc : 2 ≤ c / 100) : FU θ xx V (Tsus l s) c 0 [] := FU_loop (c := 100) (FU_seq (c1 := 0) (c2 := 0) (FU_emi h) FU_pau (by omega) (by omega)) (by omega)
theorem FU_wat (h : θ V e) (hc : 2 ≤ c / 100) : FU θ xx V (Twat l e sv) c (txx xx e) [] := by
  have k := FU_loop (l := l) (c' := c) (FU_seq (l := l) (c := 100) (c1 := 0) (c2 := 0) (T1 := Tpau l) (θ := θ) (xx := xx) (V := V) FU_pau (FU_pre (l := l) (c := 0) (c1 := 0) (c2 := 0) h (FU_exi (x := (9, l, 2, -1, sv, -1)) ⟨rfl, rfl⟩) (FU_not (l := l)) (by omega) (by omega)) (by omega) (by omega)) (by omega)
  exact k.eqt (by omega)
theorem FU_awa (h : θ V e) (hc : 2 ≤ c / 100 ∧ 1 ≤ c % 100) : FU θ xx V (Tawa l e sv) c (txx xx e) [] := FU_trp (c := 200) (FU_wat h (by omega)) (by omega)
theorem FU_abo (g : FU θ xx V T1 c1 t1' L1) (k : FU θ xx V T2 c2 t2' L2) (h1 : c1 / 100 ≤ c / 100 ∧ 1 + c1 % 100 ≤ c % 100) (h0 : 1 ≤ c / 100) (h2 : c2 / 100 ≤ c / 100 ∧ 1 + c2 % 100 ≤ c % 100) : FU θ xx V (Tabo l sv T1 T2) c (t1' + t2') (L1 ++ L2) := by
  have k := FU_trp (l := l) (m := -1) (sv := sv) (c' := c) (FU_both (l := l) (c := c - 1) (c1 := c - 1) (FU_seq (l := l) (c := c - 1) (c2 := 0) g (FU_exi (x := (9, l, 2, -1, sv, -1)) ⟨rfl, rfl⟩) (by omega) (by omega)) k (by omega) (by omega)) (by omega)
  rw [List.append_nil, Int.add_zero] at k
  exact k
theorem FU_agn (h : θ V e) (g : FU θ xx V T c1 t L) (h1 : 1 + c1 / 100 ≤ c / 100 ∧ 1 + c1 % 100 ≤ c % 100) (h2 : 3 ≤ c / 100) : FU θ xx V (Tagn l e sv T) c (txx xx e + t + txx xx e) L := by
  have k := FU_loop (l := l) (c' := c) (c := c - 100) (FU_abo (l := l) (sv := sv) (c1 := c - 101) (c2 := 200) (FU_sup (l := l) h (FU_seq (l := l) (c := c - 101) (c2 := 100) g (FU_halt (l := l) (by omega)) (by omega) (by omega))) (FU_wat (l := l) (sv := sv) (c := 200) h (by omega)) (by omega) (by omega) (by omega)) (by omega)
  rw [List.append_nil, List.append_nil, Int.add_zero] at k
  exact k
end FUS
