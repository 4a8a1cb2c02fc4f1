/-! trees: a type of the library that has leaves, one and two below, with a name at each node -/
abbrev tT : Type := Lean.ParserDescr
/-- a node's label: kind, line, number, name of trap, serial of trap, test -/
abbrev lbT : Type := Int32 × Int32 × Int32 × Int32 × Int32 × Int32
def e32 (x : Int32) : Nat := (x.toInt + 2147483648).toNat
def d32 (m : Nat) : Int32 := Int32.ofInt ((m : Int) - 2147483648)
theorem d32_e {x : Int32} : d32 (e32 x) = x := by
  have h := i_lo x
  unfold d32 e32
  rw [show (((x.toInt + 2147483648).toNat : Nat) : Int) - 2147483648 = x.toInt by omega]
  exact Int32.ofInt_toInt x
def tL (x : lbT) : Lean.Name := .num (.num (.num (.num (.num (.num .anonymous (e32 x.1)) (e32 x.2.1)) (e32 x.2.2.1)) (e32 x.2.2.2.1)) (e32 x.2.2.2.2.1)) (e32 x.2.2.2.2.2)
def lT : Lean.Name → lbT
  | .num (.num (.num (.num (.num (.num _ a) b) c) d) e) f => (d32 a, d32 b, d32 c, d32 d, d32 e, d32 f)
  | _ => (0, 0, 0, 0, 0, 0)
theorem lT_tL {x : lbT} : lT (tL x) = x := by
  show (d32 (e32 x.1), d32 (e32 x.2.1), d32 (e32 x.2.2.1), d32 (e32 x.2.2.2.1), d32 (e32 x.2.2.2.2.1), d32 (e32 x.2.2.2.2.2)) = x
  rw [d32_e, d32_e, d32_e, d32_e, d32_e, d32_e]
def t0 (x : lbT) : tT := .const (tL x)
def t1 (x : lbT) (a : tT) : tT := .unary (tL x) a
def t2 (x : lbT) (a b : tT) : tT := .binary (tL x) a b
def tsz : tT → Nat
  | .const _ => 1
  | .unary _ a => 1 + tsz a
  | .binary _ a b => 1 + tsz a + tsz b
  | _ => 1
def tlab : tT → lbT
  | .const x => lT x
  | .unary x _ => lT x
  | .binary x _ _ => lT x
  | _ => (0, 0, 0, 0, 0, 0)
theorem tsz_t2 {x : lbT} {a b : tT} : tsz (t2 x a b) = 1 + tsz a + tsz b := rfl
