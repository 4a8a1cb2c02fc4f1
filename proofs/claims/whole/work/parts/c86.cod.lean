/-! codes, empty loops and traps of a tree, as sets; what a statement leaves behind -/
def xTh (X Y : Nat → Prop) (k : Nat) : Prop := (X 0 ∧ ((¬ k = 0 ∧ X k) ∨ Y k)) ∨ (¬ X 0 ∧ X k)
def xCa (X : Nat → Prop) (k : Nat) : Prop := (k = 0 ∧ (X 0 ∨ X 2)) ∨ (k = 1 ∧ X 1) ∨ (2 ≤ k ∧ X (k + 1))
def xPa (X Y : Nat → Prop) (k : Nat) : Prop := (X k ∧ ∃ i, i ≤ k ∧ Y i) ∨ (Y k ∧ ∃ i, i ≤ k ∧ X i)
def ixE (s : Int32) : List Int32 → Nat
  | [] => 0
  | t :: r => if s = t then 0 else ixE s r + 1
def cod : tT → List Int32 → Nat → Prop
  | .const x, E, k => ((lT x).1 = 9 ∧ k = 2 + ixE (lT x).2.2.2.2.1 E) ∨ ((lT x).1 = 1 ∧ k = 1) ∨ (¬ (lT x).1 = 9 ∧ ¬ (lT x).1 = 1 ∧ k = 0)
  | .unary x a, E, k => ((lT x).1 = 8 ∧ xCa (cod a ((lT x).2.2.2.2.1 :: E)) k) ∨ (¬ (lT x).1 = 8 ∧ cod a E k)
  | .binary x a b, E, k => ((lT x).1 = 5 ∧ xTh (cod a E) (cod b E) k) ∨ ((lT x).1 = 7 ∧ xPa (cod a E) (cod b E) k) ∨ (¬ (lT x).1 = 5 ∧ ¬ (lT x).1 = 7 ∧ (cod a E k ∨ cod b E k))
  | _, _, _ => False
/-- the line of the first loop whose statement may end at once -/
def feP : tT → List Int32 → Option Int32 → Prop
  | .const _, _, o => o = none
  | .unary x a, E, o => ((lT x).1 = 8 ∧ feP a ((lT x).2.2.2.2.1 :: E) o) ∨ ((lT x).1 = 6 ∧ cod a E 0 ∧ o = some (lT x).2.1) ∨ ((lT x).1 = 6 ∧ ¬ cod a E 0 ∧ feP a E o) ∨ (¬ (lT x).1 = 8 ∧ ¬ (lT x).1 = 6 ∧ feP a E o)
  | .binary _ a b, E, o => (∃ l, feP a E (some l) ∧ o = some l) ∨ (feP a E none ∧ feP b E o)
  | _, _, _ => False
/-- the traps: name and serial -/
def tpT : tT → List (Int32 × Int32)
  | .const _ => []
  | .unary x a => if (lT x).1 = 8 then ((lT x).2.2.2.1, (lT x).2.2.2.2.1) :: tpT a else tpT a
  | .binary _ a b => tpT a ++ tpT b
  | _ => []
/-- each exit has its trap around it -/
def wfT : tT → List (Int32 × Int32) → Prop
  | .const x, E => (lT x).1 = 9 → ((lT x).2.2.2.1 = -1 ∧ (lT x).2.2.1 = 2 ∧ E.head? = some (-1, (lT x).2.2.2.2.1)) ∨ (¬ (lT x).2.2.2.1 = -1 ∧ ((lT x).2.2.2.1, (lT x).2.2.2.2.1) ∈ E)
  | .unary x a, E => if (lT x).1 = 8 then wfT a (((lT x).2.2.2.1, (lT x).2.2.2.2.1) :: E) else wfT a E
  | .binary _ a b, E => wfT a E ∧ wfT b E
  | _, _ => False
def cB (c : Int32) (X : Nat → Prop) : Prop := (∀ k, c.toBitVec.getLsbD k = true ↔ X k) ∧ ∀ k, X k → k < 28
/-- the traps that hold here: names and serials, innermost first -/
def EOK (E : List (Int32 × Int32)) (s tm : Int32) : Prop := (0 ≤ s.toInt ∧ 0 ≤ tm.toInt) ∧ E.length ≤ 24 ∧ (∀ p, p ∈ E → (0 ≤ p.1.toInt ∧ p.1.toInt < tm.toInt) ∧ 0 < p.2.toInt ∧ p.2.toInt ≤ s.toInt) ∧ (E.map Prod.fst).Nodup ∧ (E.map Prod.snd).Nodup
/-- a statement T read from place p to p': codes c; serials s to s', named traps tm to tm', the first empty loop at a in line l, then a' and l' -/
def BU (E : List (Int32 × Int32)) (s tm a l : Int32) (p : Int) (T : tT) (c s' tm' a' l' : Int32) (p' : Int) : Prop :=
  cB c (cod T (E.map Prod.snd)) ∧
  (s.toInt ≤ s'.toInt ∧ tm.toInt ≤ tm'.toInt ∧ p ≤ p') ∧
  ((a.toInt < p → a' = a ∧ l' = l) ∧ (a = 32768 → (feP T (E.map Prod.snd) none ∧ a' = 32768) ∨ (∃ y, feP T (E.map Prod.snd) (some y) ∧ l' = y ∧ p ≤ a'.toInt ∧ a'.toInt < p'))) ∧
  (∀ x, x ∈ tpT T → (s.toInt < x.2.toInt ∧ x.2.toInt ≤ s'.toInt) ∧ (x.1 = -1 ∨ (tm.toInt ≤ x.1.toInt ∧ x.1.toInt < tm'.toInt))) ∧
  ((tpT T).map Prod.snd).Nodup ∧ ((tpT T).map Prod.fst).Pairwise (fun x y => x = y → x = -1) ∧ wfT T E
/-- how statements are put together -/
def BUalg : Prop := ∀ (E : List (Int32 × Int32)) (s tm a l : Int32) (p : Int), EOK E s tm → (a.toInt < p ∨ a = 32768) → s.toInt ≤ 100000 →
  (∀ ln p', p ≤ p' → BU E s tm a l p (Tnot ln) 1 s tm a l p' ∧ BU E s tm a l p (Tpau ln) 2 s tm a l p' ∧ BU E s tm a l p (Thalt ln) 2 s tm a l p' ∧ ∀ y, BU E s tm a l p (Temi ln y) 1 s tm a l p' ∧ BU E s tm a l p (Tsus ln y) 2 s tm a l p') ∧
  (∀ ln e p', p ≤ p' → BU E s tm a l p (Tawa ln e (s + 1)) 2 (s + 1) tm a l p') ∧
  (∀ ln m sv i p', p ≤ p' → E[i]? = some (m, sv) → BU E s tm a l p (t0 (9, ln, -1, m, sv, -1)) ((4 : Int32) <<< (Int32.ofNat i &&& 31)) s tm a l p') ∧
  (∀ T1 T2 ln c1 c2 s1 s2 tm1 tm2 a1 a2 l1 l2 p1 p2, BU E s tm a l p T1 c1 s1 tm1 a1 l1 p1 → BU E s1 tm1 a1 l1 p1 T2 c2 s2 tm2 a2 l2 p2 → s2.toInt ≤ 100000 → (∀ c, mm_then c1 c2 = some c → BU E s tm a l p (Tseq ln T1 T2) c s2 tm2 a2 l2 p2) ∧ (∀ c, mm_pairs c1 c2 = some c → BU E s tm a l p (Tboth ln T1 T2) c s2 tm2 a2 l2 p2) ∧ (∀ e, BU E s tm a l p (Tpre ln e T1 T2) (c1 ||| c2) s2 tm2 a2 l2 p2)) ∧
  (∀ T1 ln c1 s1 tm1 a1 l1 p0 p1, BU E s tm a l p T1 c1 s1 tm1 a1 l1 p1 → p0 ≤ p → (a.toInt < p0 ∨ a = 32768) → s1.toInt ≤ 99000 → (∀ e, BU E s tm a l p0 (Tsup ln e T1) c1 s1 tm1 a1 l1 p1) ∧ (∀ k, BU E s tm a l p0 (t1 (10, ln, k, -1, -1, -1) T1) c1 s1 tm1 a1 l1 p1) ∧ BU E s tm a l p0 T1 c1 s1 tm1 a1 l1 p1 ∧
    (∀ g : Int32, g.toInt = p0 → p0 < p → p ≤ 32768 → BU E s tm a l p0 (Tloop ln T1) c1 s1 tm1 (if (c1 &&& 1) = 1 ∧ g < a1 then g else a1) (if (c1 &&& 1) = 1 ∧ g < a1 then ln else l1) p1) ∧
    (∀ weak e x c, mm_pairs (cAb2 (cAb c1)) 2 = some x → mm_caught x = some c → BU E s tm a l p0 (Tabo ln (s1 + 1) (Trun weak ln e T1) (Twat ln e (s1 + 1))) c (s1 + 1) tm1 a1 l1 p1) ∧
    (∀ e y x c, mm_then c1 2 = some y → mm_pairs (cAb2 (cAb y)) 2 = some x → mm_caught x = some c → BU E s tm a l p0 (Tagn ln e (s1 + 1) T1) c (s1 + 1) tm1 a1 l1 p1 ∧ ∀ y' x' c' d, mm_then c1 2 = some y' → mm_pairs (cAb2 (cAb y')) 2 = some x' → mm_caught x' = some c' → mm_then 2 c' = some d → BU E s tm a l p0 (Tseq ln (Tawa ln e (s1 + 1)) (Tagn ln e (s1 + 1 + 1) T1)) d (s1 + 1 + 1) tm1 a1 l1 p1)) ∧
  (∀ T1 ln c1 s1 tm1 a1 l1 p1 c, E.length < 24 → s.toInt ≤ 99000 → tm.toInt ≤ 99000 → BU ((tm, s + 1) :: E) (s + 1) (tm + 1) a l p T1 c1 s1 tm1 a1 l1 p1 → mm_caught c1 = some c → BU E s tm a l p (Ttrp ln tm (s + 1) T1) c s1 tm1 a1 l1 p1)
