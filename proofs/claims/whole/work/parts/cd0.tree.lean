/-! what settle has found out, told of the tree -/
def wsm : tT → Int → Int
  | .const _, w => w
  | .unary x a, w => w + wsm a (w + if (lT x).1 = 6 then 1 else 0)
  | .binary x a b, w => w + (wsm a (w + if (lT x).1 = 6 then 1 else 0) + wsm b (w + if (lT x).1 = 5 then 1 else 0))
  | _, w => w
def pas : tT → Int
  | .const x => if (lT x).1 = 1 then 1 else 0
  | .unary x a => (if (lT x).1 = 1 then 1 else 0) + pas a
  | .binary x a b => (if (lT x).1 = 1 then 1 else 0) + (pas a + pas b)
  | _ => 0
def dmx : tT → Int → Int
  | .const _, d => d
  | .unary x a, d => max d (dmx a (d + if (lT x).1 = 8 then 1 else 0))
  | .binary x a b, d => max d (max (dmx a (d + if (lT x).1 = 8 then 1 else 0)) (dmx b (d + if (lT x).1 = 8 then 1 else 0)))
  | _, d => d
def lsm (g : Nat → Int) : List Nat → Int
  | [] => 0
  | a :: l => g a + lsm g l
def lmx (g : Nat → Int) : List Nat → Int
  | [] => 0
  | a :: l => max (g a) (lmx g l)
theorem lsm_app {g : Nat → Int} {l' : List Nat} : ∀ l : List Nat, lsm g (l ++ l') = lsm g l + lsm g l'
  | [] => by show lsm g l' = 0 + lsm g l'; omega
  | a :: l => by
    show g a + lsm g (l ++ l') = g a + lsm g l + lsm g l'
    rw [lsm_app l]
    omega
theorem lmx_0 {g : Nat → Int} : ∀ l : List Nat, 0 ≤ lmx g l
  | [] => Int.le_refl _
  | a :: l => by
    show 0 ≤ max (g a) (lmx g l)
    have := lmx_0 (g := g) l
    omega
theorem lmx_app {g : Nat → Int} {l' : List Nat} : ∀ l : List Nat, lmx g (l ++ l') = max (lmx g l) (lmx g l')
  | [] => by
    show lmx g l' = max 0 (lmx g l')
    have := lmx_0 (g := g) l'
    omega
  | a :: l => by
    show max (g a) (lmx g (l ++ l')) = max (max (g a) (lmx g l)) (lmx g l')
    rw [lmx_app l]
    omega
theorem lsm_perm {g : Nat → Int} {l l' : List Nat} (h : l.Perm l') : lsm g l = lsm g l' := by
  induction h with
  | nil => rfl
  | cons x _ ih => show g x + _ = g x + _; rw [ih]
  | swap x y l => show g y + (g x + lsm g l) = g x + (g y + lsm g l); omega
  | trans _ _ ih1 ih2 => exact ih1.trans ih2
theorem lmx_perm {g : Nat → Int} {l l' : List Nat} (h : l.Perm l') : lmx g l = lmx g l' := by
  induction h with
  | nil => rfl
  | cons x _ ih => show max (g x) _ = max (g x) _; rw [ih]
  | swap x y l => show max (g y) (max (g x) (lmx g l)) = max (g x) (max (g y) (lmx g l)); omega
  | trans _ _ ih1 ih2 => exact ih1.trans ih2
theorem lsm_cg {g g' : Nat → Int} : ∀ l : List Nat, (∀ k, k ∈ l → g' k = g k) → lsm g' l = lsm g l
  | [], _ => rfl
  | a :: l, h => by
    show g' a + lsm g' l = g a + lsm g l
    rw [h a List.mem_cons_self, lsm_cg l (fun k hk => h k (List.mem_cons_of_mem _ hk))]
/-- the numbers from m - n up to m -/
def rl (m : Nat) : Nat → List Nat
  | 0 => []
  | n + 1 => (m - (n + 1)) :: rl m n
theorem rl_mem {m k : Nat} : ∀ n, n ≤ m → (k ∈ rl m n ↔ m - n ≤ k ∧ k < m)
  | 0, _ => ⟨fun z => absurd z List.not_mem_nil, fun z => absurd z (by omega)⟩
  | n + 1, hn => by
    show k ∈ (m - (n + 1)) :: rl m n ↔ _
    rw [List.mem_cons, rl_mem n (by omega)]
    omega
theorem rl_nd {m : Nat} : ∀ n, n ≤ m → (rl m n).Nodup
  | 0, _ => List.nodup_nil
  | n + 1, hn => List.nodup_cons.mpr ⟨fun z => by have := (rl_mem n (by omega)).mp z; omega, rl_nd n (by omega)⟩
theorem cov_rl {I : List Nat} {m : Nat} (h : cov I 0 m) : I.Perm (rl m m) := by
  refine (List.perm_ext_iff_of_nodup h.2 (rl_nd m (Nat.le_refl _))).mpr (fun k => ?_)
  rw [h.1, rl_mem m (Nat.le_refl _)]
  omega
theorem sd_l {g : Nat → Int32} {m : Nat} {c : Int} (hc : 0 ≤ c) (hg : ∀ k, k < m → 0 ≤ (g k).toInt ∧ (g k).toInt ≤ c) : ∀ n : Nat, n ≤ m → (n : Int) * c ≤ 2000000000 → (sd g m n).toInt = lsm (fun k => (g k).toInt) (rl m n) ∧ 0 ≤ (sd g m n).toInt ∧ (sd g m n).toInt ≤ (n : Int) * c
  | 0, _, _ => ⟨rfl, by show 0 ≤ (0 : Int32).toInt; decide, by show (0 : Int32).toInt ≤ ((0 : Nat) : Int) * c; rw [il_0]; omega⟩
  | n + 1, hn, hb => by
    have e : ((n + 1 : Nat) : Int) * c = (n : Int) * c + c := by
      rw [Int.natCast_add, Int.add_mul]
      omega
    obtain ⟨h1, h2, h3⟩ := sd_l hc hg n (by omega) (by omega)
    have hk := hg (m - (n + 1)) (by omega)
    have ad : (sd g m n + g (m - (n + 1))).toInt = (sd g m n).toInt + (g (m - (n + 1))).toInt := i_addS (by omega)
    refine ⟨?_, ?_, ?_⟩
    · show (sd g m n + g (m - (n + 1))).toInt = (g (m - (n + 1))).toInt + lsm _ (rl m n)
      rw [ad, h1]
      omega
    · show 0 ≤ (sd g m n + g (m - (n + 1))).toInt
      omega
    · show (sd g m n + g (m - (n + 1))).toInt ≤ _
      omega
theorem max_i {a b : Int32} : (dc_max a b).toInt = max a.toInt b.toInt := by
  unfold dc_max
  by_cases c : a < b
  · have := i_lt.mp c
    rw [if_pos c]
    omega
  · have : ¬ a.toInt < b.toInt := fun z => c (i_lt.mpr z)
    rw [if_neg c]
    omega
theorem sx_l {g : Nat → Int32} {m : Nat} : ∀ n : Nat, n ≤ m → (∀ k, k < m → 0 ≤ (g k).toInt) → (sx g m n).toInt = lmx (fun k => (g k).toInt) (rl m n)
  | 0, _, _ => il_0
  | n + 1, hn, hg => by
    show (dc_max (sx g m n) (g (m - (n + 1)))).toInt = max (g (m - (n + 1))).toInt (lmx _ (rl m n))
    rw [max_i, sx_l n (by omega) hg]
    omega
def nF (x : ndT) : Nat → Int32 := fun k => if k = 0 then x.1 else if k = 1 then x.2.1 else if k = 4 then x.2.2.2.2.1 else if k = 5 then x.2.2.2.2.2.1 else if k = 6 then x.2.2.2.2.2.2 else if k = 9 then -1 else if k = 11 then 1 else 0
section CLT
variable {ND : Nat → ndT} {F : Nat → Nat → Int32} {m : Nat}
theorem ext_T (hE : ∀ j, j < m → F j 7 = 1 + exN F 7 (ND j).2.2.1 + exN F 7 (ND j).2.2.2.1) : ∀ (T : tT) (i : Nat) (I : List Nat), repC ND T i I → (∀ j, j ∈ I → j < m) → tsz T ≤ 200000 → (F i 7).toInt = (tsz T : Int)
  | .const x, i, I, ⟨h1, h2⟩, hI, hs => by
    have e := hE i (hI i (by rw [h1]; exact List.mem_singleton.mpr rfl))
    rw [h2] at e
    rw [e]
    show (1 + 0 + 0 : Int32).toInt = ((1 : Nat) : Int)
    decide
  | .unary x a, i, I, ⟨i1, I1, h1, h2, h3⟩, hI, hs => by
    have hs : 1 + tsz a ≤ 200000 := hs
    have k := ext_T hE a i1 I1 h3 (fun j hj => hI j (by rw [h1]; exact List.mem_cons_of_mem _ hj)) (by omega)
    have e := hE i (hI i (by rw [h1]; exact List.mem_cons_self))
    rw [h2] at e
    have e : F i 7 = 1 + F i1 7 + 0 := e
    rw [e, Int32.add_zero, i_addS (by rw [k, il_1]; omega), k, il_1]
    show _ = ((1 + tsz a : Nat) : Int)
    omega
  | .binary x a b, i, I, ⟨i1, I1, i2, I2, h1, h2, h3, h4⟩, hI, hs => by
    have hs : 1 + tsz a + tsz b ≤ 200000 := hs
    have k := ext_T hE a i1 I1 h3 (fun j hj => hI j (by rw [h1]; exact List.mem_cons_of_mem _ (List.mem_append_left _ hj))) (by omega)
    have k2 := ext_T hE b i2 I2 h4 (fun j hj => hI j (by rw [h1]; exact List.mem_cons_of_mem _ (List.mem_append_right _ hj))) (by omega)
    have e := hE i (hI i (by rw [h1]; exact List.mem_cons_self))
    rw [h2] at e
    have e : F i 7 = 1 + F i1 7 + F i2 7 := e
    have q : (1 + F i1 7).toInt = 1 + (tsz a : Int) := by rw [i_addS (by rw [k, il_1]; omega), k, il_1]
    rw [e, i_addS (by rw [q, k2]; omega), q, k2]
    show _ = ((1 + tsz a + tsz b : Nat) : Int)
    omega
/-- places, weights, depths below a node -/
def plO (F : Nat → Nat → Int32) (T : tT) (I : List Nat) (p d w : Int) : Prop :=
  (∀ j, j ∈ I → p ≤ (F j 8).toInt ∧ (F j 8).toInt < p + (tsz T : Int)) ∧ (∀ j j', j ∈ I → j' ∈ I → (F j 8).toInt = (F j' 8).toInt → j = j') ∧ lsm (fun j => (F j 11).toInt) I = wsm T w ∧ lmx (fun j => (F j 10).toInt) I = dmx T d ∧ (∀ j, j ∈ I → w ≤ (F j 11).toInt ∧ (F j 11).toInt ≤ w + (twd T : Int)) ∧ (∀ j, j ∈ I → d ≤ (F j 10).toInt ∧ (F j 10).toInt ≤ d + (tsz T : Int))
theorem i_ad1 {a : Int32} {c : Prop} [Decidable c] (h : 0 ≤ a.toInt ∧ a.toInt ≤ 1000000) : (a + (if c then 1 else 0)).toInt = a.toInt + (if c then 1 else 0) := by
  by_cases z : c
  · rw [if_pos z, if_pos z, i_addS (by rw [il_1]; omega), il_1]
  · rw [if_neg z, if_neg z, Int32.add_zero]
    omega
theorem pl_T (hE : ∀ j, j < m → F j 7 = 1 + exN F 7 (ND j).2.2.1 + exN F 7 (ND j).2.2.2.1) (hH : ∀ j, j < m → HE (fun i => (ND i).2.2.1) (fun i => (ND i).2.2.2.1) F j) (h0 : ∀ j, F j 0 = (ND j).1) {θ : (Int32 → Prop) → Int32 → Prop} : ∀ (T : tT) (V : Int32 → Prop) (i : Nat) (I : List Nat) (p d w : Int), okT θ V T → repC ND T i I → (∀ j, j ∈ I → j < m) → (F i 8).toInt = p → (F i 10).toInt = d → (F i 11).toInt = w → 0 ≤ p → p + (tsz T : Int) ≤ 200000 → 0 ≤ d → d + (tsz T : Int) ≤ 400000 → 0 ≤ w → w + (twd T : Int) ≤ 400000 → plO F T I p d w
  | .const x, V, i, I, p, d, w, _, ⟨h1, h2⟩, hI, ep, ed, ew, p0, p1, d0, d1, w0, w1 => by
    subst h1
    refine ⟨fun j hj => ?_, fun j j' hj hj' _ => ?_, ?_, ?_, fun j hj => ?_, fun j hj => ?_⟩
    · rw [List.mem_singleton.mp hj, ep]
      show p ≤ p ∧ p < p + ((1 : Nat) : Int)
      omega
    · rw [List.mem_singleton.mp hj, List.mem_singleton.mp hj']
    · show (F i 11).toInt + 0 = w
      omega
    · show max (F i 10).toInt 0 = d
      omega
    · rw [List.mem_singleton.mp hj, ew]
      omega
    · rw [List.mem_singleton.mp hj, ed]
      omega
  | .unary x a, V, i, I, p, d, w, hO, ⟨i1, I1, h1, h2, h3⟩, hI, ep, ed, ew, p0, p1, d0, d1, w0, w1 => by
    have hs : (tsz (.unary x a) : Int) = 1 + (tsz a : Int) := by
      show ((1 + tsz a : Nat) : Int) = _
      omega
    have ht : (twd (.unary x a) : Int) = (if (lT x).1 = 6 then 1 else 0) + (twd a : Int) := by
      show (((if (lT x).1 = 6 then 1 else 0) + twd a : Nat) : Int) = _
      by_cases z : (lT x).1 = 6
      · rw [if_pos z, if_pos z]; omega
      · rw [if_neg z, if_neg z]; omega
    subst h1
    have hi := hI i List.mem_cons_self
    have H := (hH i hi).1 i1 (by show (ND i).2.2.1 = some i1; rw [h2])
    have k0 : F i 0 = (lT x).1 := by rw [h0, h2]
    rw [k0] at H
    obtain ⟨e8, e9, e10, e11⟩ := H
    have b6 : (0 : Int) ≤ (if (lT x).1 = 6 then 1 else 0) ∧ (if (lT x).1 = 6 then (1 : Int) else 0) ≤ 1 := by
      by_cases z : (lT x).1 = 6
      · rw [if_pos z]; omega
      · rw [if_neg z]; omega
    have b8 : (0 : Int) ≤ (if (lT x).1 = 8 then 1 else 0) ∧ (if (lT x).1 = 8 then (1 : Int) else 0) ≤ 1 := by
      by_cases z : (lT x).1 = 8
      · rw [if_pos z]; omega
      · rw [if_neg z]; omega
    have q8 : (F i1 8).toInt = p + 1 := by rw [e8, i_addS (by rw [ep, il_1]; omega), ep, il_1]
    have q10 : (F i1 10).toInt = d + (if (lT x).1 = 8 then 1 else 0) := by rw [e10, i_ad1 (by omega), ed]
    have q11 : (F i1 11).toInt = w + (if (lT x).1 = 6 then 1 else 0) := by rw [e11, i_ad1 (by omega), ew]
    obtain ⟨g1, g2, g3, g4, g5, g6⟩ := pl_T hE hH h0 a _ i1 I1 (p + 1) _ _ hO.2 h3 (fun j hj => hI j (List.mem_cons_of_mem _ hj)) q8 q10 q11 (by omega) (by omega) (by omega) (by omega) (by omega) (by omega)
    refine ⟨fun j hj => ?_, fun j j' hj hj' e => ?_, ?_, ?_, fun j hj => ?_, fun j hj => ?_⟩
    · rw [hs]
      rcases List.mem_cons.mp hj with z | z
      · rw [z, ep]; omega
      · have := g1 j z; omega
    · rcases List.mem_cons.mp hj with z | z <;> rcases List.mem_cons.mp hj' with z' | z'
      · rw [z, z']
      · rw [z, ep] at e
        have := g1 j' z'; omega
      · rw [z', ep] at e
        have := g1 j z; omega
      · exact g2 j j' z z' e
    · show (F i 11).toInt + lsm _ I1 = w + wsm a _
      rw [g3, ew]
    · show max (F i 10).toInt (lmx _ I1) = max d (dmx a _)
      rw [g4, ed]
    · rw [ht]
      rcases List.mem_cons.mp hj with z | z
      · rw [z, ew]; omega
      · have := g5 j z; omega
    · rw [hs]
      rcases List.mem_cons.mp hj with z | z
      · rw [z, ed]; omega
      · have := g6 j z; omega
  | .binary x a b, V, i, I, p, d, w, hO, ⟨i1, I1, i2, I2, h1, h2, h3, h4⟩, hI, ep, ed, ew, p0, p1, d0, d1, w0, w1 => by
    have hs : (tsz (.binary x a b) : Int) = 1 + (tsz a : Int) + (tsz b : Int) := by
      show ((1 + tsz a + tsz b : Nat) : Int) = _
      omega
    have ht : (twd (.binary x a b) : Int) = max (twd a : Int) ((if (lT x).1 = 5 then 1 else 0) + (twd b : Int)) := by
      show ((max (twd a) ((if (lT x).1 = 5 then 1 else 0) + twd b) : Nat) : Int) = _
      by_cases z : (lT x).1 = 5
      · rw [if_pos z, if_pos z]; omega
      · rw [if_neg z, if_neg z]; omega
    subst h1
    have hi := hI i List.mem_cons_self
    have H := (hH i hi).1 i1 (by show (ND i).2.2.1 = some i1; rw [h2])
    have H2 := (hH i hi).2 i2 (by show (ND i).2.2.2.1 = some i2; rw [h2])
    have k0 : F i 0 = (lT x).1 := by rw [h0, h2]
    have kx : exN F 7 (ND i).2.2.1 = F i1 7 := by rw [h2]; rfl
    have x7 := ext_T hE a i1 I1 h3 (fun j hj => hI j (List.mem_cons_of_mem _ (List.mem_append_left _ hj))) (by omega)
    rw [k0] at H H2
    obtain ⟨e8, e9, e10, e11⟩ := H
    obtain ⟨f8, f9, f10, f11⟩ := H2
    have f8 : F i2 8 = F i 8 + 1 + exN F 7 (ND i).2.2.1 := f8
    rw [kx] at f8
    have b5 : (0 : Int) ≤ (if (lT x).1 = 5 then 1 else 0) ∧ (if (lT x).1 = 5 then (1 : Int) else 0) ≤ 1 := by
      by_cases z : (lT x).1 = 5
      · rw [if_pos z]; omega
      · rw [if_neg z]; omega
    have b6 : (0 : Int) ≤ (if (lT x).1 = 6 then 1 else 0) ∧ (if (lT x).1 = 6 then (1 : Int) else 0) ≤ 1 := by
      by_cases z : (lT x).1 = 6
      · rw [if_pos z]; omega
      · rw [if_neg z]; omega
    have b8 : (0 : Int) ≤ (if (lT x).1 = 8 then 1 else 0) ∧ (if (lT x).1 = 8 then (1 : Int) else 0) ≤ 1 := by
      by_cases z : (lT x).1 = 8
      · rw [if_pos z]; omega
      · rw [if_neg z]; omega
    have q8 : (F i1 8).toInt = p + 1 := by rw [e8, i_addS (by rw [ep, il_1]; omega), ep, il_1]
    have q10 : (F i1 10).toInt = d + (if (lT x).1 = 8 then 1 else 0) := by rw [e10, i_ad1 (by omega), ed]
    have q11 : (F i1 11).toInt = w + (if (lT x).1 = 6 then 1 else 0) := by rw [e11, i_ad1 (by omega), ew]
    have s8 : (F i 8 + 1).toInt = p + 1 := by rw [i_addS (by rw [ep, il_1]; omega), ep, il_1]
    have r8 : (F i2 8).toInt = p + 1 + (tsz a : Int) := by rw [f8, i_addS (by rw [s8, x7]; omega), s8, x7]
    have r10 : (F i2 10).toInt = d + (if (lT x).1 = 8 then 1 else 0) := by rw [f10, i_ad1 (by omega), ed]
    have r11 : (F i2 11).toInt = w + (if (lT x).1 = 5 then 1 else 0) := by rw [f11, i_ad1 (by omega), ew]
    have n6 : ¬ (lT x).1 = 6 := by
      rcases hO.1.1 with ⟨z, -⟩ | ⟨z | z, -⟩ <;> (rw [z]; decide)
    have i6 : (if (lT x).1 = 6 then (1 : Int) else 0) = 0 := if_neg n6
    obtain ⟨g1, g2, g3, g4, g5, g6⟩ := pl_T hE hH h0 a _ i1 I1 (p + 1) _ _ hO.2.1 h3 (fun j hj => hI j (List.mem_cons_of_mem _ (List.mem_append_left _ hj))) q8 q10 q11 (by omega) (by omega) (by omega) (by omega) (by omega) (by omega)
    obtain ⟨y1, y2, y3, y4, y5, y6⟩ := pl_T hE hH h0 b _ i2 I2 (p + 1 + (tsz a : Int)) _ _ hO.2.2 h4 (fun j hj => hI j (List.mem_cons_of_mem _ (List.mem_append_right _ hj))) r8 r10 r11 (by omega) (by omega) (by omega) (by omega) (by omega) (by omega)
    refine ⟨fun j hj => ?_, fun j j' hj hj' e => ?_, ?_, ?_, fun j hj => ?_, fun j hj => ?_⟩
    · rw [hs]
      rcases List.mem_cons.mp hj with z | z
      · rw [z, ep]; omega
      · rcases List.mem_append.mp z with z | z
        · have := g1 j z; omega
        · have := y1 j z; omega
    · have at' : ∀ j, j ∈ i :: (I1 ++ I2) → (j = i ∧ (F j 8).toInt = p) ∨ (j ∈ I1 ∧ p + 1 ≤ (F j 8).toInt ∧ (F j 8).toInt < p + 1 + (tsz a : Int)) ∨ (j ∈ I2 ∧ p + 1 + (tsz a : Int) ≤ (F j 8).toInt) := by
        intro j hj
        rcases List.mem_cons.mp hj with z | z
        · exact Or.inl ⟨z, by rw [z, ep]⟩
        · rcases List.mem_append.mp z with z | z
          · exact Or.inr (Or.inl ⟨z, g1 j z⟩)
          · exact Or.inr (Or.inr ⟨z, (y1 j z).1⟩)
      rcases at' j hj with ⟨z, z1⟩ | ⟨z, z1, z2⟩ | ⟨z, z1⟩ <;> rcases at' j' hj' with ⟨u, u1⟩ | ⟨u, u1, u2⟩ | ⟨u, u1⟩
      · rw [z, u]
      · omega
      · omega
      · omega
      · exact g2 j j' z u e
      · omega
      · omega
      · omega
      · exact y2 j j' z u e
    · show (F i 11).toInt + lsm _ (I1 ++ I2) = w + (wsm a _ + wsm b _)
      rw [lsm_app, g3, y3, ew]
    · show max (F i 10).toInt (lmx _ (I1 ++ I2)) = max d (max (dmx a _) (dmx b _))
      rw [lmx_app, g4, y4, ed]
    · rw [ht]
      rcases List.mem_cons.mp hj with z | z
      · rw [z, ew]; omega
      · rcases List.mem_append.mp z with z | z
        · have := g5 j z; omega
        · have := y5 j z; omega
    · rw [hs]
      rcases List.mem_cons.mp hj with z | z
      · rw [z, ed]; omega
      · rcases List.mem_append.mp z with z | z
        · have := g6 j z; omega
        · have := y6 j z; omega
end CLT
