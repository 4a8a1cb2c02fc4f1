/-! blocks of a table and their multiplexers; how many there can be -/
/-- x stands for block c of depth d -/
def vr (M : md_S) (n : Nat) (tb : Nat → Int32) : Nat → Nat → Int32 → Prop
  | 0, c, x => x = tb c
  | d + 1, c, x => ∃ y z, vr M n tb d (2 * c) y ∧ vr M n tb d (2 * c + 1) z ∧ ((y = z ∧ x = y) ∨ (¬ y = z ∧ ∃ m, m < n ∧ x = Int32.ofNat m ∧ M.2.1 101 m = Int32.ofNat (12 - d) ∧ M.2.1 102 m = y ∧ M.2.1 103 m = z))
/-- a value that may stand at depth d: a truth, or one made before m -/
def vl (M : md_S) (m d : Nat) (x : Int32) : Prop := x = -1 ∨ x = -2 ∨ ∃ k, k < m ∧ x = Int32.ofNat k ∧ ∃ l, 13 ≤ l + d ∧ l ≤ 12 ∧ M.2.1 101 k = Int32.ofNat l
/-- those made: where they stand, of what -/
def mxL (M : md_S) (n : Nat) : Prop := ∀ m, m < n → ∃ l, l ≤ 12 ∧ M.2.1 101 m = Int32.ofNat l ∧ vl M m (12 - l) (M.2.1 102 m) ∧ vl M m (12 - l) (M.2.1 103 m) ∧ ¬ M.2.1 102 m = M.2.1 103 m
/-- no two are the same -/
def mxU (M : md_S) (n : Nat) : Prop := ∀ m m', m < n → m' < n → M.2.1 101 m = M.2.1 101 m' → M.2.1 102 m = M.2.1 102 m' → M.2.1 103 m = M.2.1 103 m' → m = m'
/-- more were made -/
def mxG (M M' : md_S) (n n' : Nat) : Prop := n ≤ n' ∧ ∀ m, m < n → M'.2.1 101 m = M.2.1 101 m ∧ M'.2.1 102 m = M.2.1 102 m ∧ M'.2.1 103 m = M.2.1 103 m
section VRS
variable {M M' : md_S} {n n' : Nat} {tb : Nat → Int32}
theorem mxG_r : mxG M M n n := ⟨Nat.le_refl _, fun _ _ => ⟨rfl, rfl, rfl⟩⟩
theorem vr_m (g : mxG M M' n n') : ∀ d c x, vr M n tb d c x → vr M' n' tb d c x
  | 0, _, _, h => h
  | d + 1, c, x, h => by
    obtain ⟨y, z, h1, h2, h3⟩ := h
    refine ⟨y, z, vr_m g d _ _ h1, vr_m g d _ _ h2, h3.imp id ?_⟩
    rintro ⟨ne, m, m1, m2, m3, m4, m5⟩
    obtain ⟨g1, g2, g3⟩ := g.2 m m1
    exact ⟨ne, m, Nat.lt_of_lt_of_le m1 g.1, m2, by rw [g1]; exact m3, by rw [g2]; exact m4, by rw [g3]; exact m5⟩
theorem vr_u (u : mxU M n) : ∀ d c x x', vr M n tb d c x → vr M n tb d c x' → x = x'
  | 0, _, _, _, h, h' => Eq.trans h (Eq.symm h')
  | d + 1, c, x, x', h, h' => by
    obtain ⟨y, z, h1, h2, h3⟩ := h
    obtain ⟨y', z', h1', h2', h3'⟩ := h'
    have ey := vr_u u d _ _ _ h1 h1'
    have ez := vr_u u d _ _ _ h2 h2'
    subst ey ez
    rcases h3 with ⟨e1, e2⟩ | ⟨n1, m, m1, m2, m3, m4, m5⟩
    · rcases h3' with ⟨-, e3⟩ | ⟨n2, -⟩
      · rw [e2, e3]
      · exact absurd e1 n2
    · rcases h3' with ⟨e3, -⟩ | ⟨-, m', k1, k2, k3, k4, k5⟩
      · exact absurd e3 n1
      · rw [m2, k2, u m m' m1 k1 (m3.trans k3.symm) (m4.trans k4.symm) (m5.trans k5.symm)]
theorem vl_m (g : mxG M M' n n') {m d : Nat} (hm : m ≤ n) {x : Int32} (h : vl M m d x) : vl M' m d x := by
  refine h.imp id (fun h => h.imp id ?_)
  rintro ⟨k, k1, k2, l, l1, l2, l3⟩
  exact ⟨k, k1, k2, l, l1, l2, by rw [(g.2 k (by omega)).1]; exact l3⟩
theorem vl_up {m m' d d' : Nat} (hm : m ≤ m') (hd : d ≤ d') {x : Int32} (h : vl M m d x) : vl M m' d' x := by
  refine h.imp id (fun h => h.imp id ?_)
  rintro ⟨k, k1, k2, l, l1, l2, l3⟩
  exact ⟨k, by omega, k2, l, by omega, l2, l3⟩
/-- what stands for a block is a value of its depth -/
theorem vr_v (htb : ∀ c, tb c = -1 ∨ tb c = -2) : ∀ d, d ≤ 13 → ∀ c x, vr M n tb d c x → vl M n d x
  | 0, _, c, x, h => by
    have h : x = tb c := h
    rw [h]
    exact (htb c).imp id Or.inl
  | d + 1, hd, c, x, h => by
    obtain ⟨y, z, h1, h2, h3⟩ := h
    rcases h3 with ⟨-, e2⟩ | ⟨-, m, m1, m2, m3, -⟩
    · rw [e2]
      exact vl_up (Nat.le_refl _) (by omega) (vr_v htb d (by omega) _ _ h1)
    · exact Or.inr (Or.inr ⟨m, m1, m2, 12 - d, by omega, by omega, m3⟩)
/-- all false -/
theorem vr_z : ∀ d c, (∀ k, c * 2 ^ d ≤ k → k < (c + 1) * 2 ^ d → tb k = -2) → ∀ x, vr M n tb d c x → x = -2
  | 0, c, hz, x, h => by
    have h : x = tb c := h
    rw [h]
    exact hz c (by omega) (by omega)
  | d + 1, c, hz, x, h => by
    obtain ⟨y, z, h1, h2, h3⟩ := h
    have p : 2 ^ (d + 1) = 2 * 2 ^ d := by rw [Nat.pow_succ]; omega
    have q1 : 2 * c * 2 ^ d = c * 2 ^ (d + 1) := by rw [p, ← Nat.mul_assoc, Nat.mul_comm c 2]
    have q2 : (2 * c + 1) * 2 ^ d = c * 2 ^ (d + 1) + 2 ^ d := by rw [Nat.add_mul, q1, Nat.one_mul]
    have q3 : (2 * c + 1 + 1) * 2 ^ d = (c + 1) * 2 ^ (d + 1) := by rw [show 2 * c + 1 + 1 = 2 * (c + 1) by omega, p, ← Nat.mul_assoc, Nat.mul_comm (c + 1) 2]
    have q4 : (c + 1) * 2 ^ (d + 1) = c * 2 ^ (d + 1) + 2 ^ (d + 1) := by rw [Nat.add_mul, Nat.one_mul]
    have ey := vr_z d (2 * c) (fun k k1 k2 => hz k (by omega) (by omega)) y h1
    have ez := vr_z d (2 * c + 1) (fun k k1 k2 => hz k (by omega) (by omega)) z h2
    rcases h3 with ⟨-, e2⟩ | ⟨n1, -⟩
    · rw [e2, ey]
    · rw [ey, ez] at n1
      exact absurd rfl n1
/-- the truths below a value, as one number -/
noncomputable def snm (M : md_S) : Nat → Int32 → Nat
  | 0, x => @ite Nat (x = -1) (Classical.propDecidable _) 1 0
  | d + 1, x => @ite Nat (0 ≤ x.toInt ∧ M.2.1 101 x.toInt.toNat = Int32.ofNat (12 - d)) (Classical.propDecidable _) (2 ^ 2 ^ d * snm M d (M.2.1 102 x.toInt.toNat) + snm M d (M.2.1 103 x.toInt.toNat)) (2 ^ 2 ^ d * snm M d x + snm M d x)
theorem kab {K a b a' b' : Nat} (hb : b < K) (hb' : b' < K) (e : K * a + b = K * a' + b') : a = a' ∧ b = b' := by
  have k0 : 0 < K := by omega
  have h1 : (K * a + b) / K = a := by rw [Nat.mul_add_div k0, Nat.div_eq_of_lt hb, Nat.add_zero]
  have h2 : (K * a' + b') / K = a' := by rw [Nat.mul_add_div k0, Nat.div_eq_of_lt hb', Nat.add_zero]
  rw [e, h2] at h1
  subst h1
  exact ⟨rfl, by omega⟩
theorem snm_lt : ∀ d x, snm M d x < 2 ^ 2 ^ d
  | 0, x => by
    show @ite Nat (x = -1) (Classical.propDecidable _) 1 0 < 2 ^ 2 ^ 0
    have : 2 ^ 2 ^ 0 = 2 := rfl
    rw [this]
    split <;> omega
  | d + 1, x => by
    have p : 2 ^ 2 ^ (d + 1) = 2 ^ 2 ^ d * 2 ^ 2 ^ d := by
      rw [← Nat.pow_add]
      congr 1
      rw [Nat.pow_succ]
      omega
    have key : ∀ a b, a < 2 ^ 2 ^ d → b < 2 ^ 2 ^ d → 2 ^ 2 ^ d * a + b < 2 ^ 2 ^ (d + 1) := by
      intro a b ha hb
      rw [p]
      generalize 2 ^ 2 ^ d = K at *
      have : K * (a + 1) ≤ K * K := Nat.mul_le_mul_left K ha
      rw [Nat.mul_add, Nat.mul_one] at this
      omega
    show @ite Nat (0 ≤ x.toInt ∧ M.2.1 101 x.toInt.toNat = Int32.ofNat (12 - d)) (Classical.propDecidable _) (2 ^ 2 ^ d * snm M d (M.2.1 102 x.toInt.toNat) + snm M d (M.2.1 103 x.toInt.toNat)) (2 ^ 2 ^ d * snm M d x + snm M d x) < 2 ^ 2 ^ (d + 1)
    split
    · exact key _ _ (snm_lt d _) (snm_lt d _)
    · exact key _ _ (snm_lt d _) (snm_lt d _)
theorem snm_i (hn : n ≤ 24000) (hL : mxL M n) (hU : mxU M n) : ∀ d, d ≤ 12 → ∀ x x', vl M n d x → vl M n d x' → snm M d x = snm M d x' → x = x'
  | 0, _, x, x', h, h', e => by
    have c : ∀ x, vl M n 0 x → x = -1 ∨ x = -2 := fun x h => by
      rcases h with h | h | ⟨k, _, _, l, l1, l2, _⟩
      · exact Or.inl h
      · exact Or.inr h
      · omega
    have s : ∀ x, snm M 0 x = @ite Nat (x = -1) (Classical.propDecidable _) 1 0 := fun _ => rfl
    rw [s, s] at e
    rcases c x h with h1 | h1 <;> rcases c x' h' with h2 | h2
    · rw [h1, h2]
    · rw [if_pos h1, if_neg (by rw [h2]; decide)] at e; omega
    · rw [if_neg (by rw [h1]; decide), if_pos h2] at e; omega
    · rw [h1, h2]
  | d + 1, hd, x, x', h, h', e => by
    have ih := snm_i hn hL hU d (by omega)
    -- a node of this depth, or a value of the depth below
    have cs : ∀ x, vl M n (d + 1) x → (∃ m, m < n ∧ x = Int32.ofNat m ∧ M.2.1 101 m = Int32.ofNat (12 - d) ∧ vl M n d (M.2.1 102 m) ∧ vl M n d (M.2.1 103 m) ∧ ¬ M.2.1 102 m = M.2.1 103 m ∧ snm M (d + 1) x = 2 ^ 2 ^ d * snm M d (M.2.1 102 m) + snm M d (M.2.1 103 m)) ∨ (vl M n d x ∧ snm M (d + 1) x = 2 ^ 2 ^ d * snm M d x + snm M d x) := by
      intro x h
      have s : snm M (d + 1) x = @ite Nat (0 ≤ x.toInt ∧ M.2.1 101 x.toInt.toNat = Int32.ofNat (12 - d)) (Classical.propDecidable _) (2 ^ 2 ^ d * snm M d (M.2.1 102 x.toInt.toNat) + snm M d (M.2.1 103 x.toInt.toNat)) (2 ^ 2 ^ d * snm M d x + snm M d x) := rfl
      rcases h with h | h | ⟨k, k1, k2, l, l1, l2, l3⟩
      · right
        refine ⟨Or.inl h, ?_⟩
        rw [s, if_neg (fun z => by rw [h, il_m1] at z; omega)]
      · right
        refine ⟨Or.inr (Or.inl h), ?_⟩
        rw [s, if_neg (fun z => by rw [h, il_m2] at z; omega)]
      · have tk : (Int32.ofNat k).toInt = (k : Int) := Int32.toInt_ofNat_of_lt (by omega)
        have tkn : (Int32.ofNat k).toInt.toNat = k := by omega
        by_cases c : l = 12 - d
        · left
          rw [c] at l3
          obtain ⟨l', a1, a2, a3, a4, a5⟩ := hL k k1
          have el : l' = 12 - d := by
            rw [l3] at a2
            exact (ofN_j (by omega) (by omega) a2).symm
          rw [el, show 12 - (12 - d) = d by omega] at a3 a4
          refine ⟨k, k1, k2, l3, vl_up (by omega) (Nat.le_refl _) a3, vl_up (by omega) (Nat.le_refl _) a4, a5, ?_⟩
          rw [s, k2, tkn, if_pos ⟨by omega, l3⟩]
        · right
          refine ⟨Or.inr (Or.inr ⟨k, k1, k2, l, by omega, l2, l3⟩), ?_⟩
          rw [s, if_neg (fun z => ?_)]
          rw [k2, tkn, l3] at z
          exact c (ofN_j (by omega) (by omega) z.2)
    have lt : ∀ y, snm M d y < 2 ^ 2 ^ d := fun y => snm_lt d y
    rcases cs x h with ⟨m, m1, m2, m3, m4, m5, m6, m7⟩ | ⟨h1, h2⟩
    · rcases cs x' h' with ⟨m', k1, k2, k3, k4, k5, k6, k7⟩ | ⟨g1, g2⟩
      · rw [m7, k7] at e
        obtain ⟨e1, e2⟩ := kab (lt _) (lt _) e
        rw [m2, k2, hU m m' m1 k1 (m3.trans k3.symm) (ih _ _ m4 k4 e1) (ih _ _ m5 k5 e2)]
      · rw [m7, g2] at e
        obtain ⟨e1, e2⟩ := kab (lt _) (lt _) e
        exact absurd (ih _ _ m4 m5 (e1.trans e2.symm)) m6
    · rcases cs x' h' with ⟨m', k1, k2, k3, k4, k5, k6, k7⟩ | ⟨g1, g2⟩
      · rw [h2, k7] at e
        obtain ⟨e1, e2⟩ := kab (lt _) (lt _) e
        exact absurd (ih _ _ k4 k5 (e1.symm.trans e2)) k6
      · rw [h2, g2] at e
        exact ih _ _ h1 g1 (kab (lt _) (lt _) e).1
/-- of the three lowest bits there are at most 256 -/
theorem mx_hi (hn : n ≤ 24000) (hL : mxL M n) (hU : mxU M n) : ctP (fun m => ∃ l, 10 ≤ l ∧ l ≤ 12 ∧ M.2.1 101 m = Int32.ofNat l) n ≤ 256 := by
  have h := ctP_inj (P := fun m => ∃ l, 10 ≤ l ∧ l ≤ 12 ∧ M.2.1 101 m = Int32.ofNat l) (f := fun m => snm M 3 (Int32.ofNat m)) (m := 256) n (fun _ => True) (fun k hk hP => ⟨snm_lt 3 _, trivial⟩) (fun i j hi hj hP hQ e => by
    have v : ∀ k, k < n → (∃ l, 10 ≤ l ∧ l ≤ 12 ∧ M.2.1 101 k = Int32.ofNat l) → vl M n 3 (Int32.ofNat k) := fun k hk ⟨l, l1, l2, l3⟩ => Or.inr (Or.inr ⟨k, hk, rfl, l, by omega, l2, l3⟩)
    exact ofN_j (by omega) (by omega) (snm_i hn hL hU 3 (by omega) _ _ (v i hi hP) (v j hj hQ) e))
  exact Nat.le_trans h (ctP_le 256)
theorem ctP_two {P Q : Nat → Prop} : ∀ n, (∀ k, k < n → P k ∨ Q k) → n ≤ ctP P n + ctP Q n
  | 0, _ => Nat.zero_le _
  | n + 1, h => by
    have ih := ctP_two n (fun k hk => h k (by omega))
    have a1 : ctP P n ≤ ctP P (n + 1) := by
      by_cases c : P n
      · rw [ctP_y c]; omega
      · rw [ctP_n c]; exact Nat.le_refl _
    have a2 : ctP Q n ≤ ctP Q (n + 1) := by
      by_cases c : Q n
      · rw [ctP_y c]; omega
      · rw [ctP_n c]; exact Nat.le_refl _
    rcases h n (by omega) with c | c
    · rw [ctP_y c]; omega
    · rw [ctP_y c]; omega
/-- how many there are in all -/
theorem mx_n (hn : n ≤ 24000) (hL : mxL M n) (hU : mxU M n) : n ≤ 256 + ctP (fun m => ∃ l, l ≤ 9 ∧ M.2.1 101 m = Int32.ofNat l) n := by
  have h1 := mx_hi hn hL hU
  have h2 := ctP_two (P := fun m => ∃ l, 10 ≤ l ∧ l ≤ 12 ∧ M.2.1 101 m = Int32.ofNat l) (Q := fun m => ∃ l, l ≤ 9 ∧ M.2.1 101 m = Int32.ofNat l) n (fun k hk => by
    obtain ⟨l, l1, l2, -⟩ := hL k hk
    by_cases c : l ≤ 9
    · exact Or.inr ⟨l, c, l2⟩
    · exact Or.inl ⟨l, by omega, l1, l2⟩)
  omega
end VRS
