/-! what holds between calls -/
/-- where the net may lie -/
def NTl (t0 u oN : Nat) (bN : Nat → Nat) : Prop := (oN < t0 ∨ u + 32 ≤ oN) ∧ ∀ i, i < 9 → bN i < t0 ∨ u + 32 ≤ bN i
/-- explored or not, laid or not -/
def jX (G : hg_E) (S : hg_S) (M : md_S) (k pa oA oN cap : Nat) (bA bN : Nat → Nat) (ta tn : Value) (ex la : Int32) : Prop :=
  (ex = 0 ∧ la = 0 ∧ M.1 85 = 0 ∧ M.1 86 = 0 ∧ M.1 87 = 0 ∧ M.1 106 = 0) ∨
  (ex = 1 ∧ ta = .ref oA ∧ M.1 85 = 1 ∧ xpO M ∧ ∃ q cnt ins out, EXa G S M oA bA q cnt pa ins ∧ (M.1 46 = Int32.ofNat out ∧ out ≤ 31) ∧ ((la = 0 ∧ M.1 86 = 0 ∧ M.1 106 = 0) ∨ (la = 1 ∧ tn = .ref oN ∧ M.1 86 = 1 ∧ ∃ qn m, NLa G S M oN bN cap qn m (out + pa + 1) ∧ LYn M m (out + pa + 1) ∧ (∀ c, c < 8192 → tbC M cnt ins out pa c (M.2.2.2 c)) ∧ ∃ L, L ≤ k ∧ qn.2 14 = Int32.ofNat L)))
/-- a program or none -/
def jP (G : hg_E) (S : hg_S) (M : md_S) (sz k t oA oN cap : Nat) (bA bN : Nat → Nat) (st en rn ex la : Int32) (pg rc hd sh ta tn : Value) : Prop :=
  (zI M ∧ (pg = .null ∧ rc = .null ∧ hd = .null ∧ sh = .null) ∧ (st = 0 ∧ en = 0 ∧ rn = 0 ∧ ex = 0 ∧ la = 0) ∧ ∀ i, v3 (M.2.1 70 i)) ∨
  ∃ u t0 T n ps sg io pa R c X cn hf sf, (pg = .ref u ∧ rc = .ref (u + 18) ∧ hd = .ref (u + 30) ∧ sh = .ref (u + 31)) ∧ (LDp G S M u t0 T n ps sg io pa R c X cn hf sf ∧ LDe M pa st en rn ∧ M.1 41 = 1) ∧ ((sz < t0 ∧ t0 ≤ u) ∧ (t < t0 ∨ u + 32 ≤ t) ∧ (ta = .ref oA → EXl t0 u oA bA) ∧ (tn = .ref oN → NTl t0 u oN bN)) ∧ jX G S M k pa oA oN cap bA bN ta tn ex la
/-- an atlas or none, a net or none -/
def jO (G : hg_E) (S : hg_S) (t oA oN cap : Nat) (bA bN : Nat → Nat) (ta tn : Value) : Prop :=
  (ta = .null ∨ (ta = .ref oA ∧ (∃ XA cA, ATv G S oA bA XA cA) ∧ ∀ i j, i < 8 → j < 8 → bA i = bA j → i = j)) ∧
  (tn = .null ∨ (tn = .ref oN ∧ (∃ XN cN, NTv G S oN bN cap XN cN) ∧ (∀ i j, i < 9 → j < 9 → bN i = bN j → i = j) ∧ (∃ x, cap = 256 * 2 ^ x) ∧ cap ≤ 32768)) ∧
  (ta = .ref oA → tn = .ref oN → ∀ i j, i < 9 → j < 8 → bN i ≠ bA j) ∧ (ta = .ref oA → ∀ i, i < 8 → t ≠ bA i) ∧ (tn = .ref oN → ∀ i, i < 9 → t ≠ bN i)
/-- the room that is left behind k calls -/
def jR (S : hg_S) (k nt N oA oN cap : Nat) (ta tn : Value) : Prop := ∃ kA kN x, (kA ≤ 1 ∧ (ta = .null → kA = 0)) ∧ ((tn = .null ∧ kN = 0 ∧ x = 0) ∨ (tn = .ref oN ∧ kN = 1 ∧ cap = 256 * 2 ^ x)) ∧ 600957 + 40 * nt ≤ S.2.2.1 + 802 * k + 10 * kA + 10 * kN + 5 * x ∧ 6865417 + 301 * nt ≤ S.2.2.2 + 6100 * k + 2 * N + 9781 * kA + 9564 * kN + 10 * (256 * 2 ^ x - 256)
/-- what holds between calls; Ks is what the reference's safety wants -/
def wJ (Ks : md_S → Prop) (G : hg_E) (sz k : Nat) (S : hg_S) (M : md_S) : Prop :=
  ∃ (t N : Nat) (g : Nat → Int32) (nn f st en rn ex la : Int32) (pg rc hd sh ta tn : Value) (oA oN cap : Nat) (bA bN : Nat → Nat), Ks M ∧ (tpR G S M sz t N g nn f [pg, rc, .int st, .int en, hd, sh, .int rn, ta, tn, .int ex, .int la] ∧ sz < S.2.1) ∧ jO G S t oA oN cap bA bN ta tn ∧ jR S k nn.toInt.toNat N oA oN cap ta tn ∧ jP G S M sz k t oA oN cap bA bN st en rn ex la pg rc hd sh ta tn
section JFR
variable {G : hg_E} {S S' : hg_S} {M M' : md_S} {oA oN cap : Nat} {bA bN : Nat → Nat}
theorem LDp_f {u t0 n ps sg io pa : Nat} {T : tT} {R : Nat → Nat → Int32} {c : Nat → Int32} {X : Nat → Nat → Int32} {cn hf sf : Nat → Int32} (h : LDp G S M u t0 T n ps sg io pa R c X cn hf sf) (hs : ∀ b, t0 ≤ b → b < u + 32 → hg_at S'.1 b = hg_at S.1 b) (ht : t0 ≤ u) (e : mdE M M') (e70 : M'.2.1 70 = M.2.1 70) (e74 : M'.2.1 74 = M.2.1 74) (e84 : M'.2.1 84 = M.2.1 84) : LDp G S' M' u t0 T n ps sg io pa R c X cn hf sf := by
  obtain ⟨⟨h1, h2, h3⟩, ⟨h4, h5, h6⟩, ⟨h7, h8⟩, ⟨h9, h10⟩, h11⟩ := h
  refine ⟨⟨pgS_c h1 e (fun b b1 b2 => hs b b1 (by omega)) ht, pgT_c h2 e, pgB_c h3 e⟩, ⟨REv_c h4 (fun i i1 i2 => hs _ ?_ ?_) (hs _ (by omega) (by omega)), h5, h6⟩, ⟨by rw [hs _ (by omega) (by omega)]; exact h7, by rw [e74]; exact h8⟩, ⟨by rw [hs _ (by omega) (by omega)]; exact h9, by rw [e84]; exact h10⟩, by rw [e70]; exact h11⟩
  · have := reB_c (u + 19) i i1 i2
    omega
  · have := reB_c (u + 19) i i1 i2
    omega
theorem LDe_f {pa : Nat} {st en rn : Int32} (h : LDe M pa st en rn) (e : ∀ i, i = 77 ∨ i = 82 ∨ i = 83 → M'.1 i = M.1 i) (e74 : M'.2.1 74 = M.2.1 74) : LDe M' pa st en rn := by
  unfold LDe
  rw [e 77 (by omega), e 82 (by omega), e 83 (by omega), e74]
  exact h
theorem ATv_f {X : Nat → Nat → Int32} {c : Nat → Int32} (h : ATv G S oA bA X c) (h1 : hg_at S'.1 oA = hg_at S.1 oA) (h2 : ∀ i, i < 8 → hg_at S'.1 (bA i) = hg_at S.1 (bA i)) : ATv G S' oA bA X c := ⟨by rw [h1]; exact h.1, fun i hi => by rw [h2 i hi]; exact h.2 i hi⟩
theorem NTv_f {X : Nat → Nat → Int32} {c : Nat → Int32} (h : NTv G S oN bN cap X c) (h1 : hg_at S'.1 oN = hg_at S.1 oN) (h2 : ∀ i, i < 9 → hg_at S'.1 (bN i) = hg_at S.1 (bN i)) : NTv G S' oN bN cap X c := ⟨by rw [h1]; exact h.1, fun i hi => by rw [h2 i hi]; exact h.2 i hi⟩
theorem EXa_f {q : rsT} {cnt pa ins : Nat} (h : EXa G S M oA bA q cnt pa ins) (h1 : hg_at S'.1 oA = hg_at S.1 oA) (h2 : ∀ i, i < 8 → hg_at S'.1 (bA i) = hg_at S.1 (bA i)) : EXa G S' M oA bA q cnt pa ins := ⟨⟨ATv_f h.1.1 h1 h2, h.1.2⟩, h.2⟩
theorem NLa_f {q : rsT} {n F : Nat} (h : NLa G S M oN bN cap q n F) (h1 : hg_at S'.1 oN = hg_at S.1 oN) (h2 : ∀ i, i < 9 → hg_at S'.1 (bN i) = hg_at S.1 (bN i)) : NLa G S' M oN bN cap q n F := ⟨⟨NTv_f h.1.1 h1 h2, h.1.2⟩, h.2⟩
theorem zI_f (h : zI M) (e : ∀ i, (41 ≤ i ∧ i ≤ 49) ∨ i = 77 ∨ i = 82 ∨ i = 83 ∨ i = 85 ∨ i = 86 ∨ i = 87 ∨ i = 106 → M'.1 i = M.1 i) (e74 : M'.2.1 74 = M.2.1 74) (e84 : M'.2.1 84 = M.2.1 84) : zI M' := by
  unfold zI
  rw [e 41 (by omega), e 42 (by omega), e 43 (by omega), e 44 (by omega), e 45 (by omega), e 46 (by omega), e 47 (by omega), e 48 (by omega), e 49 (by omega), e 77 (by omega), e 82 (by omega), e 83 (by omega), e 85 (by omega), e 86 (by omega), e 87 (by omega), e 106 (by omega), e74, e84]
  exact h
theorem xpO_f (h : xpO M) (e : ∀ i, 41 ≤ i → i ≤ 50 → M'.1 i = M.1 i) : xpO M' := by
  unfold xpO
  rw [e 47 (by omega) (by omega), e 45 (by omega) (by omega), e 48 (by omega) (by omega), e 43 (by omega) (by omega)]
  exact h
/-- the reference's rows and numbers of the explored and of the laid stay -/
def jM (M M' : md_S) : Prop := (∀ i, (41 ≤ i ∧ i ≤ 50) ∨ (85 ≤ i ∧ i ≤ 87) ∨ i = 106 → M'.1 i = M.1 i) ∧ (∀ i, (51 ≤ i ∧ i ≤ 66) ∨ i = 68 ∨ i = 69 ∨ (88 ≤ i ∧ i ≤ 104) → M'.2.1 i = M.2.1 i) ∧ M'.2.2.2 = M.2.2.2
theorem tbC_f (e : jM M M') {cnt ins out pa c : Nat} {v : Int64} (h : tbC M cnt ins out pa c v) : tbC M' cnt ins out pa c v := by
  unfold tbC trT clC trK at h ⊢
  rw [e.2.1 88 (by omega), e.2.1 92 (by omega), e.2.1 93 (by omega)]
  exact h
theorem jX_f {k k' pa : Nat} {ta tn : Value} {ex la : Int32} (h : jX G S M k pa oA oN cap bA bN ta tn ex la) (hk : k ≤ k') (hA : ta = .ref oA → hg_at S'.1 oA = hg_at S.1 oA ∧ ∀ i, i < 8 → hg_at S'.1 (bA i) = hg_at S.1 (bA i)) (hN : tn = .ref oN → hg_at S'.1 oN = hg_at S.1 oN ∧ ∀ i, i < 9 → hg_at S'.1 (bN i) = hg_at S.1 (bN i)) (e : jM M M') : jX G S' M' k' pa oA oN cap bA bN ta tn ex la := by
  rcases h with ⟨h1, h2, h3, h4, h5, h6⟩ | ⟨h1, h2, h3, h4, q, cnt, ins, out, h5, h6, h7⟩
  · left
    exact ⟨h1, h2, by rw [e.1 85 (by omega)]; exact h3, by rw [e.1 86 (by omega)]; exact h4, by rw [e.1 87 (by omega)]; exact h5, by rw [e.1 106 (by omega)]; exact h6⟩
  · right
    refine ⟨h1, h2, by rw [e.1 85 (by omega)]; exact h3, xpO_f h4 (fun i a b => e.1 i (by omega)), q, cnt, ins, out, EXa_m (EXa_f h5 (hA h2).1 (hA h2).2) (e.1 87 (by omega)) (e.1 45 (by omega)) (e.1 46 (by omega)) (fun i a b => e.2.1 i (by omega)), by rw [e.1 46 (by omega)]; exact h6, ?_⟩
    rcases h7 with ⟨a1, a2, a3⟩ | ⟨a1, a2, a3, qn, m, a4, a5, a6, L, a7, a8⟩
    · exact Or.inl ⟨a1, by rw [e.1 86 (by omega)]; exact a2, by rw [e.1 106 (by omega)]; exact a3⟩
    · refine Or.inr ⟨a1, a2, by rw [e.1 86 (by omega)]; exact a3, qn, m, NLa_r (NLa_f a4 (hN a2).1 (hN a2).2) (e.2.1 101 (by omega)) (e.2.1 102 (by omega)) (e.2.1 103 (by omega)) e.2.2, LYn_r a5 (e.2.1 100 (by omega)) (e.2.1 101 (by omega)) (e.2.1 102 (by omega)) (e.2.1 103 (by omega)) e.2.2 (e.1 106 (by omega)), fun c hc => ?_, L, by omega, a8⟩
      rw [e.2.2]
      exact tbC_f e (a6 c hc)
end JFR
