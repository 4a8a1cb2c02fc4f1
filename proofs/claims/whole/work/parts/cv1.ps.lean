/-! pass: the truths of all functions on a choice -/
section PSS
variable {r : md_S} {q : rsT} {n F made cap : Nat} {ph : Nat → Nat} {tb : Nat → Int32}
/-- a value that stands for a block stands for all within, down to its own level -/
theorem vr_dn (hn : n ≤ 24000) (htb : ∀ c, tb c = -1 ∨ tb c = -2) {m l : Nat} (hm : m < n) (hl : r.2.1 101 m = Int32.ofNat l) (l12 : l ≤ 12) : ∀ d, d ≤ 13 → ∀ ch, vr r n tb d (ch / 2 ^ d) (Int32.ofNat m) → 13 - l ≤ d ∧ vr r n tb (12 - l) (2 * (ch / 2 ^ (13 - l))) (r.2.1 102 m) ∧ vr r n tb (12 - l) (2 * (ch / 2 ^ (13 - l)) + 1) (r.2.1 103 m)
  | 0, _, ch, h => by
    have h : Int32.ofNat m = tb (ch / 2 ^ 0) := h
    have tm : (Int32.ofNat m).toInt = (m : Int) := Int32.toInt_ofNat_of_lt (by omega)
    exfalso
    rcases htb (ch / 2 ^ 0) with e | e
    · rw [h, e, il_m1] at tm; omega
    · rw [h, e, il_m2] at tm; omega
  | d + 1, hd, ch, h => by
    obtain ⟨y, z, h1, h2, h3⟩ := h
    have e : ch / 2 ^ (d + 1) = ch / 2 ^ d / 2 := by rw [Nat.pow_succ, Nat.div_div_eq_div_mul]
    rcases h3 with ⟨e1, e2⟩ | ⟨-, m', m1, m2, m3, m4, m5⟩
    · have hx : vr r n tb d (ch / 2 ^ d) (Int32.ofNat m) := by
        rw [e2]
        by_cases c : ch / 2 ^ d % 2 = 0
        · rw [e, show 2 * (ch / 2 ^ d / 2) = ch / 2 ^ d by omega] at h1
          exact h1
        · rw [e, show 2 * (ch / 2 ^ d / 2) + 1 = ch / 2 ^ d by omega] at h2
          rw [e1]
          exact h2
      obtain ⟨k1, k2⟩ := vr_dn hn htb hm hl l12 d (by omega) ch hx
      exact ⟨by omega, k2⟩
    · have em : m = m' := ofN_j (by omega) (by omega) m2
      rw [← em, hl] at m3
      have el : l = 12 - d := ofN_j (by omega) (by omega) m3
      rw [← em] at m4 m5
      have ed : 13 - l = d + 1 := by omega
      have ed2 : 12 - l = d := by omega
      rw [ed, ed2, m4, m5]
      exact ⟨Nat.le_refl _, h1, h2⟩
/-- a truth that stands for a block is the truth of all in it -/
theorem vr_cst (hn : n ≤ 24000) {x : Int32} (hx : x.toInt < 0) : ∀ d ch, vr r n tb d (ch / 2 ^ d) x → tb ch = x
  | 0, ch, h => by
    have h : x = tb (ch / 2 ^ 0) := h
    rw [show ch / 2 ^ 0 = ch by rw [Nat.pow_zero, Nat.div_one]] at h
    exact h.symm
  | d + 1, ch, h => by
    obtain ⟨y, z, h1, h2, h3⟩ := h
    have e : ch / 2 ^ (d + 1) = ch / 2 ^ d / 2 := by rw [Nat.pow_succ, Nat.div_div_eq_div_mul]
    rcases h3 with ⟨e1, e2⟩ | ⟨-, m', m1, m2, -⟩
    · refine vr_cst hn hx d ch ?_
      rw [e2]
      by_cases c : ch / 2 ^ d % 2 = 0
      · rw [e, show 2 * (ch / 2 ^ d / 2) = ch / 2 ^ d by omega] at h1
        exact h1
      · rw [e, show 2 * (ch / 2 ^ d / 2) + 1 = ch / 2 ^ d by omega] at h2
        rw [e1]
        exact h2
    · have tm : (Int32.ofNat m').toInt = (m' : Int) := Int32.toInt_ofNat_of_lt (by omega)
      rw [m2, tm] at hx
      omega
variable {G : hg_E} {S : hg_S} {oN : Nat} {bN : Nat → Nat}
/-- a way down the class's net -/
theorem ton_w (hv : NTv G S oN bN cap q.1 q.2) (hn : n ≤ 24000) (hU : mxU r n) (hI : ncI (fX q 8 (fun _ => 0)) r n made ph cap) (htb : ∀ c, tb c = -1 ∨ tb c = -2) {ch k : Nat} (hc : ch < 8192) (hk : k < made) (hr : vr r n tb 13 0 (nvC ph k)) : dc_wp (hm_NT_truthOn G S oN (Int32.ofNat ch) (Int32.ofNat k)) (fun v => (v = 1 ∧ tb ch = -1) ∨ (v = 0 ∧ tb ch = -2)) := by
  have i5 : ∀ k, 2 ≤ k → k < made → ph k < n ∧ ∃ l a c, l ≤ 12 ∧ a < k ∧ c < k ∧ q.1 4 k = Int32.ofNat (12 - l) ∧ r.2.1 101 (ph k) = Int32.ofNat l ∧ q.1 5 k = Int32.ofNat a ∧ r.2.1 102 (ph k) = nvC ph a ∧ q.1 6 k = Int32.ofNat c ∧ r.2.1 103 (ph k) = nvC ph c := hI.2.1
  have mc := hI.1.2.2.1
  have c32 := hI.1.2.2.2
  have nv : ∀ k, 2 ≤ k → nvC ph k = Int32.ofNat (ph k) := fun k h => by
    unfold nvC
    rw [if_neg (by omega), if_neg (by omega)]
  have key := dc_itK (step := hm_NT_truthOn_s5 G S oN (Int32.ofNat ch)) (fun d (y : Int32 × Int32) => ∃ k s, y.1 = Int32.ofNat k ∧ y.2 = Int32.ofNat s ∧ k < made ∧ d ≤ 13 ∧ s + d ≤ 13 ∧ vr r n tb d (ch / 2 ^ d) (nvC ph k)) (F := fun v => (v = 1 ∧ tb ch = -1) ∨ (v = 0 ∧ tb ch = -2)) (by
    rintro d ⟨y1, y2⟩ ⟨k, s, e1, e2, k1, d1, s1, hvr⟩
    have e1 : y1 = Int32.ofNat k := e1
    have e2 : y2 = Int32.ofNat s := e2
    subst e1 e2
    have tk : (Int32.ofNat k).toInt = (k : Int) := Int32.toInt_ofNat_of_lt (by omega)
    have tkn : (Int32.ofNat k).toInt.toNat = k := by omega
    have ts : (Int32.ofNat s).toInt = (s : Int) := Int32.toInt_ofNat_of_lt (by omega)
    show dc_wp (hm_NT_truthOn_b5 G S oN (Int32.ofNat ch) (Int32.ofNat k) (Int32.ofNat s)) _
    delta hm_NT_truthOn_b5
    refine wq_if (fun a => ?_) (fun a => ?_)
    · have a := i_lt.mp a
      rw [tk, il_2] at a
      have : k = 0 ∨ k = 1 := by omega
      rcases this with e | e
      · subst e
        exact ⟨_, rfl, Or.inr ⟨rfl, vr_cst hn (by decide) d ch hvr⟩⟩
      · subst e
        exact ⟨_, rfl, Or.inl ⟨rfl, vr_cst hn (by decide) d ch hvr⟩⟩
    · have a : ¬ (Int32.ofNat k).toInt < (2 : Int32).toInt := fun z => a (i_lt.mpr z)
      rw [tk, il_2] at a
      have k2 : 2 ≤ k := by omega
      obtain ⟨p1, l, x, c, l1, l2, l3, l4, l5, l6, l7, l8, l9⟩ := i5 k k2 k1
      rw [nv k k2] at hvr
      obtain ⟨g1, g2, g3⟩ := vr_dn hn htb p1 l5 l1 d d1 ch hvr
      rw [if_pos (by rw [i_lt, ts, il_13]; omega)]
      refine wq_gr (x := some (bN 4)) hv.1 rfl ?_
      refine wq_ld (hv.2 4 (by omega)) (by omega) (by show (Int32.ofNat k).toInt < (cap : Int); omega) ?_
      rw [tkn, l4, gb_u (by omega), gb_n (by omega)]
      have e13 : ch / 2 ^ (13 - l) = ch / 2 ^ (12 - l) / 2 := by rw [show 13 - l = (12 - l) + 1 by omega, Nat.pow_succ, Nat.div_div_eq_div_mul]
      have bit : ch.testBit (12 - l) = decide (ch / 2 ^ (12 - l) % 2 = 1) := Nat.testBit_eq_decide_div_mod_eq
      rw [bit]
      by_cases cc : ch / 2 ^ (12 - l) % 2 = 1
      · rw [decide_eq_true cc, if_pos rfl, if_neg (by decide)]
        refine wq_gr (x := some (bN 6)) hv.1 rfl ?_
        refine wq_ld (hv.2 6 (by omega)) (by omega) (by show (Int32.ofNat k).toInt < (cap : Int); omega) ?_
        rw [tkn, l8]
        delta hm_NT_truthOn_L45
        refine ⟨_, rfl, 12 - l, by omega, c, s + 1, rfl, ad_m (by omega), by omega, by omega, by omega, ?_⟩
        rw [e13, show 2 * (ch / 2 ^ (12 - l) / 2) + 1 = ch / 2 ^ (12 - l) by omega, l9] at g3
        exact g3
      · rw [decide_eq_false cc, if_neg (show ¬ (false = true) by decide), if_pos rfl]
        refine wq_gr (x := some (bN 5)) hv.1 rfl ?_
        refine wq_ld (hv.2 5 (by omega)) (by omega) (by show (Int32.ofNat k).toInt < (cap : Int); omega) ?_
        rw [tkn, l6]
        delta hm_NT_truthOn_L45
        refine ⟨_, rfl, 12 - l, by omega, x, s + 1, rfl, ad_m (by omega), by omega, by omega, by omega, ?_⟩
        rw [e13, show 2 * (ch / 2 ^ (12 - l) / 2) = ch / 2 ^ (12 - l) by omega, l7] at g2
        exact g2)
  delta hm_NT_truthOn hm_NT_truthOn_L5
  refine wq_call (key 13 (Int32.ofNat k, 0) ⟨k, 0, rfl, rfl, hk, by omega, by omega, ?_⟩) (fun v hv' => ⟨_, rfl, hv'⟩)
  rw [show ch / 2 ^ 13 = 0 by rw [Nat.div_eq_of_lt]; exact hc]
  exact hr
end PSS
section PSC
variable {G : hg_E} {S : hg_S} {M M0 : md_S} {oN n cap cnt ins out pa : Nat} {bN : Nat → Nat} {q : rsT} {o t : Nat} {nn f st en rn ex p1 : Int32} {ta rc hd sh pg : Value}
theorem tso_w (h : NLa G S M oN bN cap q n (out + pa + 1)) (hL : LYn M n (out + pa + 1)) (hT : ∀ c, c < 8192 → tbC M0 cnt ins out pa c (M.2.2.2 c)) {ch : Nat} (hc : ch < 8192) : dc_wp (hm_NT_truthsOn G S oN (Int32.ofNat ch)) (fun v => v = M.2.2.2 ch) := by
  obtain ⟨⟨hv, hinj⟩, -, ⟨h13, hF⟩, -, made, ph, hI, hR⟩ := h
  have n24 := hL.1.2
  have tF : (Int32.ofNat (out + pa + 1)).toInt = ((out + pa + 1 : Nat) : Int) := Int32.toInt_ofNat_of_lt (by omega)
  have htb : ∀ i k, tbv M i k = -1 ∨ tbv M i k = -2 := fun i k => by
    unfold tbv
    split
    · exact Or.inl rfl
    · exact Or.inr rfl
  have gt : ∀ i, tbv M i ch = -1 ↔ g64 (M.2.2.2 ch) i = true := fun i => by
    unfold tbv
    by_cases c : g64 (M.2.2.2 ch) i = true
    · rw [if_pos c]; exact ⟨fun _ => c, fun _ => rfl⟩
    · rw [if_neg c]; exact ⟨fun z => absurd z (by decide), fun z => absurd z c⟩
  have key := dc_itK (step := hm_NT_truthsOn_s5 G S oN (Int32.ofNat ch)) (fun d (y : Int64 × Int32) => ∃ i, y.2 = Int32.ofNat i ∧ i ≤ out + pa + 1 ∧ d = out + pa + 1 - i ∧ ∀ b, g64 y.1 b = true ↔ (b < i ∧ g64 (M.2.2.2 ch) b = true)) (F := fun v => v = M.2.2.2 ch) (by
    rintro d ⟨y1, y2⟩ ⟨i, e1, i1, ed, hy⟩
    have e1 : y2 = Int32.ofNat i := e1
    have hy' : ∀ b, g64 y1 b = true ↔ (b < i ∧ g64 (M.2.2.2 ch) b = true) := hy
    clear hy
    subst e1
    have ti : (Int32.ofNat i).toInt = (i : Int) := Int32.toInt_ofNat_of_lt (by omega)
    show dc_wp (hm_NT_truthsOn_b5 G S oN (Int32.ofNat ch) y1 (Int32.ofNat i)) _
    delta hm_NT_truthsOn_b5
    refine wq_gi (x := q.2 13) hv.1 rfl ?_
    rw [h13]
    refine wq_if (fun a => ?_) (fun a => ?_)
    · have a := i_lt.mp a
      rw [ti, tF] at a
      refine wq_gr (x := some (bN 3)) hv.1 rfl ?_
      refine wq_ld (hv.2 3 (by omega)) (by omega) (by show (Int32.ofNat i).toInt < ((64 : Nat) : Int); omega) ?_
      rw [show (Int32.ofNat i).toInt.toNat = i by omega]
      obtain ⟨k, k1, k2, k3⟩ := hR i (by omega)
      rw [k2]
      refine wq_chk hv.1 ?_
      refine wq_call (ton_w hv n24 hL.2.1.1 hI (htb i) hc k1 k3) (fun v hv' => ?_)
      refine wq_let (fun w ew => ?_)
      refine ⟨_, rfl, out + pa + 1 - (i + 1), by omega, i + 1, ad_m (by omega), by omega, rfl, fun b => ?_⟩
      show g64 w b = true ↔ _
      rw [ew, g64_or, Bool.or_eq_true, hy' b]
      have t1 : Int32.toInt64 1 = 1 := by decide
      have t0 : Int32.toInt64 0 = 0 := by decide
      rcases hv' with ⟨v1, v2⟩ | ⟨v1, v2⟩
      · have gi : g64 ((1 : Int64) <<< (Int32.toInt64 (Int32.ofNat i) &&& 63)) b = true ↔ b = i := by
          by_cases b6 : b < 64
          · rw [g64_1s i (by omega) b b6]
            exact decide_eq_true_iff
          · rw [g64_ge (by omega)]
            exact ⟨fun z => (by cases z), fun z => absurd z (by omega)⟩
        rw [v1, t1, gi]
        constructor
        · rintro (z | z)
          · exact ⟨by omega, z.2⟩
          · rw [z]; exact ⟨by omega, (gt i).mp v2⟩
        · rintro ⟨z1, z2⟩
          by_cases e : b = i
          · exact Or.inr e
          · exact Or.inl ⟨by omega, z2⟩
      · rw [v1, t0, g64_s0 i (by omega), g64_0]
        constructor
        · rintro (z | z)
          · exact ⟨by omega, z.2⟩
          · cases z
        · rintro ⟨z1, z2⟩
          refine Or.inl ⟨?_, z2⟩
          apply Classical.byContradiction
          intro c
          have e : b = i := by omega
          rw [e, ← gt i, v2] at z2
          exact absurd z2 (by decide)
    · have a : ¬ (Int32.ofNat i).toInt < (Int32.ofNat (out + pa + 1)).toInt := fun z => a (i_lt.mpr z)
      rw [ti, tF] at a
      refine ⟨_, rfl, g64_eq (fun b _ => ?_)⟩
      show g64 y1 b = _
      have h1 := hy' b
      cases c1 : g64 (M.2.2.2 ch) b
      · cases c2 : g64 y1 b
        · rfl
        · rw [c1, c2] at h1
          exact absurd (h1.mp rfl).2 (by decide)
      · obtain ⟨k, -, -, k3⟩ := (hT ch hc b).mp c1
        refine h1.mpr ⟨?_, c1⟩
        rcases k3 with w | w | w <;> omega)
  delta hm_NT_truthsOn hm_NT_truthsOn_L5
  refine wq_call (key (out + pa + 1) (0, 0) ⟨0, rfl, by omega, rfl, fun b => ?_⟩) (fun v hv' => ⟨_, rfl, hv'⟩)
  show g64 0 b = true ↔ _
  rw [g64_0]
  exact ⟨fun z => (by cases z), fun z => absurd z.1 (by omega)⟩
/-- pass -/
theorem xl_pass (he : hg_at S.1 o = some (.inr (0, enL t nn f pg rc hd sh st en rn ta (.ref oN) ex 1))) (h : NLa G S M oN bN cap q n (out + pa + 1)) (hL : LYn M n (out + pa + 1)) (hT : ∀ c, c < 8192 → tbC M0 cnt ins out pa c (M.2.2.2 c)) (h86 : M.1 86 = 1) (rm : 1 ≤ S.2.2.1 ∧ 6 ≤ S.2.2.2) {r : md_S × Int64} (hq : mm_pass M p1 = some r) : dc_wp (hm_SE_pass G S o p1) (fun z => (z = .inl (S, r.2) ∧ r.1 = md_i M 0 0) ∨ (z = .inr ((S.1, S.2.1 + 1, S.2.2.1 - 1, S.2.2.2 - 6), S.2.1, true) ∧ r.1 = md_i M 0 2)) := by
  have t8 : (8191 : Int32).toInt = 8191 := by decide
  have t9 : (8192 : Int32).toInt = 8192 := by decide
  delta mm_pass mm_pass_L13 at hq
  rw [if_neg (by rw [h86]; decide), if_neg (by rw [h86]; decide)] at hq
  have bad : mm_pass_L31 M p1 0 = some r → r.1 = md_i M 0 2 := fun hq => by
    delta mm_pass_L31 mm_pass_L36 at hq
    rw [f0_2] at hq
    have hq : (if (1 : Int32) = 0 then ((dc_ix p1 8192).bind fun j2 => some (md_i M 0 2, ((md_i M 0 2).2.2.2 j2))) else some (md_i M 0 2, 0)) = some r := hq
    rw [if_neg (by decide)] at hq
    rw [← Option.some.inj hq]
  delta hm_SE_pass hm_SE_pass_L26
  refine wq_gi (x := 1) he rfl ?_
  rw [if_neg (by decide)]
  rcases iv_if hq with ⟨a, hq⟩ | ⟨a, hq⟩
  · rw [if_pos a, if_pos rm]
    exact ⟨_, rfl, Or.inr ⟨rfl, bad hq⟩⟩
  rw [if_neg a]
  have a1 : 0 ≤ p1.toInt := by
    have : ¬ p1.toInt < (0 : Int32).toInt := fun z => a (i_lt.mpr z)
    rw [il_0] at this
    omega
  rcases iv_if hq with ⟨b, hq⟩ | ⟨b, hq⟩
  · have b := i_lt.mp b
    rw [t8] at b
    rw [if_neg (by rw [i_lt, t9]; omega), if_pos rm]
    exact ⟨_, rfl, Or.inr ⟨rfl, bad hq⟩⟩
  · have b : ¬ (8191 : Int32).toInt < p1.toInt := fun z => b (i_lt.mpr z)
    rw [t8] at b
    rw [if_pos (by rw [i_lt, t9]; omega)]
    have ep := ofN_t a1 (by omega)
    delta mm_pass_L35 mm_pass_L36 at hq
    rw [f0_0] at hq
    have hq : (if (0 : Int32) = 0 then ((dc_ix p1 8192).bind fun j2 => some (md_i M 0 0, ((md_i M 0 0).2.2.2 j2))) else some (md_i M 0 0, 0)) = some r := hq
    rw [if_pos rfl] at hq
    obtain ⟨-, -, hq⟩ := iv_ix hq
    have er : r = (md_i M 0 0, M.2.2.2 p1.toInt.toNat) := (Option.some.inj hq).symm
    have hv := h.1.1
    refine wq_gr (x := some oN) he rfl ?_
    refine wq_chk hv.1 ?_
    have key := tso_w h hL hT (ch := p1.toInt.toNat) (by omega)
    rw [ep] at key
    refine wq_call key (fun v hv' => ?_)
    exact ⟨_, rfl, Or.inl ⟨by rw [hv', er], by rw [er]⟩⟩
end PSC
