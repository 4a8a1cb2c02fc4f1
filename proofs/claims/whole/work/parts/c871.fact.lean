/-! what a statement adds: facts of its tree, nodes of the reference -/
theorem tsm_ext {kk ff xx xx' : Nat → Int32} {lo hi : Int} (he : ∀ k : Nat, (k : Int) < hi → xx' k = xx k) : ∀ (T : tT) (V : Int32 → Prop), okT (pOk kk ff xx lo hi) V T → tsm xx' T = tsm xx T
  | .const x, V, h => by
    show txx xx' (lT x).2.2.2.2.2 = txx xx (lT x).2.2.2.2.2
    rw [txx_n h.2.1, txx_n h.2.1]
  | .unary x a, V, h => by
    show txx xx' (lT x).2.2.2.2.2 + tsm xx' a = txx xx (lT x).2.2.2.2.2 + tsm xx a
    rw [tsm_ext he a _ h.2]
    rcases h.1.1 with ⟨-, z⟩ | ⟨-, z⟩
    · unfold txx
      rw [he (lT x).2.2.2.2.2.toInt.toNat (by have := z.1; omega)]
    · rw [txx_n z, txx_n z]
  | .binary x a b, V, h => by
    show txx xx' (lT x).2.2.2.2.2 + (tsm xx' a + tsm xx' b) = txx xx (lT x).2.2.2.2.2 + (tsm xx a + tsm xx b)
    rw [tsm_ext he a _ h.2.1, tsm_ext he b _ h.2.2]
    rcases h.1.1 with ⟨-, z⟩ | ⟨-, z⟩
    · unfold txx
      rw [he (lT x).2.2.2.2.2.toInt.toNat (by have := z.1; omega)]
    · rw [txx_n z, txx_n z]
theorem pOk_ext {kk ff xx kk' ff' xx' : Nat → Int32} {lo hi lo' hi' : Int} (he : ∀ k : Nat, (k : Int) < hi → kk' k = kk k ∧ ff' k = ff k ∧ xx' k = xx k) (h1 : lo' ≤ lo) (h2 : hi ≤ hi') {V V' : Int32 → Prop} {e : Int32} (hV : ∀ y, V y → V' y) (h : pOk kk ff xx lo hi V e) : pOk kk' ff' xx' lo' hi' V' e := by
  obtain ⟨⟨a1, a2, a3, a4⟩, a5⟩ := h
  have ex := (he e.toInt.toNat (by omega)).2.2
  unfold pOk
  rw [ex]
  refine ⟨⟨a1, by omega, a3, by omega⟩, fun k k1 k2 k3 => ?_⟩
  obtain ⟨b1, b2, -⟩ := he k (by omega)
  rw [b2]
  exact hV _ (a5 k k1 k2 (by rw [← b1]; exact k3))
theorem FU_ext {kk ff xx kk' ff' xx' : Nat → Int32} {lo hi lo' hi' : Int} (he : ∀ k : Nat, (k : Int) < hi → kk' k = kk k ∧ ff' k = ff k ∧ xx' k = xx k) (h1 : lo' ≤ lo) (h2 : hi ≤ hi') {V V' : Int32 → Prop} (hV : ∀ y, V y → V' y) {T : tT} {c : Nat} {t : Int} {L : List Int32} (h : FU (pOk kk ff xx lo hi) xx V T c t L) : FU (pOk kk' ff' xx' lo' hi') xx' V' T c t L := by
  obtain ⟨a1, a2, a3, a4⟩ := h
  exact ⟨okT_V (θ := pOk kk ff xx lo hi) (θ' := pOk kk' ff' xx' lo' hi') (fun V V' e hV h => pOk_ext he h1 h2 hV h) T V V' hV a1, a2, (tsm_ext (fun k hk => (he k hk).2.2) T V a1).trans a3, a4⟩
def FG (θ : (Int32 → Prop) → Int32 → Prop) (xx : Nat → Int32) (V : Int32 → Prop) (T : tT) (c : Nat) (a m0 m1 : Int) : Prop := ∃ t L, FU θ xx V T c t L ∧ (a ≤ t ∧ t ≤ 3 * a) ∧ (∀ y, y ∈ L → m0 ≤ y.toInt ∧ y.toInt < m1) ∧ L.Nodup
theorem FG_1 {θ : (Int32 → Prop) → Int32 → Prop} {xx : Nat → Int32} {V V' : Int32 → Prop} {T T' : tT} {c c' : Nat} {a a' m0 m1 m0' m1' k ka : Int} (h : FG θ xx V T c a m0 m1) (hF : ∀ t L, FU θ xx V T c t L → FU θ xx V' T' c' (k + t) L) (hk : ka ≤ k ∧ k ≤ 3 * ka) (ea : a' = ka + a) (h0 : m0' ≤ m0) (h1 : m1 ≤ m1') : FG θ xx V' T' c' a' m0' m1' := by
  obtain ⟨t, L, f1, f2, f3, f4⟩ := h
  exact ⟨k + t, L, hF t L f1, by omega, fun y hy => by have := f3 y hy; omega, f4⟩
theorem FG_2 {θ : (Int32 → Prop) → Int32 → Prop} {xx : Nat → Int32} {V : Int32 → Prop} {T1 T2 T : tT} {c1 c2 c : Nat} {a1 a2 a m0 m1 m2 m3 m0' m3' k ka : Int} (h : FG θ xx V T1 c1 a1 m0 m1) (g : FG θ xx V T2 c2 a2 m2 m3) (hF : ∀ t L t' L', FU θ xx V T1 c1 t L → FU θ xx V T2 c2 t' L' → FU θ xx V T c (k + (t + t')) (L ++ L')) (hk : ka ≤ k ∧ k ≤ 3 * ka) (ea : a = ka + (a1 + a2)) (h12 : m1 ≤ m2) (hm : m0' ≤ m0 ∧ m0' ≤ m2 ∧ m1 ≤ m3' ∧ m3 ≤ m3') : FG θ xx V T c a m0' m3' := by
  obtain ⟨t, L, f1, f2, f3, f4⟩ := h
  obtain ⟨t', L', g1, g2, g3, g4⟩ := g
  refine ⟨k + (t + t'), L ++ L', hF _ _ _ _ f1 g1, by omega, fun y hy => ?_, List.nodup_append.mpr ⟨f4, g4, fun y hy z hz e => ?_⟩⟩
  · rcases List.mem_append.mp hy with z | z
    · have := f3 y z; omega
    · have := g3 y z; omega
  · subst e
    have a1 := f3 y hy
    have a2 := g3 y hz
    omega
theorem FG.up {θ : (Int32 → Prop) → Int32 → Prop} {xx : Nat → Int32} {V : Int32 → Prop} {T : tT} {c c' : Nat} {a m0 m1 : Int} (h : FG θ xx V T c a m0 m1) (hc : c / 100 ≤ c' / 100 ∧ c % 100 ≤ c' % 100) : FG θ xx V T c' a m0 m1 := by
  obtain ⟨t, L, f1, f2⟩ := h
  exact ⟨t, L, f1.up hc, f2⟩
/-- a tree with a test, without local signals -/
theorem FG_0 {θ : (Int32 → Prop) → Int32 → Prop} {xx : Nat → Int32} {V : Int32 → Prop} {T : tT} {c : Nat} {a t m0 m1 : Int} (h : FU θ xx V T c t []) (ht : a ≤ t ∧ t ≤ 3 * a) : FG θ xx V T c a m0 m1 := ⟨t, [], h, ht, fun y hy => absurd hy List.not_mem_nil, List.nodup_nil⟩
def FB (M : md_S) (Q : Nat → Int32) (B : Nat → Nat → Int32) (M' : md_S) (Q' : Nat → Int32) (B' : Nat → Nat → Int32) (c : Nat) (T : tT) : Prop :=
  FG (pOk (B' 6) (B' 7) (B' 9) (Q 11).toInt (Q' 11).toInt) (B' 9) (sV B M) T c ((Q' 11).toInt - (Q 11).toInt) (M.1 15).toInt (M'.1 15).toInt
def GK (k w : Int) (M M' : md_S) : Prop := M.1 12 = 0 → (M.1 27).toInt + k ≤ 1200 → w ≤ 1000 → M'.1 12 = 0 ∧ (M'.1 27).toInt = (M.1 27).toInt + k
section FBS
variable {A C A1 C1 A2 C2 A' C' P P1 P2 P' : Nat → Nat} {B B1 B2 B' : Nat → Nat → Int32} {Q Q1 Q2 Q' : Nat → Int32} {ND ND1 ND2 ND' : Nat → ndT} {M M' N N1 N2 : md_S} {c c' : Nat} {T : tT} {x : Int32} {k k1 k2 w w1 w2 : Int}
theorem sV_ev (ev : evS A C B Q P ND M A1 C1 B1 Q1 P1 ND1 N) : ∀ y, sV B1 N y → sV B M y := by
  rintro y ⟨i, i1, i2⟩
  rw [ev.2.2.1.2.2.2.2.1] at i1
  exact ⟨i, i1, by rw [← ev.2.2.2.2.2.2.2.2.1 i i1]; exact i2⟩
theorem evS_he (ev : evS A C B Q P ND M A1 C1 B1 Q1 P1 ND1 N) : ∀ k : Nat, (k : Int) < (Q 11).toInt → B1 6 k = B 6 k ∧ B1 7 k = B 7 k ∧ B1 9 k = B 9 k := by
  intro k hk
  obtain ⟨a1, a2, -, a4⟩ := ev.2.2.2.2.1.2 k (by omega)
  exact ⟨a1, a2, a4⟩
/-- facts of a part, seen from the whole -/
theorem FB.get (h : FB N Q1 B1 N2 Q2 B2 c T) (ev0 : evS A C B Q P ND M A1 C1 B1 Q1 P1 ND1 N) (ev2 : evS A2 C2 B2 Q2 P2 ND2 N2 A' C' B' Q' P' ND' M') : FG (pOk (B' 6) (B' 7) (B' 9) (Q 11).toInt (Q' 11).toInt) (B' 9) (sV B M) T c ((Q2 11).toInt - (Q1 11).toInt) (N.1 15).toInt (N2.1 15).toInt := by
  obtain ⟨t, L, a1, a2, a3, a4⟩ := h
  exact ⟨t, L, FU_ext (evS_he ev2) ev0.2.2.2.2.1.1 ev2.2.2.2.2.1.1 (sV_ev ev0) a1, a2, a3, a4⟩
theorem FB.get0 (h : FB N Q1 B1 N2 Q2 B2 c T) (hV : ∀ y, sV B1 N y → sV B M y) (h1 : (Q 11).toInt ≤ (Q1 11).toInt) (he : ∀ k : Nat, (k : Int) < (Q2 11).toInt → B' 6 k = B2 6 k ∧ B' 7 k = B2 7 k ∧ B' 9 k = B2 9 k) (h2 : (Q2 11).toInt ≤ (Q' 11).toInt) : FG (pOk (B' 6) (B' 7) (B' 9) (Q 11).toInt (Q' 11).toInt) (B' 9) (sV B M) T c ((Q2 11).toInt - (Q1 11).toInt) (N.1 15).toInt (N2.1 15).toInt := by
  obtain ⟨t, L, a1, a2, a3, a4⟩ := h
  exact ⟨t, L, FU_ext he h1 h2 hV a1, a2, a3, a4⟩
theorem sV_adv (r : radv M N) : ∀ y, sV B N y → sV B M y := by
  rintro y ⟨i, i1, i2⟩
  rw [r.1 18 (by omega) (by omega) (by omega) (by omega) (by omega)] at i1
  exact ⟨i, i1, i2⟩
/-- a test, seen from the whole -/
theorem tst_ok (ev0 : evS A C B Q P ND M A1 C1 B1 Q1 P1 ND1 N) (ev1 : evT A1 C1 B1 Q1 N A2 C2 B2 Q2 N2) (ex : x.toInt = (Q2 11).toInt - 1) (ext : (B2 9 x.toInt.toNat).toInt = (Q2 11).toInt - (Q1 11).toInt) (eq : (Q1 11).toInt < (Q2 11).toInt) (h0 : 0 ≤ (Q1 11).toInt) (ev2 : evS A2 C2 B2 Q2 P2 ND2 N2 A' C' B' Q' P' ND' M') : pOk (B' 6) (B' 7) (B' 9) (Q 11).toInt (Q' 11).toInt (sV B M) x ∧ txx (B' 9) x = (Q2 11).toInt - (Q1 11).toInt := by
  have nx : ¬ x = -1 := by
    intro z
    rw [z, show (-1 : Int32).toInt = -1 by decide] at ex
    omega
  have e9 := (evS_he ev2 x.toInt.toNat (by omega)).2.2
  refine ⟨pOk_ext (V := sV B1 N) (evS_he ev2) ev0.2.2.2.2.1.1 ev2.2.2.2.2.1.1 (sV_ev ev0) (lo := (Q1 11).toInt) (hi := (Q2 11).toInt) ⟨⟨by omega, by omega, by omega, by omega⟩, fun k k1 k2 k3 => ?_⟩, ?_⟩
  · exact ev1.2.2.2.2.2.2.2.2.2.2.2.2 k (by omega) (by omega) k3
  · unfold txx
    rw [if_neg nx, e9, ext]
theorem FB.mv (h : FB N Q1 B1 N2 Q2 B2 c T) (ev0 : evS A C B Q P ND M A1 C1 B1 Q1 P1 ND1 N) (ev2 : evS A2 C2 B2 Q2 P2 ND2 N2 A' C' B' Q' P' ND' M') (e1 : Q1 11 = Q 11) (e2 : Q' 11 = Q2 11) (hc : c / 100 ≤ c' / 100 ∧ c % 100 ≤ c' % 100) : FB M Q B M' Q' B' c' T := by
  obtain ⟨t, L, a1, a2, a3, a4⟩ := h.get ev0 ev2
  rw [e1, ← e2] at a2
  have h1 := ev0.2.2.2.2.2.2.2.2.2
  have h2 := ev2.2.2.2.2.2.2.2.2.2
  exact ⟨t, L, a1.up hc, a2, fun y hy => by have := a3 y hy; omega, a4⟩
theorem FB.mv0 (h : FB N Q1 B1 N2 Q2 B2 c T) (hV : ∀ y, sV B1 N y → sV B M y) (e1 : Q1 11 = Q 11) (h1 : (M.1 15).toInt ≤ (N.1 15).toInt) (he : ∀ k : Nat, (k : Int) < (Q2 11).toInt → B' 6 k = B2 6 k ∧ B' 7 k = B2 7 k ∧ B' 9 k = B2 9 k) (e2 : Q' 11 = Q2 11) (h2 : (N2.1 15).toInt ≤ (M'.1 15).toInt) (hc : c / 100 ≤ c' / 100 ∧ c % 100 ≤ c' % 100) : FB M Q B M' Q' B' c' T := by
  obtain ⟨t, L, a1, a2, a3, a4⟩ := h.get0 (Q := Q) (Q' := Q') hV (by rw [e1]; exact Int.le_refl _) he (by rw [e2]; exact Int.le_refl _)
  rw [e1, ← e2] at a2
  exact ⟨t, L, a1.up hc, a2, fun y hy => by have := a3 y hy; omega, a4⟩
theorem FB.up (h : FB M Q B M' Q' B' c T) (hc : c / 100 ≤ c' / 100 ∧ c % 100 ≤ c' % 100) : FB M Q B M' Q' B' c' T := FG.up h hc
theorem FB.q (h : FB M Q B M' Q1 B' c T) (e : Q' 11 = Q1 11) : FB M Q B M' Q' B' c T := by
  unfold FB at h ⊢
  rw [e]
  exact h
/-- no test, no local signal -/
theorem FB_0 (h : FU (pOk (B' 6) (B' 7) (B' 9) (Q 11).toInt (Q' 11).toInt) (B' 9) (sV B M) T c 0 []) (e : Q' 11 = Q 11) : FB M Q B M' Q' B' c T := FG_0 h (by rw [e]; omega)
theorem gk_0 (h1 : M'.1 12 = M.1 12) (h2 : M'.1 27 = M.1 27) : GK 0 w M M' := fun z _ _ => ⟨h1.trans z, by rw [h2]; omega⟩
theorem gk_tr (h : GK k1 w1 M N) (g : GK k2 w2 N M') (hw : w1 ≤ w2) (h2 : 0 ≤ k2) (e : k = k1 + k2) : GK k w2 M M' := by
  intro z1 z2 z3
  obtain ⟨a1, a2⟩ := h z1 (by omega) (by omega)
  obtain ⟨b1, b2⟩ := g a1 (by omega) z3
  exact ⟨b1, by omega⟩
theorem gk_w (h : GK k w1 M M') (hw : w1 ≤ w) : GK k w M M' := fun z1 z2 z3 => h z1 z2 (by omega)
theorem gk_adv (r : radv M M') : GK 0 w M M' := gk_0 (r.1 12 (by omega) (by omega) (by omega) (by omega) (by omega)) (r.1 27 (by omega) (by omega) (by omega) (by omega) (by omega))
theorem gk_i {i : Nat} {v : Int32} (h : ¬ i = 12 ∧ ¬ i = 27) : GK 0 w M (md_i M i v) := gk_0 (md_ij (by omega)) (md_ij (by omega))
theorem gk_T (ev : evT A C B Q M A1 C1 B1 Q1 N) : GK 0 (Q1 11).toInt M N := fun z _ z3 => ⟨ev.2.2.2.2.2.2.2.2.2.2.2.1 z z3, by rw [ev.2.2.2.2.1 27 (by omega) (by omega) (by omega)]; omega⟩
theorem gk_node {kd c1 c2 nu l e : Int32} {q : md_S × Int32} (hq : mm_node_IIIIII M kd c1 c2 nu l e = some q) : GK 1 w M q.1 := by
  delta mm_node_IIIIII at hq
  rcases iv_if hq with ⟨c, g⟩ | ⟨c, g⟩
  · intro z1 z2 _
    have := congrArg Int32.toInt c
    rw [show (1200 : Int32).toInt = 1200 by decide] at this
    omega
  · obtain ⟨x1, x2, g⟩ := iv_ix g
    obtain ⟨-, -, g⟩ := iv_ix g
    obtain ⟨-, -, g⟩ := iv_ix g
    obtain ⟨-, -, g⟩ := iv_ix g
    obtain ⟨-, -, g⟩ := iv_ix g
    obtain ⟨-, -, g⟩ := iv_ix g
    have g : some (md_i (md_a (md_a (md_a (md_a (md_a (md_a M 30 (M.1 27).toInt.toNat kd) 31 (M.1 27).toInt.toNat c1) 32 (M.1 27).toInt.toNat c2) 33 (M.1 27).toInt.toNat nu) 34 (M.1 27).toInt.toNat l) 35 (M.1 27).toInt.toNat e) 27 (M.1 27 + 1), (M.1 27 + 1) - 1) = some q := g
    have g := (Option.some.inj g).symm
    subst g
    have e1 : (M.1 27 + 1).toInt = (M.1 27).toInt + 1 := by rw [i_addS (by rw [il_1]; omega), il_1]
    intro z1 _ _
    exact ⟨z1, e1⟩
theorem gk_leaf {kd nu l : Int32} {q : md_S × Int32} (hq : mm_leaf M kd nu l = some q) : GK 1 w M q.1 := by
  delta mm_leaf at hq
  obtain ⟨q1, e1, hq⟩ := iv_bind hq
  have hq := (Option.some.inj hq).symm
  subst hq
  exact gk_node e1
theorem gk_halt {l : Int32} {q : md_S × Int32} (hq : mm_halt M l = some q) : GK 2 w M q.1 := by
  delta mm_halt at hq
  obtain ⟨q1, e1, hq⟩ := iv_bind hq
  obtain ⟨q2, e2, hq⟩ := iv_bind hq
  have hq := (Option.some.inj hq).symm
  subst hq
  exact gk_tr (gk_leaf (w := w) e1) (gk_node e2) (Int.le_refl _) (by omega) (by omega)
theorem gk_wait {l e sv : Int32} {q : md_S × Int32} (hq : mm_waiting M l e sv = some q) : GK 6 w M q.1 := by
  delta mm_waiting at hq
  obtain ⟨q1, e1, hq⟩ := iv_bind hq
  obtain ⟨q2, e2, hq⟩ := iv_bind hq
  obtain ⟨q3, e3, hq⟩ := iv_bind hq
  obtain ⟨q4, e4, hq⟩ := iv_bind hq
  obtain ⟨q5, e5, hq⟩ := iv_bind hq
  obtain ⟨q6, e6, hq⟩ := iv_bind hq
  have hq := (Option.some.inj hq).symm
  subst hq
  have a2 := gk_tr (k := 2) (gk_leaf (w := w) e1) (gk_leaf (w := w) e2) (Int.le_refl _) (by omega) (by omega)
  have a3 := gk_tr (k := 3) a2 (gk_leaf (w := w) e3) (Int.le_refl _) (by omega) (by omega)
  have a4 := gk_tr (k := 4) a3 (gk_node (w := w) e4) (Int.le_refl _) (by omega) (by omega)
  have a5 := gk_tr (k := 5) a4 (gk_node (w := w) e5) (Int.le_refl _) (by omega) (by omega)
  exact gk_tr a5 (gk_node (w := w) e6) (Int.le_refl _) (by omega) (by omega)
theorem gk_await {l e : Int32} {q : md_S × Int32} (hq : mm_await M l e = some q) : GK 7 w M q.1 := by
  delta mm_await at hq
  have hq : (mm_waiting (md_i (md_i M 20 (M.1 20 + 1)) 29 2) l e (M.1 20 + 1)).bind (fun q4 => (mm_node_IIIIII q4.1 8 q4.2 (-1) (M.1 20 + 1) l (-1)).bind fun q5 => some (q5.1, q5.2)) = some q := hq
  obtain ⟨q1, e1, hq⟩ := iv_bind hq
  obtain ⟨q2, e2, hq⟩ := iv_bind hq
  have hq := (Option.some.inj hq).symm
  subst hq
  have a0 : GK 0 w M (md_i (md_i M 20 (M.1 20 + 1)) 29 2) := gk_0 rfl rfl
  have a1 := gk_tr (k := 6) a0 (gk_wait (w := w) e1) (Int.le_refl _) (by omega) (by omega)
  exact gk_tr a1 (gk_node (w := w) e2) (Int.le_refl _) (by omega) (by omega)
theorem gk_abt {l e s weak inner : Int32} {q : md_S × Int32} (hq : mm_aborted M l s e weak inner = some q) : GK (10 + (if weak = 0 then 1 else 0)) w M q.1 := by
  have h78 : ∀ (N : md_S) (y sv : Int32), mm_aborted_L78 N l e sv y = some q → GK 10 w N q.1 := by
    intro N y sv hq
    delta mm_aborted_L78 at hq
    obtain ⟨q1, e1, hq⟩ := iv_bind hq
    obtain ⟨q2, e2, hq⟩ := iv_bind hq
    obtain ⟨q3, e3, hq⟩ := iv_bind hq
    obtain ⟨q4, e4, hq⟩ := iv_bind hq
    obtain ⟨q5, e5, hq⟩ := iv_bind hq
    have hq := (Option.some.inj hq).symm
    subst hq
    have a2 := gk_tr (k := 2) (gk_leaf (w := w) e1) (gk_node (w := w) e2) (Int.le_refl _) (by omega) (by omega)
    have a3 := gk_tr (k := 8) a2 (gk_wait (w := w) e3) (Int.le_refl _) (by omega) (by omega)
    have a4 := gk_tr (k := 9) a3 (gk_node (w := w) e4) (Int.le_refl _) (by omega) (by omega)
    exact gk_tr a4 (gk_node (w := w) e5) (Int.le_refl _) (by omega) (by omega)
  have h49 : ∀ (N : md_S) (y sv : Int32), mm_aborted_L49 N l s e weak sv y = some q → GK (10 + (if weak = 0 then 1 else 0)) w N q.1 := by
    intro N y sv hq
    delta mm_aborted_L49 at hq
    obtain ⟨p, -, hq⟩ := iv_bind hq
    obtain ⟨c, -, hq⟩ := iv_bind hq
    have hq : (if weak = 0 then ((mm_node_IIIIII (md_i N 29 c) 4 s (-1) (-1) l e).bind fun q9 => mm_aborted_L78 q9.1 l e sv q9.2) else (mm_aborted_L78 (md_i N 29 c) l e sv s)) = some q := hq
    have a0 : GK 0 w N (md_i N 29 c) := gk_0 rfl rfl
    rcases iv_if hq with ⟨w0, hq⟩ | ⟨w0, hq⟩
    · obtain ⟨q9, e9, hq⟩ := iv_bind hq
      rw [if_pos w0]
      have a1 := gk_tr (k := 1) a0 (gk_node (w := w) e9) (Int.le_refl _) (by omega) (by omega)
      exact gk_tr a1 (h78 _ _ _ hq) (Int.le_refl _) (by omega) (by omega)
    · rw [if_neg w0]
      exact gk_tr a0 (h78 _ _ _ hq) (Int.le_refl _) (by omega) (by omega)
  delta mm_aborted at hq
  have hq : (if (cAb inner &&& 1) = 0 then (mm_aborted_L49 (md_i M 20 (M.1 20 + 1)) l s e weak (M.1 20 + 1) (cAb inner)) else (mm_aborted_L49 (md_i M 20 (M.1 20 + 1)) l s e weak (M.1 20 + 1) ((cAb inner &&& (-2)) ||| 4))) = some q := hq
  have a0 : GK 0 w M (md_i M 20 (M.1 20 + 1)) := gk_0 rfl rfl
  have kp : 0 ≤ (10 + (if weak = 0 then 1 else 0) : Int) := by
    by_cases c : weak = 0
    · rw [if_pos c]; omega
    · rw [if_neg c]; omega
  rcases iv_if hq with ⟨c0, hq⟩ | ⟨c0, hq⟩
  · exact gk_tr a0 (h49 _ _ _ hq) (Int.le_refl _) kp (by omega)
  · exact gk_tr a0 (h49 _ _ _ hq) (Int.le_refl _) kp (by omega)
theorem gk_again {l e s inner : Int32} {q : md_S × Int32} (hq : mm_again M l s e inner = some q) : GK 15 w M q.1 := by
  delta mm_again at hq
  obtain ⟨q1, e1, hq⟩ := iv_bind hq
  obtain ⟨q2, e2, hq⟩ := iv_bind hq
  obtain ⟨t, et, hq⟩ := iv_bind hq
  obtain ⟨q4, e4, hq⟩ := iv_bind hq
  obtain ⟨q5, e5, hq⟩ := iv_bind hq
  have hq := (Option.some.inj hq).symm
  subst hq
  have a2 := gk_tr (k := 3) (gk_halt (w := w) e1) (gk_node (w := w) e2) (Int.le_refl _) (by omega) (by omega)
  have a4 := gk_abt (w := w) e4
  rw [if_pos rfl] at a4
  have a5 := gk_tr (k := 14) a2 a4 (Int.le_refl _) (by omega) (by omega)
  exact gk_tr a5 (gk_node (w := w) e5) (Int.le_refl _) (by omega) (by omega)
end FBS
