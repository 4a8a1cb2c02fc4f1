/-! spread: one node of the way down -/
def f1N (c1 : Nat → Option Nat) (F : Nat → Nat → Int32) (i : Nat) : Nat → Nat → Int32 := match c1 i with
  | none => F
  | some c => hgF F i c (F i 8 + 1) (if F i 0 = 6 then 1 else 0)
def f2N (c1 c2 : Nat → Option Nat) (F : Nat → Nat → Int32) (i : Nat) : Nat → Nat → Int32 := match c2 i with
  | none => F
  | some c => hgF F i c (F i 8 + 1 + exN F 7 (c1 i)) (if F i 0 = 5 then 1 else 0)
/-- what hangs below a node -/
def HE (c1 c2 : Nat → Option Nat) (F : Nat → Nat → Int32) (i : Nat) : Prop :=
  (∀ c, c1 i = some c → F c 8 = F i 8 + 1 ∧ F c 9 = F i 8 ∧ F c 10 = F i 10 + (if F i 0 = 8 then 1 else 0) ∧ F c 11 = F i 11 + (if F i 0 = 6 then 1 else 0)) ∧
  (∀ c, c2 i = some c → F c 8 = F i 8 + 1 + exN F 7 (c1 i) ∧ F c 9 = F i 8 ∧ F c 10 = F i 10 + (if F i 0 = 8 then 1 else 0) ∧ F c 11 = F i 11 + (if F i 0 = 5 then 1 else 0))
theorem f1N_n {c1 : Nat → Option Nat} {F : Nat → Nat → Int32} {i i' k' : Nat} (h : ¬ c1 i = some i' ∨ ¬ (8 ≤ k' ∧ k' ≤ 11)) : f1N c1 F i i' k' = F i' k' := by
  unfold f1N
  cases hc : c1 i with
  | none => rfl
  | some c =>
    refine hgF_n (h.imp (fun z e => z ?_) id)
    rw [hc, e]
theorem f2N_n {c1 c2 : Nat → Option Nat} {F : Nat → Nat → Int32} {i i' k' : Nat} (h : ¬ c2 i = some i' ∨ ¬ (8 ≤ k' ∧ k' ≤ 11)) : f2N c1 c2 F i i' k' = F i' k' := by
  unfold f2N
  cases hc : c2 i with
  | none => rfl
  | some c =>
    refine hgF_n (h.imp (fun z e => z ?_) id)
    rw [hc, e]
theorem f12_HE {c1 c2 : Nat → Option Nat} {F : Nat → Nat → Int32} {i : Nat} (hd : ∀ c, c1 i = some c → ¬ c2 i = some c) (h1 : ∀ c, c1 i = some c → ¬ c = i) (h2 : ∀ c, c2 i = some c → ¬ c = i) : HE c1 c2 (f2N c1 c2 (f1N c1 F i) i) i := by
  have n1 : ∀ k, f1N c1 F i i k = F i k := fun k => f1N_n (Or.inl (fun z => h1 i z rfl))
  have n2 : ∀ k, f2N c1 c2 (f1N c1 F i) i i k = F i k := fun k => (f2N_n (Or.inl (fun z => h2 i z rfl))).trans (n1 k)
  refine ⟨fun c hc => ?_, fun c hc => ?_⟩
  · have e : ∀ k, f2N c1 c2 (f1N c1 F i) i c k = f1N c1 F i c k := fun k => f2N_n (Or.inl (hd c hc))
    rw [e, e, e, e, n2, n2, n2, n2]
    have ef : f1N c1 F i = hgF F i c (F i 8 + 1) (if F i 0 = 6 then 1 else 0) := by
      unfold f1N
      rw [hc]
    rw [ef]
    exact hgF_c
  · have e7 : exN (f2N c1 c2 (f1N c1 F i) i) 7 (c1 i) = exN (f1N c1 F i) 7 (c1 i) := exN_cg (fun x _ => f2N_n (Or.inr (by omega)))
    rw [e7, n2, n2, n2, n2]
    have ef : f2N c1 c2 (f1N c1 F i) i = hgF (f1N c1 F i) i c (f1N c1 F i i 8 + 1 + exN (f1N c1 F i) 7 (c1 i)) (if f1N c1 F i i 0 = 5 then 1 else 0) := by
      unfold f2N
      rw [hc]
    rw [ef]
    have k := hgF_c (F := f1N c1 F i) (i := i) (c := c) (pl := f1N c1 F i i 8 + 1 + exN (f1N c1 F i) 7 (c1 i)) (more := if f1N c1 F i i 0 = 5 then 1 else 0)
    rw [n1, n1, n1, n1] at k
    rw [n1, n1]
    exact k
section SPR
variable {G : hg_E} {S S' : hg_S} {a5 a6 a7 m xA xc i : Nat} {P : Nat → Nat} {c1 c2 : Nat → Option Nat} {xx : Nat → Int32} {F : Nat → Nat → Int32} {D : Nat → Int32}
theorem st165 (v : DV G S a5 a6 a7 P m c1 c2 xA xc xx F D) (hi : i < m) : dc_wp (hm_DR_spread_L165 G S a5 (some (P i))) (fun S' => DV G S' a5 a6 a7 P m c1 c2 xA xc xx (f2N c1 c2 F i) D ∧ frD P m a5 S S') := by
  delta hm_DR_spread_L165
  refine wq_gr (x := (c2 i).map P) (v.nd hi) rfl ?_
  unfold f2N
  cases hc : c2 i with
  | none =>
    show dc_wp (if (none : Option Nat) = none then _ else _) _
    rw [if_pos rfl]
    exact ⟨_, rfl, v, frD.rf⟩
  | some c =>
    have hci := v.ch hi (Or.inr hc)
    show dc_wp (if some (P c) = none then _ else _) _
    rw [if_neg (fun z => by cases z)]
    refine wq_gi (x := F i 8) (v.nd hi) rfl ?_
    refine wq_gr (x := (c1 i).map P) (v.nd hi) rfl ?_
    refine wn_ext v (fun c' hc' => by have := v.ch hi (Or.inl hc'); omega) ?_
    show dc_wp ((hg_gr S (some (P i)) 8 3).bind _) _
    refine wq_gr (x := some (P c)) (v.nd hi) (by show some (va_rf ((c2 i).map P)) = _; rw [hc]; rfl) ?_
    refine wq_gi (x := F i 0) (v.nd hi) rfl ?_
    have key : ∀ y0 : Int32, y0 = (if F i 0 = 5 then 1 else 0) → dc_wp (hm_DR_spread_L206 G S a5 y0 (F i 8 + 1 + exN F 7 (c1 i)) (some (P i)) (some (P c))) (fun S' => DV G S' a5 a6 a7 P m c1 c2 xA xc xx (hgF F i c (F i 8 + 1 + exN F 7 (c1 i)) (if F i 0 = 5 then 1 else 0)) D ∧ frD P m a5 S S') := by
      intro y0 hy
      subst hy
      delta hm_DR_spread_L206
      refine wq_call (hang_w v hi (by omega) (by omega)) ?_
      intro S2 g
      exact ⟨_, rfl, g⟩
    refine wq_if (fun z => ?_) (fun z => ?_)
    · exact key 1 (if_pos z).symm
    · exact key 0 (if_neg z).symm
theorem st130 (v : DV G S a5 a6 a7 P m c1 c2 xA xc xx F D) (hi : i < m) : dc_wp (hm_DR_spread_L130 G S a5 (some (P i))) (fun S' => DV G S' a5 a6 a7 P m c1 c2 xA xc xx (f2N c1 c2 (f1N c1 F i) i) D ∧ frD P m a5 S S') := by
  delta hm_DR_spread_L130
  refine wq_gr (x := (c1 i).map P) (v.nd hi) rfl ?_
  cases hc : c1 i with
  | none =>
    show dc_wp (if (none : Option Nat) = none then _ else _) _
    rw [if_pos rfl]
    have e : f1N c1 F i = F := by
      unfold f1N
      rw [hc]
    rw [e]
    exact st165 v hi
  | some c =>
    have hci := v.ch hi (Or.inl hc)
    have e : f1N c1 F i = hgF F i c (F i 8 + 1) (if F i 0 = 6 then 1 else 0) := by
      unfold f1N
      rw [hc]
    rw [e]
    show dc_wp (if some (P c) = none then _ else _) _
    rw [if_neg (fun z => by cases z)]
    refine wq_gr (x := some (P c)) (v.nd hi) (by show some (va_rf ((c1 i).map P)) = _; rw [hc]; rfl) ?_
    refine wq_gi (x := F i 8) (v.nd hi) rfl ?_
    refine wq_gi (x := F i 0) (v.nd hi) rfl ?_
    have key : ∀ y0 : Int32, y0 = (if F i 0 = 6 then 1 else 0) → dc_wp (hm_DR_spread_L162 G S a5 (some (P i)) y0 (F i 8 + 1) (some (P i)) (some (P c))) (fun S' => DV G S' a5 a6 a7 P m c1 c2 xA xc xx (f2N c1 c2 (hgF F i c (F i 8 + 1) (if F i 0 = 6 then 1 else 0)) i) D ∧ frD P m a5 S S') := by
      intro y0 hy
      subst hy
      delta hm_DR_spread_L162
      refine wq_call (hang_w v hi (by omega) (by omega)) ?_
      rintro S2 ⟨w, fr⟩
      refine dc_mono (st165 w hi) ?_
      rintro S3 ⟨w3, fr3⟩
      exact ⟨w3, fr.tr fr3⟩
    refine wq_if (fun z => ?_) (fun z => ?_)
    · exact key 1 (if_pos z).symm
    · exact key 0 (if_neg z).symm
/-- the draft's numbers -/
theorem wn_dr (v : DV G S a5 a6 a7 P m c1 c2 xA xc xx F D) {k : Nat} {x : Int32} (hk : k = 2 ∨ k = 3 ∨ k = 4 ∨ k = 5) {τ : Type} {E : hg_S → Option τ} {Φ : τ → Prop} (kk : ∀ S', DV G S' a5 a6 a7 P m c1 c2 xA xc xx F (upd D k x) → frD P m a5 S S' → dc_wp (E S') Φ) : dc_wp ((hg_pf S (some a5) 6 k (.int x)).bind E) Φ := by
  refine wq_pf v.2.1 (show k < 6 by omega) ?_
  rcases hk with rfl | rfl | rfl | rfl
  · exact kk _ (DV_dr v (D' := upd D 2 x)).1 (DV_dr v (D' := upd D 2 x)).2
  · exact kk _ (DV_dr v (D' := upd D 3 x)).1 (DV_dr v (D' := upd D 3 x)).2
  · exact kk _ (DV_dr v (D' := upd D 4 x)).1 (DV_dr v (D' := upd D 4 x)).2
  · exact kk _ (DV_dr v (D' := upd D 5 x)).1 (DV_dr v (D' := upd D 5 x)).2
/-- depths of traps -/
def frE (P : Nat → Nat) (m a5 dA : Nat) (S S' : hg_S) : Prop := S'.2 = S.2 ∧ ∀ b, (∀ i, i < m → b ≠ P i) → b ≠ a5 → b ≠ dA → hg_at S'.1 b = hg_at S.1 b
variable {dA tm : Nat} {dd : Nat → Int32} {S2 : hg_S}
theorem frE.rf : frE P m a5 dA S S := ⟨rfl, fun _ _ _ _ => rfl⟩
theorem frE.tr (h : frE P m a5 dA S S') (g : frE P m a5 dA S' S2) : frE P m a5 dA S S2 := ⟨g.1.trans h.1, fun b h1 h2 h3 => (g.2 b h1 h2 h3).trans (h.2 b h1 h2 h3)⟩
theorem frE.of (h : frD P m a5 S S') : frE P m a5 dA S S' := ⟨h.1, fun b h1 h2 _ => h.2 b h1 h2⟩
theorem DV_st (v : DV G S a5 a6 a7 P m c1 c2 xA xc xx F D) (hd : hg_at S.1 dA = some (.inl (G.1 0, tm, .inl dd))) (ne : dA ≠ xA) {dd' : Nat → Int32} : DV G (hu S dA (.inl (G.1 0, tm, .inl dd'))) a5 a6 a7 P m c1 c2 xA xc xx F D ∧ frE P m a5 dA S (hu S dA (.inl (G.1 0, tm, .inl dd'))) := by
  obtain ⟨⟨w1, w2⟩, w3, ⟨y0, y1, y2, y4, y5, w4⟩, w5, ⟨e, md, cap, el, w6, w7, w8, w9⟩, w10⟩ := v
  have nn : ∀ {a : Nat} {y : va_E}, hg_at S.1 a = some y → (∀ c n g, ¬ y = .inl (c, n, .inl g)) → hg_at (hu S dA (.inl (G.1 0, tm, .inl dd'))).1 a = hg_at S.1 a := fun {a y} hy d => hu_ne (fun e => d _ _ _ (Option.some.inj ((e ▸ hy).symm.trans hd)))
  refine ⟨⟨⟨w1.hu, w2⟩, (nn w3 (fun _ _ _ z => by cases z)).trans w3, ⟨y0, y1, y2, y4, y5, (nn w4 (fun _ _ _ z => by cases z)).trans w4⟩, (hu_ne ne.symm).trans w5, ⟨e, md, cap, el, (nn w6 (fun _ _ _ z => by cases z)).trans w6, (nn w7 (fun _ _ _ z => by cases z)).trans w7, w8, w9⟩, fun i' hi' => ?_⟩, rfl, fun b _ _ h3 => hu_ne h3⟩
  obtain ⟨z1, z2, z3⟩ := w10 i' hi'
  exact ⟨(nn z1 (fun _ _ _ z => by cases z)).trans z1, z2, z3⟩
/-- the number of a node behind spread, the depths of traps behind it -/
def nuN (F : Nat → Nat → Int32) (dd : Nat → Int32) (i : Nat) : Int32 := if F i 5 = -1 then F i 4 else if F i 0 = 8 then F i 4 else F i 10 - dd (F i 5).toInt.toNat + 1
def ddN (F : Nat → Nat → Int32) (dd : Nat → Int32) (i : Nat) : Nat → Int32 := if F i 5 = -1 then dd else if F i 0 = 8 then upd dd (F i 5).toInt.toNat (F i 10) else dd
def spF (c1 c2 : Nat → Option Nat) (F : Nat → Nat → Int32) (dd : Nat → Int32) (i : Nat) : Nat → Nat → Int32 := f2N c1 c2 (f1N c1 (fU F i 4 (nuN F dd i)) i) i
theorem fU_id {F : Nat → Nat → Int32} {i k : Nat} : fU F i k (F i k) = F := by
  funext i' k'
  unfold fU
  by_cases c : i' = i ∧ k' = k
  · rw [if_pos c, c.1, c.2]
  · rw [if_neg c]
theorem st75 (v : DV G S a5 a6 a7 P m c1 c2 xA xc xx F D) (hd : hg_at S.1 dA = some (.inl (G.1 0, tm, .inl dd))) (hdn : ∀ i, i < m → dA ≠ P i) (hd5 : dA ≠ a5) (hdx : dA ≠ xA) (hi : i < m) (hn : ¬ F i 5 = -1 → 0 ≤ (F i 5).toInt ∧ (F i 5).toInt < (tm : Int)) : dc_wp (hm_DR_spread_L75 G S a5 (some (P i)) (some dA)) (fun S' => DV G S' a5 a6 a7 P m c1 c2 xA xc xx (spF c1 c2 F dd i) D ∧ hg_at S'.1 dA = some (.inl (G.1 0, tm, .inl (ddN F dd i))) ∧ frE P m a5 dA S S') := by
  unfold spF
  have fin : ∀ (S1 : hg_S) (F1 : Nat → Nat → Int32) (dd1 : Nat → Int32), F1 = fU F i 4 (nuN F dd i) → dd1 = ddN F dd i → DV G S1 a5 a6 a7 P m c1 c2 xA xc xx F1 D → hg_at S1.1 dA = some (.inl (G.1 0, tm, .inl dd1)) → frE P m a5 dA S S1 → dc_wp (hm_DR_spread_L130 G S1 a5 (some (P i))) (fun S' => DV G S' a5 a6 a7 P m c1 c2 xA xc xx (f2N c1 c2 (f1N c1 (fU F i 4 (nuN F dd i)) i) i) D ∧ hg_at S'.1 dA = some (.inl (G.1 0, tm, .inl (ddN F dd i))) ∧ frE P m a5 dA S S') := by
    intro S1 F1 dd1 e1 e2 w hd1 fr
    subst e1 e2
    refine dc_mono (st130 w hi) ?_
    rintro S2 ⟨w2, fr2⟩
    exact ⟨w2, (fr2.2 _ hdn hd5).trans hd1, fr.tr (frE.of fr2)⟩
  delta hm_DR_spread_L75
  refine wq_gi (x := F i 5) (v.nd hi) rfl ?_
  refine wq_if (fun z => ?_) (fun z => ?_)
  · delta hm_DR_spread_L105
    refine wq_gi (x := F i 5) (v.nd hi) rfl ?_
    rw [if_pos z]
    refine fin S F dd ?_ ?_ v hd frE.rf
    · unfold nuN
      rw [if_pos z, fU_id]
    · unfold ddN
      rw [if_pos z]
  · have hb := hn z
    refine wq_gi (x := F i 0) (v.nd hi) rfl ?_
    refine wq_if (fun y => ?_) (fun y => ?_)
    · refine wq_gi (x := F i 5) (v.nd hi) rfl ?_
      refine wq_gi (x := F i 10) (v.nd hi) rfl ?_
      refine wq_st hd hb.1 hb.2 ?_
      obtain ⟨w, fr⟩ := DV_st v hd hdx (dd' := upd dd (F i 5).toInt.toNat (F i 10))
      refine fin _ F _ ?_ ?_ w (hu_self hd) fr
      · unfold nuN
        rw [if_neg z, if_pos y, fU_id]
      · unfold ddN
        rw [if_neg z, if_pos y]
    · delta hm_DR_spread_L105
      refine wq_gi (x := F i 5) (v.nd hi) rfl ?_
      rw [if_neg z]
      refine wq_gi (x := F i 10) (v.nd hi) rfl ?_
      refine wq_gi (x := F i 5) (v.nd hi) rfl ?_
      refine wq_ld hd hb.1 hb.2 ?_
      refine wn_pf v hi (by omega) (ns (by omega)) ?_
      intro S1 w fr
      refine fin S1 _ dd ?_ ?_ w ((fr.2 _ hdn hd5).trans hd) (frE.of fr)
      · unfold nuN
        rw [if_neg z, if_neg y]
      · unfold ddN
        rw [if_neg z, if_neg y]
/-- what spread adds to the draft's numbers -/
def drN (F : Nat → Nat → Int32) (xx : Nat → Int32) (D D' : Nat → Int32) (i : Nat) : Prop := D' 2 = D 2 + F i 11 ∧ D' 3 = D 3 + (if F i 0 = 1 then 1 else 0) ∧ D' 4 = D 4 + (if F i 6 = -1 then 0 else xx (F i 6).toInt.toNat) ∧ D' 5 = dc_max (D 5) (F i 10)
theorem spread_w (v : DV G S a5 a6 a7 P m c1 c2 xA xc xx F D) (hd : hg_at S.1 dA = some (.inl (G.1 0, tm, .inl dd))) (hdn : ∀ i, i < m → dA ≠ P i) (hd5 : dA ≠ a5) (hdx : dA ≠ xA) (hi : i < m) (hn : ¬ F i 5 = -1 → 0 ≤ (F i 5).toInt ∧ (F i 5).toInt < (tm : Int)) (ht : ¬ F i 6 = -1 → 0 ≤ (F i 6).toInt ∧ (F i 6).toInt < (xc : Int)) : dc_wp (hm_DR_spread G S a5 (some (P i)) (some dA)) (fun S' => ∃ D', DV G S' a5 a6 a7 P m c1 c2 xA xc xx (spF c1 c2 F dd i) D' ∧ hg_at S'.1 dA = some (.inl (G.1 0, tm, .inl (ddN F dd i))) ∧ frE P m a5 dA S S' ∧ drN F xx D D' i) := by
  have L46 : ∀ (S1 : hg_S) (D1 : Nat → Int32), DV G S1 a5 a6 a7 P m c1 c2 xA xc xx F D1 → frD P m a5 S S1 → D1 2 = D 2 + F i 11 → D1 3 = D 3 + (if F i 0 = 1 then 1 else 0) → D1 4 = D 4 → D1 5 = dc_max (D 5) (F i 10) → dc_wp (hm_DR_spread_L46 G S1 a5 (some (P i)) (some dA)) (fun S' => ∃ D', DV G S' a5 a6 a7 P m c1 c2 xA xc xx (spF c1 c2 F dd i) D' ∧ hg_at S'.1 dA = some (.inl (G.1 0, tm, .inl (ddN F dd i))) ∧ frE P m a5 dA S S' ∧ drN F xx D D' i) := by
    intro S1 D1 w fr d2 d3 d4 d5
    have hd1 := (fr.2 _ hdn hd5).trans hd
    delta hm_DR_spread_L46
    refine wq_gi (x := F i 6) (w.nd hi) rfl ?_
    refine wq_if (fun z => ?_) (fun z => ?_)
    · refine dc_mono (st75 w hd1 hdn hd5 hdx hi hn) ?_
      rintro S2 ⟨w2, h2, fr2⟩
      exact ⟨D1, w2, h2, (frE.of fr).tr fr2, d2, d3, by rw [if_pos z, d4, Int32.add_zero], d5⟩
    · have hb := ht z
      refine wq_gi (x := D1 4) w.2.1 rfl ?_
      refine wq_gr (x := some a6) w.2.1 rfl ?_
      obtain ⟨y0, y1, y2, y4, y5, w4⟩ := w.2.2.1
      refine wq_gr (x := some xA) w4 rfl ?_
      refine wq_gi (x := F i 6) (w.nd hi) rfl ?_
      refine wq_ld w.2.2.2.1 hb.1 hb.2 ?_
      refine wn_dr w (by omega) ?_
      intro S2 w2 fr2
      refine dc_mono (st75 w2 ((fr2.2 _ hdn hd5).trans hd1) hdn hd5 hdx hi hn) ?_
      rintro S3 ⟨w3, h3, fr3⟩
      refine ⟨_, w3, h3, (frE.of (fr.tr fr2)).tr fr3, d2, d3, ?_, d5⟩
      show D1 4 + xx (F i 6).toInt.toNat = _
      rw [if_neg z, d4]
  delta hm_DR_spread
  refine wq_gi (x := D 2) v.2.1 rfl ?_
  refine wq_gi (x := F i 11) (v.nd hi) rfl ?_
  refine wn_dr v (by omega) ?_
  intro S1 w1 f1
  refine wq_gi (x := D 5) w1.2.1 rfl ?_
  refine wq_gi (x := F i 10) (w1.nd hi) rfl ?_
  refine wn_dr w1 (by omega) ?_
  intro S2 w2 f2
  refine wq_gi (x := F i 0) (w2.nd hi) rfl ?_
  refine wq_if (fun z => ?_) (fun z => ?_)
  · refine wq_gi (x := D 3) w2.2.1 rfl ?_
    refine wn_dr w2 (by omega) ?_
    intro S3 w3 f3
    exact L46 S3 _ w3 ((f1.tr f2).tr f3) rfl (by rw [if_pos z]; rfl) rfl rfl
  · exact L46 S2 _ w2 (f1.tr f2) rfl (by rw [if_neg z, Int32.add_zero]; rfl) rfl rfl
end SPR
