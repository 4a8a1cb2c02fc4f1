/-! a reaction of the reference: it ends, since each round finds out about one signal more -/
def sb_un (f : Nat → Int32) : Nat → Nat
  | 0 => 0
  | n + 1 => sb_un f n + if f n = 2 then 1 else 0
theorem sb_un_eq {f g : Nat → Int32} : ∀ {n : Nat}, (∀ j, j < n → g j = f j) → sb_un g n = sb_un f n := by
  intro n
  induction n with
  | zero => intro _; rfl
  | succ n ih => intro h; unfold sb_un; rw [ih (fun j hj => h j (by omega)), h n (by omega)]
theorem sb_un_up {f : Nat → Int32} {j : Nat} {v : Int32} (h2 : f j = 2) (hv : ¬ v = 2) : ∀ {n : Nat}, j < n → sb_un (upd f j v) n + 1 = sb_un f n := by
  intro n
  induction n with
  | zero => intro h; omega
  | succ n ih =>
    intro h
    have e1 : sb_un (upd f j v) (n + 1) = sb_un (upd f j v) n + if upd f j v n = 2 then 1 else 0 := rfl
    have e2 : sb_un f (n + 1) = sb_un f n + if f n = 2 then 1 else 0 := rfl
    rw [e1, e2]
    by_cases hz : n = j
    · rw [sb_un_eq (f := f) (fun i hi => sb_dn _ _ (by omega)), sb_ue _ _ hz, if_neg hv, hz, if_pos h2]
    · rw [sb_dn _ _ hz]
      have := ih (by omega)
      omega
theorem mm_learns_l {S : md_S} (h45 : 0 ≤ (S.1 45).toInt ∧ (S.1 45).toInt ≤ 31) (h50 : 62 ≤ (S.1 50).toInt ∧ (S.1 50).toInt ≤ 1662) : dc_wp (mm_learns S) (fun q => (q.2 = 0 ∨ q.2 = 1) ∧ (sb_un (q.1.2.1 70) (S.1 50).toInt.toNat : Int) + q.2.toInt ≤ (sb_un (S.2.1 70) (S.1 50).toInt.toNat : Int)) := by
  unfold mm_learns
  refine dc_letB ?_; rintro _ rfl
  unfold mm_learns_L7
  refine dc_loopI (fun z => md_fr [] [70] false false S z.1 ∧ (z.2.1 = 0 ∨ z.2.1 = 1) ∧ (0 ≤ z.2.2.toInt ∧ z.2.2.toInt ≤ (S.1 50).toInt) ∧ (sb_un (z.1.2.1 70) (S.1 50).toInt.toNat : Int) + z.2.1.toInt ≤ (sb_un (S.2.1 70) (S.1 50).toInt.toNat : Int)) (fun z => ((S.1 50).toInt - z.2.2.toInt).toNat) ⟨md_fr_rf, .inl rfl, by show 0 ≤ (S.1 45).toInt ∧ (S.1 45).toInt ≤ _; omega, by show (sb_un (S.2.1 70) (S.1 50).toInt.toNat : Int) + (0 : Int32).toInt ≤ _; rw [il_0]; omega⟩ ?_
  rintro ⟨S1, x1, x2⟩ ⟨f, hb, hx, hu⟩
  replace f : md_fr [] [70] false false S S1 := f
  replace hb : x1 = 0 ∨ x1 = 1 := hb
  replace hx : 0 ≤ x2.toInt ∧ x2.toInt ≤ (S.1 50).toInt := hx
  replace hu : (sb_un (S1.2.1 70) (S.1 50).toInt.toNat : Int) + x1.toInt ≤ (sb_un (S.2.1 70) (S.1 50).toInt.toNat : Int) := hu
  unfold mm_learns_s7 mm_learns_b7
  rw [f.1 50 (by decide)]
  refine dc_ifI (fun hlt => ?_) (fun _ => ?_)
  · have hlt : x2.toInt < (S.1 50).toInt := i_lt.mp hlt
    have e := ar1 hx.1 (by omega)
    have x1662 : x2.toInt < ((1662 : Nat) : Int) := by show x2.toInt < 1662; omega
    have L87 : ∀ (S2 : md_S) (y : Int32), md_fr [] [70] false false S S2 → (y = 0 ∨ y = 1) → (sb_un (S2.2.1 70) (S.1 50).toInt.toNat : Int) + y.toInt ≤ (sb_un (S.2.1 70) (S.1 50).toInt.toNat : Int) → dc_wp (mm_learns_L87 S2 y x2) (Sum.elim (fun z => (md_fr [] [70] false false S z.1 ∧ (z.2.1 = 0 ∨ z.2.1 = 1) ∧ (0 ≤ z.2.2.toInt ∧ z.2.2.toInt ≤ (S.1 50).toInt) ∧ (sb_un (z.1.2.1 70) (S.1 50).toInt.toNat : Int) + z.2.1.toInt ≤ (sb_un (S.2.1 70) (S.1 50).toInt.toNat : Int)) ∧ ((S.1 50).toInt - z.2.2.toInt).toNat < ((S.1 50).toInt - x2.toInt).toNat) (fun z => dc_wp (mm_learns_L93 z.1 z.2) (fun q => (q.2 = 0 ∨ q.2 = 1) ∧ (sb_un (q.1.2.1 70) (S.1 50).toInt.toNat : Int) + q.2.toInt ≤ (sb_un (S.2.1 70) (S.1 50).toInt.toNat : Int)))) := by
      intro S2 y f2 hy hu2
      unfold mm_learns_L87
      refine dc_ret ⟨⟨f2, hy, ?_, hu2⟩, ?_⟩
      · show 0 ≤ (x2 + 1).toInt ∧ (x2 + 1).toInt ≤ _; omega
      · show ((S.1 50).toInt - (x2 + 1).toInt).toNat < _
        rw [e]; exact inc_ms hx.1 hlt
    have L84 : ∀ v : Int32, ¬ v = 2 → S1.2.1 70 x2.toInt.toNat = 2 → dc_wp (mm_learns_L84 S1 x2 v x2) (Sum.elim (fun z => (md_fr [] [70] false false S z.1 ∧ (z.2.1 = 0 ∨ z.2.1 = 1) ∧ (0 ≤ z.2.2.toInt ∧ z.2.2.toInt ≤ (S.1 50).toInt) ∧ (sb_un (z.1.2.1 70) (S.1 50).toInt.toNat : Int) + z.2.1.toInt ≤ (sb_un (S.2.1 70) (S.1 50).toInt.toNat : Int)) ∧ ((S.1 50).toInt - z.2.2.toInt).toNat < ((S.1 50).toInt - x2.toInt).toNat) (fun z => dc_wp (mm_learns_L93 z.1 z.2) (fun q => (q.2 = 0 ∨ q.2 = 1) ∧ (sb_un (q.1.2.1 70) (S.1 50).toInt.toNat : Int) + q.2.toInt ≤ (sb_un (S.2.1 70) (S.1 50).toInt.toNat : Int)))) := by
      intro v hv h2
      unfold mm_learns_L84
      refine dc_ixT hx.1 x1662 ?_
      refine dc_letB ?_; intro S3 h3
      have e70 : S3.2.1 70 = upd (S1.2.1 70) x2.toInt.toNat v := by rw [h3]; rfl
      refine L87 S3 1 ⟨fun j hj => by rw [h3]; exact f.1 j hj, fun j hj => ?_, fun _ => by rw [h3]; exact f.2.2.1 rfl, fun _ => by rw [h3]; exact f.2.2.2 rfl⟩ (.inr rfl) ?_
      · rw [h3, md_a2, if_neg (fun h => hj (by rw [h]; decide))]; exact f.2.1 j hj
      · have := sb_un_up h2 hv (n := (S.1 50).toInt.toNat) (by omega)
        rw [e70, il_1]
        have hx0 : 0 ≤ x1.toInt := by rcases hb with h | h <;> rw [h] <;> decide
        omega
    have L34 : dc_wp (mm_learns_L34 S1 x1 x2) (Sum.elim (fun z => (md_fr [] [70] false false S z.1 ∧ (z.2.1 = 0 ∨ z.2.1 = 1) ∧ (0 ≤ z.2.2.toInt ∧ z.2.2.toInt ≤ (S.1 50).toInt) ∧ (sb_un (z.1.2.1 70) (S.1 50).toInt.toNat : Int) + z.2.1.toInt ≤ (sb_un (S.2.1 70) (S.1 50).toInt.toNat : Int)) ∧ ((S.1 50).toInt - z.2.2.toInt).toNat < ((S.1 50).toInt - x2.toInt).toNat) (fun z => dc_wp (mm_learns_L93 z.1 z.2) (fun q => (q.2 = 0 ∨ q.2 = 1) ∧ (sb_un (q.1.2.1 70) (S.1 50).toInt.toNat : Int) + q.2.toInt ≤ (sb_un (S.2.1 70) (S.1 50).toInt.toNat : Int)))) := by
      unfold mm_learns_L34
      refine dc_ixT hx.1 x1662 ?_
      refine dc_ifI (fun h2 => ?_) (fun _ => L87 _ _ f hb hu)
      have L65 : ∀ {G}, dc_wp (mm_learns_L84 S1 x2 0 x2) G → dc_wp (mm_learns_L84 S1 x2 1 x2) G → dc_wp (mm_learns_L65 S1 x2) G := by
        intro G g1 g2
        unfold mm_learns_L65
        refine dc_ixT hx.1 x1662 ?_
        exact dc_ifI (fun _ => g1) (fun _ => g2)
      refine dc_ixT hx.1 x1662 ?_
      refine dc_ifI (fun _ => ?_) (fun _ => L65 (L84 0 (by decide) h2) (L84 1 (by decide) h2))
      refine dc_ixT hx.1 x1662 ?_
      exact dc_ifI (fun _ => L65 (L84 0 (by decide) h2) (L84 1 (by decide) h2)) (fun _ => L87 _ _ f hb hu)
    refine dc_ifI (fun _ => L34) (fun _ => ?_)
    exact dc_ifI (fun _ => L87 _ _ f hb hu) (fun _ => L34)
  · refine dc_ret ?_
    show dc_wp (mm_learns_L93 S1 x1) _
    unfold mm_learns_L93
    exact dc_zbI hb (dc_ret ⟨hb, hu⟩)
/-- what a reaction keeps -/
def sb_RE (S q : md_S) : Prop := md_fr [78, 79, 80, 81] [67, 70, 71, 72, 73, 75, 76] false false S q ∧ sb_RW q
theorem sb_RE_PE {S q : md_S} (h : sb_RE S q) : sb_PE S q := sb_PE_fr h.1 (by decide) (by decide)
theorem sb_RE_RV {S q : md_S} (h : sb_RE S q) (v : sb_RV S) : sb_RV q := ⟨sb_PE_PF (sb_RE_PE h) v.1, h.2, by rw [h.1.2.1 74 (by decide)]; exact v.2.2⟩
theorem sb_RE_a {S q : md_S} (h : sb_RE S q) {k j : Nat} {x : Int32} (hk : ([67, 70, 72, 75, 76] : List Nat).contains k = true) : sb_RE S (md_a q k j x) := by
  have hk' : k ∈ [67, 70, 72, 75, 76] := List.contains_iff_mem.mp hk
  have hne : ¬ 73 = k ∧ ¬ 71 = k := by revert hk'; simp only [List.mem_cons, List.mem_nil_iff, or_false]; omega
  refine ⟨⟨h.1.1, fun i hi => ?_, h.1.2.2.1, h.1.2.2.2⟩, ⟨?_, ?_⟩⟩
  · rw [md_a2, if_neg (fun e => hi (by rw [e]; revert hk'; simp only [List.mem_cons, List.mem_nil_iff, or_false]; omega))]; exact h.1.2.1 i hi
  · rw [md_a2, if_neg hne.1]; exact h.2.1
  · rw [md_a2, if_neg hne.2]; exact h.2.2
theorem sb_RE_i {S q : md_S} (h : sb_RE S q) {k : Nat} {x : Int32} (hk : ([78, 79, 80, 81] : List Nat).contains k = true) : sb_RE S (md_i q k x) := by
  have hk' : k ∈ [78, 79, 80, 81] := List.contains_iff_mem.mp hk
  refine ⟨⟨fun i hi => ?_, h.1.2.1, h.1.2.2.1, h.1.2.2.2⟩, h.2⟩
  rw [md_i1, if_neg (fun e => hi (by rw [e]; exact hk'))]; exact h.1.1 i hi
theorem sb_RE_71 {S q : md_S} (h : sb_RE S q) {j : Nat} : sb_RE S (md_a q 71 j 0) := by
  refine ⟨⟨h.1.1, fun i hi => ?_, h.1.2.2.1, h.1.2.2.2⟩, ⟨h.2.1, fun i hi => ?_⟩⟩
  · rw [md_a2, if_neg (fun e => hi (by rw [e]; decide))]; exact h.1.2.1 i hi
  · show upd (q.2.1 71) j 0 i = 0 ∨ upd (q.2.1 71) j 0 i = 1
    by_cases hz : i = j
    · rw [sb_ue _ _ hz]; exact .inl rfl
    · rw [sb_dn _ _ hz]; exact h.2.2 i hi
theorem sb_RE_73 {S q : md_S} (h : sb_RE S q) {j : Nat} {x : Int32} (hx : 0 ≤ x.toInt ∧ x.toInt < 1662) : sb_RE S (md_a q 73 j x) := by
  refine ⟨⟨h.1.1, fun i hi => ?_, h.1.2.2.1, h.1.2.2.2⟩, ⟨fun i hi => ?_, h.2.2⟩⟩
  · rw [md_a2, if_neg (fun e => hi (by rw [e]; decide))]; exact h.1.2.1 i hi
  · show 0 ≤ (upd (q.2.1 73) j x i).toInt ∧ (upd (q.2.1 73) j x i).toInt < 1662
    by_cases hz : i = j
    · rw [sb_ue _ _ hz]; exact hx
    · rw [sb_dn _ _ hz]; exact h.2.1 i hi
theorem sb_RE_rf {S : md_S} (h : sb_RW S) : sb_RE S S := ⟨md_fr_rf, h⟩
theorem sb_RE_RQ {S q r : md_S} (h : sb_RE S q) (k : sb_RQ q r) : sb_RE S r := ⟨md_fr_tr h.1 k.1 (by decide), k.2.1⟩
/-- a loop that counts up to n -/
theorem dc_up {β ρ : Type} {step : md_S × Int32 → Option ((md_S × Int32) ⊕ β)} {f : β → Option ρ} {S : md_S} {x : Int32} {F : ρ → Prop} (n : Int) (hn : n ≤ 100000) (I : md_S → Prop) (h0 : I S) (hx : 0 ≤ x.toInt ∧ x.toInt ≤ n) (hs : ∀ S x, I S → 0 ≤ x.toInt → x.toInt ≤ n → dc_wp (step (S, x)) (Sum.elim (fun y => I y.1 ∧ y.2 = x + 1 ∧ x.toInt < n) (fun z => dc_wp (f z) F))) : dc_wp ((dc_it step (S, x)).bind f) F := by
  refine dc_loopI (fun z => I z.1 ∧ 0 ≤ z.2.toInt ∧ z.2.toInt ≤ n) (fun z => (n - z.2.toInt).toNat) ⟨h0, hx⟩ ?_
  rintro ⟨S1, y⟩ ⟨i1, y0, y1⟩
  replace y0 : 0 ≤ y.toInt := y0
  replace y1 : y.toInt ≤ n := y1
  refine dc_mono (hs S1 y i1 y0 y1) ?_
  rintro (⟨S2, z⟩ | z) hz
  · obtain ⟨a, b, c⟩ := hz
    replace b : z = y + 1 := b
    have e : z.toInt = y.toInt + 1 := by rw [b]; exact ar1 y0 (by omega)
    refine ⟨⟨a, by show 0 ≤ z.toInt; omega, by show z.toInt ≤ n; omega⟩, ?_⟩
    show (n - z.toInt).toNat < (n - y.toInt).toNat
    rw [e]; exact inc_ms y0 c
  · exact hz
