def sb_ws (f : Nat → Int32) : Nat → Int
  | 0 => 0
  | n + 1 => sb_ws f n + (f n).toInt
def sb_cl (kd : Nat → Int32) : Nat → Nat
  | 0 => 0
  | n + 1 => sb_cl kd n + if kd n = 10 then 1 else 0
theorem sb_ws_eq {f g : Nat → Int32} : ∀ {n : Nat}, (∀ j, j < n → g j = f j) → sb_ws g n = sb_ws f n := by
  intro n
  induction n with
  | zero => intro _; rfl
  | succ n ih => intro h; unfold sb_ws; rw [ih (fun j hj => h j (by omega)), h n (by omega)]
theorem sb_cl_eq {f g : Nat → Int32} : ∀ {n : Nat}, (∀ j, j < n → g j = f j) → sb_cl g n = sb_cl f n := by
  intro n
  induction n with
  | zero => intro _; rfl
  | succ n ih => intro h; unfold sb_cl; rw [ih (fun j hj => h j (by omega)), h n (by omega)]
theorem sb_ws_le {f : Nat → Int32} : ∀ {n : Nat}, (∀ j : Nat, j < n → 1 ≤ (f j).toInt ∧ (f j).toInt ≤ (j : Int) + 1) → (n : Int) ≤ sb_ws f n ∧ (n ≤ 1200 → sb_ws f n ≤ 1200 * (n : Int)) := by
  intro n
  induction n with
  | zero => intro _; exact ⟨by show (0 : Int) ≤ 0; omega, fun _ => by show (0 : Int) ≤ _; omega⟩
  | succ n ih =>
    intro h
    obtain ⟨i1, i2⟩ := ih (fun j hj => h j (by omega))
    have := h n (by omega)
    unfold sb_ws
    exact ⟨by omega, fun hn => by have := i2 (by omega); omega⟩
/-- a laid test is there -/
def sb_PR (S : md_S) (x : Int32) : Prop := 0 ≤ x.toInt ∧ x.toInt < (S.1 43).toInt ∧ ((S.1 43).toInt ≤ 1000 → 0 ≤ (S.2.1 66 x.toInt.toNat).toInt ∧ (S.2.1 66 x.toInt.toNat).toInt ≤ (S.1 43).toInt)
/-- what holds of what is laid -/
def sb_LI (S : md_S) : Prop :=
  (0 ≤ (S.1 42).toInt ∧ (S.1 42).toInt ≤ 1200) ∧ (0 ≤ (S.1 47).toInt ∧ (S.1 47).toInt ≤ (S.1 42).toInt) ∧ (0 ≤ (S.1 43).toInt ∧ (S.1 43).toInt ≤ 1000 * (S.1 42).toInt) ∧
  (S.1 48).toInt = sb_ws (S.2.1 57) (S.1 42).toInt.toNat ∧ sb_tO S ∧
  (∀ j : Nat, (j : Int) < (S.1 42).toInt → (0 ≤ (S.2.1 62 j).toInt ∧ (S.2.1 62 j).toInt ≤ (S.1 47).toInt) ∧ (1 ≤ (S.2.1 57 j).toInt ∧ (S.2.1 57 j).toInt ≤ (j : Int) + 1)) ∧
  ((S.1 43).toInt ≤ 1000 → ∀ i : Nat, (i : Int) < (S.1 43).toInt → sb_pl S i)
/-- pieces more -/
def sb_PM (S q : md_S) : Prop := ((S.1 43).toInt ≤ (q.1 43).toInt ∧ (q.1 43).toInt ≤ (S.1 43).toInt + 1000) ∧ (∀ i : Nat, (i : Int) < (S.1 43).toInt → q.2.1 63 i = S.2.1 63 i ∧ q.2.1 64 i = S.2.1 64 i ∧ q.2.1 65 i = S.2.1 65 i ∧ q.2.1 66 i = S.2.1 66 i) ∧ ((q.1 43).toInt ≤ 1000 → ∀ i : Nat, (S.1 43).toInt ≤ (i : Int) → (i : Int) < (q.1 43).toInt → sb_pl q i)
theorem sb_PR_PM {S q : md_S} (h : sb_PM S q) (x : Int32) (hx : sb_PR S x) : sb_PR q x := by
  obtain ⟨a, b, c⟩ := hx
  obtain ⟨⟨d1, d2⟩, e, _⟩ := h
  refine ⟨a, by omega, fun hq => ?_⟩
  rw [(e x.toInt.toNat (by omega)).2.2.2]
  have := c (by omega)
  omega
/-- the middle of a round -/
def sb_BR (S q : md_S) (k : Nat) (r : Nat) : Prop :=
  md_fr [43, 47] [54, 62, 63, 64, 65, 66, 99] false false S q ∧ q.2.1 62 = upd (S.2.1 62) k (S.1 47) ∧ (∀ j, ¬ j = k → q.2.1 54 j = S.2.1 54 j) ∧ sb_PM S q ∧
  ((S.2.1 51 k = 1 ∧ S.2.1 35 r = -1 ∧ q.1 47 = S.1 47 + 1 ∧ q.2.1 54 k = S.1 47) ∨ (¬ S.2.1 51 k = 1 ∧ q.1 47 = S.1 47 ∧ ((S.2.1 35 r = -1 ∧ q.2.1 54 k = S.2.1 54 k) ∨ (¬ S.2.1 35 r = -1 ∧ sb_PR q (q.2.1 54 k)))))
/-- what a tree of c nodes, laid, leaves as it was -/
def sb_LR (S q : md_S) (pp : Int) (c : Nat) (y : Int) : Prop :=
  md_fr [42, 43, 47, 48, 49] [39, 40, 51, 52, 53, 54, 56, 57, 58, 60, 62, 63, 64, 65, 66, 99] false false S q ∧ (q.1 42).toInt = (S.1 42).toInt + c ∧
  (∀ j : Nat, (j : Int) < (S.1 42).toInt → (q.2.1 51 j = S.2.1 51 j ∧ q.2.1 54 j = S.2.1 54 j ∧ q.2.1 57 j = S.2.1 57 j ∧ q.2.1 58 j = S.2.1 58 j ∧ q.2.1 60 j = S.2.1 60 j ∧ q.2.1 62 j = S.2.1 62 j) ∧ (¬ pp = 2 * (j : Int) → q.2.1 52 j = S.2.1 52 j) ∧ (¬ pp = 2 * (j : Int) + 1 → q.2.1 53 j = S.2.1 53 j) ∧ (pp = 2 * (j : Int) → q.2.1 52 j = S.1 42 ∧ (q.2.1 58 (S.1 42).toInt.toNat).toInt = (j : Int)) ∧ (pp = 2 * (j : Int) + 1 → q.2.1 53 j = S.1 42 ∧ (q.2.1 58 (S.1 42).toInt.toNat).toInt = (j : Int))) ∧
  (∀ x, sb_PR S x → sb_PR q x) ∧ (S.1 47).toInt ≤ (q.1 47).toInt ∧ (∀ i : Nat, (i : Int) < y → q.2.1 39 i = S.2.1 39 i ∧ q.2.1 40 i = S.2.1 40 i)
/-- one node is laid -/
def sb_LO (S q : md_S) (pp : Int) (r : Nat) (w : Int) (t : Int32) (y : Int) : Prop :=
  sb_LR S q pp 1 y ∧ sb_LI q ∧ q.2.1 51 (S.1 42).toInt.toNat = S.2.1 30 r ∧ q.2.1 52 (S.1 42).toInt.toNat = -1 ∧ q.2.1 53 (S.1 42).toInt.toNat = -1 ∧ (q.2.1 57 (S.1 42).toInt.toNat).toInt = w ∧ q.2.1 60 (S.1 42).toInt.toNat = t ∧
  (S.2.1 30 r = 1 → 0 ≤ (q.2.1 54 (S.1 42).toInt.toNat).toInt ∧ (q.2.1 54 (S.1 42).toInt.toNat).toInt < (q.1 47).toInt) ∧ (¬ S.2.1 35 r = -1 → sb_PR q (q.2.1 54 (S.1 42).toInt.toNat)) ∧ (¬ S.2.1 30 r = 1 → S.2.1 35 r = -1 → q.2.1 54 (S.1 42).toInt.toNat = S.2.1 33 r)
theorem ar1 {x : Int32} (h0 : 0 ≤ x.toInt) (h : x.toInt ≤ 100000) : (x + 1).toInt = x.toInt + 1 := by rw [a_add, il_1]; omega
theorem ar2 {x y : Int32} (h0 : 0 ≤ x.toInt) (h : x.toInt ≤ 10000000) (h1 : 0 ≤ y.toInt) (h2 : y.toInt ≤ 10000000) : (x + y).toInt = x.toInt + y.toInt := by rw [a_add]; omega
theorem nat_ne {i : Nat} {n : Int} (h : (i : Int) < n) : ¬ i = n.toNat := by omega
theorem nat_up {n : Int} (h : 0 ≤ n) : (n + 1).toNat = n.toNat + 1 := by omega
theorem lo_make {S q1 q2 q : md_S} {r : Nat} {up w t : Int32} {pp y : Int} (li : sb_LI S) (hk : (S.1 42).toInt < 1200) (fa : sb_FA S q1 r up w t) (br : sb_BR q1 q2 (S.1 42).toInt.toNat r) (hw : 1 ≤ w.toInt ∧ w.toInt ≤ (S.1 42).toInt + 1) (ht : t = -1 ∨ (0 ≤ t.toInt ∧ t.toInt < (S.1 42).toInt))
    (cr : ∃ aa, aa.all (fun k => [39, 40].contains k) = true ∧ md_fr [49] aa false false q2 q) (cp : ∀ i : Nat, (i : Int) < y → q.2.1 39 i = S.2.1 39 i ∧ q.2.1 40 i = S.2.1 40 i)
    (c52 : ∀ j : Nat, (j : Int) < (S.1 42).toInt → (¬ pp = 2 * (j : Int) → q1.2.1 52 j = S.2.1 52 j) ∧ (pp = 2 * (j : Int) → q1.2.1 52 j = S.1 42 ∧ up.toInt = (j : Int))) (d52 : q1.2.1 52 (S.1 42).toInt.toNat = -1)
    (c53 : ∀ j : Nat, (j : Int) < (S.1 42).toInt → (¬ pp = 2 * (j : Int) + 1 → q1.2.1 53 j = S.2.1 53 j) ∧ (pp = 2 * (j : Int) + 1 → q1.2.1 53 j = S.1 42 ∧ up.toInt = (j : Int))) (d53 : q1.2.1 53 (S.1 42).toInt.toNat = -1) : sb_LO S q pp r w.toInt t y := by
  obtain ⟨aa, haa, cr⟩ := cr
  obtain ⟨f0, f42, f48, f51, f54, f58, f57, f60⟩ := fa
  obtain ⟨b0, b62, b54, bpm, bc⟩ := br
  obtain ⟨⟨l0, l1⟩, ⟨l2, l3⟩, ⟨l4, l5⟩, l6, l7, l8, l9⟩ := li
  have haa2 : ∀ j, ¬ j = 39 → ¬ j = 40 → j ∉ aa := by
    intro j h1 h2 h3
    simp only [List.all_eq_true, List.contains_iff_mem, List.mem_cons, List.mem_nil_iff, or_false] at haa
    rcases haa j h3 with h | h
    · exact h1 h
    · exact h2 h
  have a : ∀ j, ¬ j = 39 → ¬ j = 40 → q.2.1 j = q2.2.1 j := fun j h1 h2 => cr.2.1 j (haa2 j h1 h2)
  -- the fields of q
  have e42 : q.1 42 = S.1 42 + 1 := by rw [cr.1 42 (by decide), b0.1 42 (by decide)]; exact f42
  have e42' : (q.1 42).toInt = (S.1 42).toInt + 1 := by rw [e42]; exact ar1 l0 (by omega)
  have e48 : q.1 48 = S.1 48 + w := by rw [cr.1 48 (by decide), b0.1 48 (by decide)]; exact f48
  have e51 : q.2.1 51 = upd (S.2.1 51) (S.1 42).toInt.toNat (S.2.1 30 r) := by rw [a 51 (by decide) (by decide), b0.2.1 51 (by decide)]; exact f51
  have e57 : q.2.1 57 = upd (S.2.1 57) (S.1 42).toInt.toNat w := by rw [a 57 (by decide) (by decide), b0.2.1 57 (by decide)]; exact f57
  have e58 : q.2.1 58 = upd (S.2.1 58) (S.1 42).toInt.toNat up := by rw [a 58 (by decide) (by decide), b0.2.1 58 (by decide)]; exact f58
  have e60 : q.2.1 60 = upd (S.2.1 60) (S.1 42).toInt.toNat t := by rw [a 60 (by decide) (by decide), b0.2.1 60 (by decide)]; exact f60
  have g47 : q1.1 47 = S.1 47 := f0.1 47 (by decide)
  have g43 : q1.1 43 = S.1 43 := f0.1 43 (by decide)
  have e62 : q.2.1 62 = upd (S.2.1 62) (S.1 42).toInt.toNat (S.1 47) := by rw [a 62 (by decide) (by decide), b62, g47, f0.2.1 62 (by decide)]
  have e54 : ∀ j : Nat, (j : Int) < (S.1 42).toInt → q.2.1 54 j = S.2.1 54 j := fun j hj => by
    rw [a 54 (by decide) (by decide), b54 j (nat_ne hj), f54, sb_dn _ _ (nat_ne hj)]
  have e52 : q.2.1 52 = q1.2.1 52 := by rw [a 52 (by decide) (by decide), b0.2.1 52 (by decide)]
  have e53 : q.2.1 53 = q1.2.1 53 := by rw [a 53 (by decide) (by decide), b0.2.1 53 (by decide)]
  have q43 : q.1 43 = q2.1 43 := cr.1 43 (by decide)
  have q47 : q.1 47 = q2.1 47 := cr.1 47 (by decide)
  have pm : sb_PM S q := by
    obtain ⟨p1, p2, p3⟩ := bpm
    rw [g43] at p1 p2 p3
    refine ⟨by rw [q43]; exact p1, fun i hi => ?_, fun hq i hi hi2 => ?_⟩
    · obtain ⟨y1, y2, y3, y4⟩ := p2 i hi
      rw [a 63 (by decide) (by decide), a 64 (by decide) (by decide), a 65 (by decide) (by decide), a 66 (by decide) (by decide), y1, y2, y3, y4, f0.2.1 63 (by decide), f0.2.1 64 (by decide), f0.2.1 65 (by decide), f0.2.1 66 (by decide)]
      exact ⟨rfl, rfl, rfl, rfl⟩
    · rw [q43] at hq hi2
      exact sb_pl_eq (by rw [a 63 (by decide) (by decide)]) (by rw [a 64 (by decide) (by decide)]) (by rw [a 65 (by decide) (by decide)]) (p3 hq i hi hi2)
  have m47 : (S.1 47).toInt ≤ (q.1 47).toInt ∧ (q.1 47).toInt ≤ (S.1 47).toInt + 1 := by
    rw [q47]
    rcases bc with ⟨_, _, h, _⟩ | ⟨_, h, _⟩
    · rw [h, g47, ar1 l2 (by omega)]; omega
    · rw [h, g47]; omega
  have k51 : q1.2.1 51 (S.1 42).toInt.toNat = S.2.1 30 r := by rw [f51, sb_up]
  have k35 : q1.2.1 35 r = S.2.1 35 r := by rw [f0.2.1 35 (by decide)]
  have k54 : q1.2.1 54 (S.1 42).toInt.toNat = S.2.1 33 r := by rw [f54, sb_up]
  have fr : md_fr [42, 43, 47, 48, 49] [39, 40, 51, 52, 53, 54, 56, 57, 58, 60, 62, 63, 64, 65, 66, 99] false false S q := by
    refine md_fr_tr (md_fr_tr (md_fr_tr (wi := [42, 43, 47, 48, 49]) (wa := [39, 40, 51, 52, 53, 54, 56, 57, 58, 60, 62, 63, 64, 65, 66, 99]) (bw := false) (bt := false) md_fr_rf f0 (by decide)) b0 (by decide)) cr ?_
    simp only [Bool.and_eq_true, List.all_eq_true, List.contains_iff_mem]
    refine ⟨⟨⟨by decide, fun j hj => ?_⟩, by decide⟩, by decide⟩
    by_cases h1 : j = 39
    · rw [h1]; decide
    · by_cases h2 : j = 40
      · rw [h2]; decide
      · exact absurd hj (haa2 j h1 h2)
  have en : (q.1 42).toInt.toNat = (S.1 42).toInt.toNat + 1 := by rw [e42']; exact nat_up l0
  refine ⟨⟨fr, e42', fun j hj => ⟨⟨?_, e54 j hj, ?_, ?_, ?_, ?_⟩, fun h => ?_, fun h => ?_, fun h => ?_, fun h => ?_⟩, fun x hx => sb_PR_PM pm x hx, m47.1, cp⟩, ⟨⟨?_, ?_⟩, ⟨?_, ?_⟩, ⟨?_, ?_⟩, ?_, ?_, ?_, ?_⟩, ?_, ?_, ?_, ?_, ?_, ?_, ?_, ?_⟩
  · rw [e51, sb_dn _ _ (nat_ne hj)]
  · rw [e57, sb_dn _ _ (nat_ne hj)]
  · rw [e58, sb_dn _ _ (nat_ne hj)]
  · rw [e60, sb_dn _ _ (nat_ne hj)]
  · rw [e62, sb_dn _ _ (nat_ne hj)]
  · rw [e52]; exact (c52 j hj).1 h
  · rw [e53]; exact (c53 j hj).1 h
  · rw [e52, e58, sb_up]; exact (c52 j hj).2 h
  · rw [e53, e58, sb_up]; exact (c53 j hj).2 h
  · omega
  · omega
  · omega
  · omega
  · have := pm.1; omega
  · have := pm.1; omega
  · have hb := sb_ws_le (f := S.2.1 57) (n := (S.1 42).toInt.toNat) (fun j hj => (l8 j (by omega)).2)
    have hb1 := hb.1; have hb2 := hb.2 (by omega)
    rw [e48, en]
    unfold sb_ws
    rw [sb_ws_eq (f := S.2.1 57) (fun j hj => by rw [e57, sb_dn _ _ (by omega)]), e57, sb_up, ← l6]
    exact ar2 (by omega) (by omega) (by omega) (by omega)
  · intro j hj
    rw [e60]
    by_cases hz : (j : Int) < (S.1 42).toInt
    · rw [sb_dn _ _ (nat_ne hz)]; exact l7 j hz
    · have : j = (S.1 42).toInt.toNat := by omega
      rw [this, sb_up]
      exact ht.imp id (fun h => by omega)
  · intro j hj
    rw [e62, e57]
    by_cases hz : (j : Int) < (S.1 42).toInt
    · rw [sb_dn _ _ (nat_ne hz), sb_dn _ _ (nat_ne hz)]
      have := l8 j hz
      omega
    · have hj2 : j = (S.1 42).toInt.toNat := by omega
      rw [hj2, sb_up, sb_up]
      omega
  · intro hq i hi
    by_cases hz : (i : Int) < (S.1 43).toInt
    · obtain ⟨y1, y2, y3, y4⟩ := pm.2.1 i hz
      exact sb_pl_eq y1 y2 y3 (l9 (by have := pm.1; omega) i hz)
    · exact pm.2.2 hq i (by omega) hi
  · rw [e51, sb_up]
  · rw [e52]; exact d52
  · rw [e53]; exact d53
  · rw [e57, sb_up]
  · rw [e60, sb_up]
  · intro h
    rcases bc with ⟨_, _, h1, h2⟩ | ⟨h1, _⟩
    · rw [a 54 (by decide) (by decide), h2, q47, h1, g47, ar1 l2 (by omega)]; omega
    · rw [k51] at h1; exact absurd h h1
  · intro h
    rcases bc with ⟨_, h1, _⟩ | ⟨_, _, ⟨h1, _⟩ | ⟨_, h1⟩⟩
    · rw [k35] at h1; exact absurd h1 h
    · rw [k35] at h1; exact absurd h1 h
    · rw [a 54 (by decide) (by decide)]
      unfold sb_PR at h1 ⊢
      rw [q43, a 66 (by decide) (by decide)]; exact h1
  · intro h h2
    rcases bc with ⟨h1, _⟩ | ⟨_, _, ⟨_, h1⟩ | ⟨h1, _⟩⟩
    · rw [k51] at h1; exact absurd h1 h
    · rw [a 54 (by decide) (by decide), h1, k54]
    · rw [k35] at h1; exact absurd h2 h1
