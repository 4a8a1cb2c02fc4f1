/-! the class's multiplexers beside the reference's -/
/-- a number of the class's net, as the reference has it -/
def nvC (ph : Nat → Nat) (k : Nat) : Int32 := if k = 0 then -2 else if k = 1 then -1 else Int32.ofNat (ph k)
def hcl (b a c : Int32) : Int32 := ((b + (31 * a)) + (1009 * c)) &&& 4095
theorem and_12 (x : Int32) : ∃ m, m < 4096 ∧ x &&& 4095 = Int32.ofNat m := by
  refine ⟨(x &&& 4095).toBitVec.toNat, ?_, ?_⟩
  · rw [Int32.toBitVec_and, BitVec.toNat_and]
    have : (4095 : Int32).toBitVec.toNat = 4095 := by decide
    rw [this]
    have := Nat.and_le_right (n := x.toBitVec.toNat) (m := 4095)
    omega
  · refine Int32.toBitVec_inj.mp ?_
    rw [Int32.toBitVec_ofNat', BitVec.ofNat_toNat, BitVec.setWidth_eq]
/-- it lies on the chain of h -/
def onC (q : rsT) (h k : Nat) : Prop := 2 ≤ k ∧ hcl (q.1 4 k) (q.1 5 k) (q.1 6 k) = Int32.ofNat h
/-- those made so far, each beside one of the reference -/
def ncI (q : rsT) (r : md_S) (n made : Nat) (ph : Nat → Nat) (cap : Nat) : Prop :=
  (q.2 9 = Int32.ofNat made ∧ 2 ≤ made ∧ made ≤ cap ∧ cap ≤ 32768) ∧
  (∀ k, 2 ≤ k → k < made → ph k < n ∧ ∃ l a c, l ≤ 12 ∧ a < k ∧ c < k ∧ q.1 4 k = Int32.ofNat (12 - l) ∧ r.2.1 101 (ph k) = Int32.ofNat l ∧ q.1 5 k = Int32.ofNat a ∧ r.2.1 102 (ph k) = nvC ph a ∧ q.1 6 k = Int32.ofNat c ∧ r.2.1 103 (ph k) = nvC ph c) ∧
  (∀ k k', 2 ≤ k → k < made → 2 ≤ k' → k' < made → ph k = ph k' → k = k') ∧
  ((∀ h, h < 4096 → isP (onC q h) made (q.1 1 h)) ∧ ∀ k h, k < made → h < 4096 → onC q h k → isP (onC q h) k (q.1 7 k)) ∧
  (∀ b, b < 13 → q.1 2 b = Int32.ofNat (ctP (fun k => 2 ≤ k ∧ q.1 4 k = Int32.ofNat b) made)) ∧
  ∀ k, k < cap → q.1 8 k = 0
section MUX
variable {G : hg_E} {E : nwE} {S : hg_S} {bb : Nat → Nat} {cap : Nat} {q : rsT} {r : md_S} {n made : Nat} {ph : Nat → Nat}
theorem nvC_i (hI : ncI q r n made ph cap) (hn : n ≤ 24000) {k k' : Nat} (hk : k < made) (hk' : k' < made) (e : nvC ph k = nvC ph k') : k = k' := by
  have nz : ∀ k, 2 ≤ k → k < made → (Int32.ofNat (ph k)).toInt = (ph k : Int) := fun k h1 h2 => Int32.toInt_ofNat_of_lt (by have := (hI.2.1 k h1 h2).1; omega)
  have v0 : nvC ph 0 = -2 := rfl
  have v1 : nvC ph 1 = -1 := rfl
  have v2 : ∀ k, 2 ≤ k → nvC ph k = Int32.ofNat (ph k) := fun k h => by
    unfold nvC
    rw [if_neg (by omega), if_neg (by omega)]
  have c : ∀ k, k < made → (k = 0 ∧ (nvC ph k).toInt = -2) ∨ (k = 1 ∧ (nvC ph k).toInt = -1) ∨ (2 ≤ k ∧ (nvC ph k).toInt = (ph k : Int)) := fun k hk => by
    by_cases c0 : k = 0
    · left; rw [c0, v0]; exact ⟨rfl, il_m2⟩
    · by_cases c1 : k = 1
      · right; left; rw [c1, v1]; exact ⟨rfl, il_m1⟩
      · right; right
        rw [v2 k (by omega)]
        exact ⟨by omega, nz k (by omega) hk⟩
  have e := i_eq.mp e
  rcases c k hk with ⟨a1, a2⟩ | ⟨a1, a2⟩ | ⟨a1, a2⟩ <;> rcases c k' hk' with ⟨b1, b2⟩ | ⟨b1, b2⟩ | ⟨b1, b2⟩
  · omega
  · omega
  · omega
  · omega
  · omega
  · omega
  · omega
  · omega
  · exact hI.2.2.1 k k' a1 hk b1 hk' (by omega)
theorem ct_2 : ∀ m, ctP (fun k => 2 ≤ k) m = m - 2
  | 0 => rfl
  | m + 1 => by
    by_cases c : 2 ≤ m
    · rw [ctP_y (P := fun k => 2 ≤ k) c, ct_2 m]; omega
    · rw [ctP_n (P := fun k => 2 ≤ k) c, ct_2 m]; omega
theorem nc_le (hI : ncI q r n made ph cap) : made ≤ n + 2 := by
  have h := ctP_inj (P := fun k => 2 ≤ k) (f := ph) (m := n) made (fun _ => True) (fun k hk hP => ⟨(hI.2.1 k hP hk).1, trivial⟩) (fun i j hi hj hP hQ e => hI.2.2.1 i j hP hi hQ hj e)
  rw [ct_2] at h
  have := ctP_le (P := fun _ => True) n
  have := hI.1.2.1
  omega
/-- what stays of the net while one is made -/
def nuF (q q' : rsT) : Prop := (q'.1 0 = q.1 0 ∧ q'.1 3 = q.1 3) ∧ ∀ i, ¬ i = 9 → q'.2 i = q.2 i
/-- one is added -/
theorem ad_w (hN : NW G E S bb cap q) (hI : ncI q r n made ph cap) (hn : n ≤ 24000) (hlt : made < cap) {b a c h m : Nat} (hb : b ≤ 12) (ha : a < made) (hc : c < made) (hh : h < 4096) (eh : hcl (Int32.ofNat b) (Int32.ofNat a) (Int32.ofNat c) = Int32.ofNat h) (hm : m < n ∧ r.2.1 101 m = Int32.ofNat (12 - b) ∧ r.2.1 102 m = nvC ph a ∧ r.2.1 103 m = nvC ph c) (hno : ∀ k, 2 ≤ k → k < made → ¬ ph k = m) : dc_wp (hm_NT_add_L22 G S E.2.1 (Int32.ofNat b) (Int32.ofNat a) (Int32.ofNat c) (Int32.ofNat h)) (fun z => ∃ q', z.2 = Int32.ofNat made ∧ NW G E z.1 bb cap q' ∧ ncI q' r n (made + 1) (fun k => if k = made then m else ph k) cap ∧ nuF q q') := by
  obtain ⟨⟨i1, i2, i3, i4⟩, i5, i6, ⟨i7, i8⟩, i9, i10⟩ := hI
  have tm : (Int32.ofNat made).toInt = (made : Int) := Int32.toInt_ofNat_of_lt (by omega)
  have tmn : (Int32.ofNat made).toInt.toNat = made := by omega
  have th : (Int32.ofNat h).toInt = (h : Int) := Int32.toInt_ofNat_of_lt (by omega)
  have thn : (Int32.ofNat h).toInt.toNat = h := by omega
  have tb : (Int32.ofNat b).toInt = (b : Int) := Int32.toInt_ofNat_of_lt (by omega)
  have tbn : (Int32.ofNat b).toInt.toNat = b := by omega
  have n4 : ∀ i, 4 ≤ i → (nN cap i : Int) = cap := fun i hi => by
    unfold nN
    rw [if_neg (by omega), if_neg (by omega), if_neg (by omega)]
  have n1 : (nN cap 1 : Int) = 4096 := rfl
  have n2 : (nN cap 2 : Int) = 13 := rfl
  delta hm_NT_add_L22
  refine nw_g hN (i := 4) (by decide) ?_
  refine nw_i hN (i := 9) (by decide) (by decide) ?_
  rw [i1]
  refine nw_s hN (i := 4) (by decide) (by omega) (by rw [n4 4 (by omega)]; omega) (fun S1 g1 => ?_)
  rw [tmn] at g1
  refine nw_g g1 (i := 5) (by decide) ?_
  refine nw_i g1 (i := 9) (by decide) (by decide) ?_
  rw [show (uX q 4 made (Int32.ofNat b)).2 9 = Int32.ofNat made from i1]
  refine nw_s g1 (i := 5) (by decide) (by omega) (by rw [n4 5 (by omega)]; omega) (fun S2 g2 => ?_)
  rw [tmn] at g2
  refine nw_g g2 (i := 6) (by decide) ?_
  refine nw_i g2 (i := 9) (by decide) (by decide) ?_
  rw [show (uX (uX q 4 made (Int32.ofNat b)) 5 made (Int32.ofNat a)).2 9 = Int32.ofNat made from i1]
  refine nw_s g2 (i := 6) (by decide) (by omega) (by rw [n4 6 (by omega)]; omega) (fun S3 g3 => ?_)
  rw [tmn] at g3
  clear g1 g2
  generalize hq3 : uX (uX (uX q 4 made (Int32.ofNat b)) 5 made (Int32.ofNat a)) 6 made (Int32.ofNat c) = q3 at g3
  have a4 : q3.1 4 = upd (q.1 4) made (Int32.ofNat b) := by rw [← hq3, uX_n (by omega), uX_n (by omega), uX_s]
  have a5 : q3.1 5 = upd (q.1 5) made (Int32.ofNat a) := by rw [← hq3, uX_n (by omega), uX_s, uX_n (by omega)]
  have a6 : q3.1 6 = upd (q.1 6) made (Int32.ofNat c) := by rw [← hq3, uX_s, uX_n (by omega), uX_n (by omega)]
  have ax : ∀ i, ¬ i = 4 → ¬ i = 5 → ¬ i = 6 → q3.1 i = q.1 i := fun i h4 h5 h6 => by rw [← hq3, uX_n h6, uX_n h5, uX_n h4]
  have ac : q3.2 = q.2 := by rw [← hq3]; rfl
  refine nw_g g3 (i := 7) (by decide) ?_
  refine nw_i g3 (i := 9) (by decide) (by decide) ?_
  rw [ac, i1]
  refine nw_g g3 (i := 1) (by decide) ?_
  refine nw_l g3 (i := 1) (by decide) (by omega) (by rw [n1]; omega) ?_
  rw [thn, ax 1 (by omega) (by omega) (by omega)]
  refine nw_s g3 (i := 7) (by decide) (by omega) (by rw [n4 7 (by omega)]; omega) (fun S4 g4 => ?_)
  rw [tmn] at g4
  refine nw_g g4 (i := 1) (by decide) ?_
  refine nw_i g4 (i := 9) (by decide) (by decide) ?_
  rw [show (uX q3 7 made (q.1 1 h)).2 9 = Int32.ofNat made by rw [show (uX q3 7 made (q.1 1 h)).2 = q3.2 from rfl, ac]; exact i1]
  refine nw_s g4 (i := 1) (by decide) (by omega) (by rw [n1]; omega) (fun S5 g5 => ?_)
  rw [thn] at g5
  refine nw_g g5 (i := 2) (by decide) ?_
  refine nw_l g5 (i := 2) (by decide) (by omega) (by rw [n2]; omega) ?_
  refine nw_s g5 (i := 2) (by decide) (by omega) (by rw [n2]; omega) (fun S6 g6 => ?_)
  rw [tbn] at g6
  refine nw_i g6 (i := 9) (by decide) (by decide) ?_
  refine nw_f g6 (j := 9) (by decide) (by decide) (fun S7 g7 => ?_)
  refine nw_i g7 (i := 9) (by decide) (by decide) ?_
  generalize hq7 : uC (uX (uX (uX q3 7 made (q.1 1 h)) 1 h (Int32.ofNat made)) 2 b ((uX (uX q3 7 made (q.1 1 h)) 1 h (Int32.ofNat made)).1 2 b + 1)) 9 ((uX (uX (uX q3 7 made (q.1 1 h)) 1 h (Int32.ofNat made)) 2 b ((uX (uX q3 7 made (q.1 1 h)) 1 h (Int32.ofNat made)).1 2 b + 1)).2 9 + 1) = q7 at g7
  have b4 : q7.1 4 = upd (q.1 4) made (Int32.ofNat b) := by rw [← hq7, uC_1, uX_n (by omega), uX_n (by omega), uX_n (by omega), a4]
  have b5 : q7.1 5 = upd (q.1 5) made (Int32.ofNat a) := by rw [← hq7, uC_1, uX_n (by omega), uX_n (by omega), uX_n (by omega), a5]
  have b6 : q7.1 6 = upd (q.1 6) made (Int32.ofNat c) := by rw [← hq7, uC_1, uX_n (by omega), uX_n (by omega), uX_n (by omega), a6]
  have b7 : q7.1 7 = upd (q.1 7) made (q.1 1 h) := by rw [← hq7, uC_1, uX_n (by omega), uX_n (by omega), uX_s, ax 7 (by omega) (by omega) (by omega)]
  have b1 : q7.1 1 = upd (q.1 1) h (Int32.ofNat made) := by rw [← hq7, uC_1, uX_n (by omega), uX_s, uX_n (by omega), ax 1 (by omega) (by omega) (by omega)]
  have b2 : q7.1 2 = upd (q.1 2) b (q.1 2 b + 1) := by rw [← hq7, uC_1, uX_s, uX_n (by omega), uX_n (by omega), ax 2 (by omega) (by omega) (by omega)]
  have bx : ∀ i, ¬ i = 1 → ¬ i = 2 → ¬ (4 ≤ i ∧ i ≤ 7) → q7.1 i = q.1 i := fun i h1 h2 h3 => by rw [← hq7, uC_1, uX_n h2, uX_n h1, uX_n (by omega), ax i (by omega) (by omega) (by omega)]
  have c9 : q7.2 9 = Int32.ofNat (made + 1) := by
    rw [← hq7, uC_s]
    show q3.2 9 + 1 = _
    rw [ac, i1, ad_m (by omega)]
  have cx : ∀ i, ¬ i = 9 → q7.2 i = q.2 i := fun i hi => by
    rw [← hq7, uC_n hi]
    show q3.2 i = _
    rw [ac]
  rw [c9]
  have old : ∀ k, k < made → nvC (fun k => if k = made then m else ph k) k = nvC ph k := fun k hk => by
    have e : (fun k => if k = made then m else ph k) k = ph k := if_neg (by omega)
    unfold nvC
    rw [e]
  have oc : ∀ h' k, k < made → (onC q7 h' k ↔ onC q h' k) := fun h' k hk => by
    unfold onC
    rw [b4, b5, b6, upd_n (by omega), upd_n (by omega), upd_n (by omega)]
  have ocn : ∀ h', h' < 4096 → (onC q7 h' made ↔ h' = h) := fun h' hh' => by
    unfold onC
    rw [b4, b5, b6, upd_s, upd_s, upd_s, eh]
    exact ⟨fun z => (ofN_j (by omega) (by omega) z.2).symm, fun z => ⟨i2, by rw [z]⟩⟩
  have isP_c : ∀ {P Q : Nat → Prop} {m : Nat} {v : Int32}, (∀ k, k < m → (P k ↔ Q k)) → isP Q m v → isP P m v := by
    intro P Q m v hPQ hQ
    rcases hQ with ⟨e, h1⟩ | ⟨p, e, h1, h2, h3⟩
    · exact Or.inl ⟨e, fun p hp z => h1 p hp ((hPQ p hp).mp z)⟩
    · exact Or.inr ⟨p, e, h1, (hPQ p h1).mpr h2, fun k k1 k2 z => h3 k k1 k2 ((hPQ k k2).mp z)⟩
  refine ⟨_, rfl, q7, by show Int32.ofNat (made + 1) - 1 = _; rw [← ad_m (by omega), Int32.add_sub_cancel], g7, ⟨⟨c9, by omega, by omega, i4⟩, fun k k1 k2 => ?_, fun k k' k1 k2 k1' k2' e => ?_, ⟨fun h' hh' => ?_, fun k h' hk hh' hP => ?_⟩, fun b' hb' => ?_, fun k hk => by rw [bx 8 (by omega) (by omega) (by omega)]; exact i10 k hk⟩, ⟨bx 0 (by omega) (by omega) (by omega), bx 3 (by omega) (by omega) (by omega)⟩, cx⟩
  · by_cases e : k = made
    · show (if k = made then m else ph k) < n ∧ _
      rw [if_pos e]
      refine ⟨hm.1, 12 - b, a, c, by omega, by omega, by omega, ?_, ?_, ?_, ?_, ?_, ?_⟩
      · rw [b4, e, upd_s, show 12 - (12 - b) = b by omega]
      · show r.2.1 101 (if k = made then m else ph k) = _
        rw [if_pos e]; exact hm.2.1
      · rw [b5, e, upd_s]
      · show r.2.1 102 (if k = made then m else ph k) = _
        rw [if_pos e, old a ha]; exact hm.2.2.1
      · rw [b6, e, upd_s]
      · show r.2.1 103 (if k = made then m else ph k) = _
        rw [if_pos e, old c hc]; exact hm.2.2.2
    · obtain ⟨p1, l, a', c', l1, l2, l3, l4, l5, l6, l7, l8, l9⟩ := i5 k k1 (by omega)
      have pk : (fun k => if k = made then m else ph k) k = ph k := if_neg e
      rw [pk]
      refine ⟨p1, l, a', c', l1, l2, l3, by rw [b4, upd_n e]; exact l4, l5, by rw [b5, upd_n e]; exact l6, by rw [old a' (by omega)]; exact l7, by rw [b6, upd_n e]; exact l8, by rw [old c' (by omega)]; exact l9⟩
  · have e : (if k = made then m else ph k) = (if k' = made then m else ph k') := e
    by_cases c1 : k = made
    · by_cases c2 : k' = made
      · omega
      · rw [if_pos c1, if_neg c2] at e
        exact absurd e.symm (hno k' k1' (by omega))
    · by_cases c2 : k' = made
      · rw [if_neg c1, if_pos c2] at e
        exact absurd e (hno k k1 (by omega))
      · rw [if_neg c1, if_neg c2] at e
        exact i6 k k' k1 (by omega) k1' (by omega) e
  · rw [b1]
    by_cases e : h' = h
    · rw [e, upd_s]
      exact Or.inr ⟨made, rfl, by omega, (ocn h hh).mpr rfl, fun k k1 k2 => by omega⟩
    · rw [upd_n e]
      exact isP_k (isP_c (fun k hk => oc h' k hk) (i7 h' hh')) (fun z => e ((ocn h' hh').mp z))
  · rw [b7]
    by_cases e : k = made
    · rw [e] at hP ⊢
      rw [upd_s, (ocn h' hh').mp hP]
      exact isP_c (fun k hk => oc h k hk) (i7 h hh)
    · rw [upd_n e]
      exact isP_c (fun k' hk' => oc h' k' (by omega)) (i8 k h' (by omega) hh' ((oc h' k (by omega)).mp hP))
  · have cg := ctP_cg (P := fun k => 2 ≤ k ∧ q7.1 4 k = Int32.ofNat b') (Q := fun k => 2 ≤ k ∧ q.1 4 k = Int32.ofNat b') made (fun k hk => by
      show 2 ≤ k ∧ q7.1 4 k = _ ↔ _
      rw [b4, upd_n (by omega)])
    have cl := ctP_le (P := fun k => 2 ≤ k ∧ q.1 4 k = Int32.ofNat b') made
    rw [b2]
    by_cases e : b' = b
    · have yes : 2 ≤ made ∧ q7.1 4 made = Int32.ofNat b' := ⟨i2, by rw [b4, upd_s, e]⟩
      rw [ctP_y (P := fun k => 2 ≤ k ∧ q7.1 4 k = Int32.ofNat b') yes, cg]
      subst e
      rw [upd_s, i9 b' hb', ad_m (by omega)]
    · have no : ¬ (2 ≤ made ∧ q7.1 4 made = Int32.ofNat b') := fun z => by
        have z2 := z.2
        rw [b4, upd_s] at z2
        exact e (ofN_j (by omega) (by omega) z2).symm
      rw [ctP_n (P := fun k => 2 ≤ k ∧ q7.1 4 k = Int32.ofNat b') no, cg, upd_n e]
      exact i9 b' hb'
end MUX
