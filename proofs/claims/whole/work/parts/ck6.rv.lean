/-! the class's reactor: clear, isHeld, closeBoth, closeSingle -/
def fX (q : rsT) (i : Nat) (f : Nat → Int32) : rsT := (fun j => if j = i then f else q.1 j, q.2)
/-- pauses of a row are taken away -/
def reCl (E : rvP) (q : rsT) (n : Nat) : rsT := fX q 11 (fun k => if (vR E 8 n).toInt.toNat ≤ k ∧ k < (vR E 9 n).toInt.toNat then 0 else q.1 11 k)
def hdC (E : rvP) (q : rsT) (n : Nat) : Prop := (q.1 10 (vR E 8 n).toInt.toNat).toInt < (q.1 10 (vR E 9 n).toInt.toNat).toInt
def reCb (q : rsT) (n a b : Nat) : rsT := reAn q n (gP (q.1 7 a) (q.1 7 b)) (if q.1 8 a = -1 ∨ q.1 8 b = -1 then -1 else dc_max (q.1 8 a) (q.1 8 b))
def reC1 (q : rsT) (n d : Nat) : rsT := uX (uX q 7 n (q.1 7 d)) 8 n (q.1 8 d)
def reC2 (q : rsT) (n pl : Nat) : rsT := uC (reSe q pl) 14 (if (reSe q pl).2 14 = 0 then (if (reSe q pl).1 9 n = 0 then 0 else if (reSe q pl).1 1 pl = 2 then 1 else 0) else 1)
def reC3 (E : rvP) (q : rsT) (n : Nat) : rsT := if (uX q 7 n (wTr (q.1 7 n))).1 8 n < 2 then uX q 7 n (wTr (q.1 7 n)) else uX (reCl E (uX q 7 n (wTr (q.1 7 n))) n) 8 n (if q.1 8 n = 2 then 0 else q.1 8 n - 1)
def reCs (E : rvP) (q : rsT) (n d : Nat) : rsT := if vR E 0 n = 10 then reC2 (reC1 q n d) n (q.1 4 (vR E 4 n).toInt.toNat).toInt.toNat else if vR E 0 n = 8 then reC3 E (reC1 q n d) n else reC1 q n d
section RVN
variable {G : hg_E} {E : rvP} {S : hg_S} {q : rsT} {x y : Int32}
theorem fX_n {i j : Nat} {f : Nat → Int32} (h : ¬ j = i) : (fX q i f).1 j = q.1 j := if_neg h
theorem fX_s {i : Nat} {f : Nat → Int32} : (fX q i f).1 i = f := if_pos rfl
theorem fX_id {i : Nat} {f : Nat → Int32} (h : f = q.1 i) : fX q i f = q := by
  unfold fX
  refine Prod.ext ?_ rfl
  funext j
  show (if j = i then f else q.1 j) = _
  split
  · rename_i e; rw [e]; exact h
  · rfl
theorem uX_fX {i n : Nat} {v : Int32} {f : Nat → Int32} : uX (fX q i f) i n v = fX q i (upd f n v) := by
  unfold uX
  rw [fX_s]
  refine Prod.ext ?_ rfl
  funext j
  show (if j = i then upd f n v else (if j = i then f else q.1 j)) = if j = i then upd f n v else q.1 j
  split <;> rfl
/-- a row of the program -/
def rvN (E : rvP) (x : Int32) : Prop := 0 ≤ x.toInt ∧ (∀ i, i < 10 → x.toInt < (vN E i : Int)) ∧ ∀ i, 6 ≤ i → i < 10 → x.toInt < (vL' E i : Int)
theorem cl_w (h : RV G E S q) (hx : rvN E x) {f t : Nat} (hf : vR E 8 x.toInt.toNat = Int32.ofNat f) (ht : vR E 9 x.toInt.toNat = Int32.ofNat t) (hft : f ≤ t) (hL : t ≤ vL' E 11) (hb : t ≤ 100000) : dc_wp (hm_RE_clear G S (vO E) x) (fun S' => RV G E S' (reCl E q x.toInt.toNat)) := by
  have tt : (Int32.ofNat t).toInt = (t : Int) := Int32.toInt_ofNat_of_lt (by omega)
  have tf : (Int32.ofNat f).toInt = (f : Int) := Int32.toInt_ofNat_of_lt (by omega)
  delta hm_RE_clear
  refine rv_p h ?_
  refine rv_a h (j := 8) (by decide) rfl ?_
  refine rv_d h (by decide) (by decide) hx.1 (hx.2.1 8 (by decide)) ?_
  delta hm_RE_clear_L10
  rw [hf]
  have key := dc_itK (step := hm_RE_clear_s10 G (vO E) x) (fun d (y : hg_S × Int32) => ∃ k, y.2 = Int32.ofNat k ∧ f ≤ k ∧ k ≤ t ∧ d = t - k ∧ RV G E y.1 (fX q 11 (fun j => if f ≤ j ∧ j < k then 0 else q.1 11 j))) (F := fun S' => RV G E S' (reCl E q x.toInt.toNat)) (by
    rintro d ⟨Y, v⟩ ⟨k, ev, k1, k2, ed, g⟩
    have ev : v = Int32.ofNat k := ev
    have g : RV G E Y (fX q 11 (fun j => if f ≤ j ∧ j < k then 0 else q.1 11 j)) := g
    subst ev
    have tk : (Int32.ofNat k).toInt = (k : Int) := Int32.toInt_ofNat_of_lt (by omega)
    have tkn : (Int32.ofNat k).toInt.toNat = k := by omega
    show dc_wp (hm_RE_clear_b10 G Y (vO E) x (Int32.ofNat k)) _
    delta hm_RE_clear_b10
    refine rv_p g ?_
    refine rv_a g (j := 9) (by decide) rfl ?_
    refine rv_d g (by decide) (by decide) hx.1 (hx.2.1 9 (by decide)) ?_
    rw [ht]
    refine wq_if (fun c => ?_) (fun c => ?_)
    · have c := i_lt.mp c
      rw [tk, tt] at c
      refine rv_g g (by decide) (by decide) ?_
      refine rv_s g (by decide) (by decide) rfl (by omega) (by omega) (fun S' g' => ?_)
      refine ⟨_, rfl, t - (k + 1), by omega, k + 1, ad_m (by omega), by omega, by omega, rfl, ?_⟩
      show RV G E S' _
      rw [tkn, uX_fX] at g'
      have ef : upd (fun j => if f ≤ j ∧ j < k then 0 else q.1 11 j) k 0 = fun j => if f ≤ j ∧ j < k + 1 then 0 else q.1 11 j := by
        funext j
        by_cases e : j = k
        · subst e
          rw [upd_s, if_pos (by omega)]
        · rw [upd_n e]
          by_cases e2 : f ≤ j ∧ j < k
          · rw [if_pos e2, if_pos (by omega)]
          · rw [if_neg e2, if_neg (by omega)]
      rw [ef] at g'
      exact g'
    · have c : ¬ (k : Int) < (t : Int) := fun z => c (i_lt.mpr (by rw [tk, tt]; exact z))
      have ek : k = t := by omega
      subst ek
      refine ⟨_, rfl, ?_⟩
      show RV G E Y (reCl E q x.toInt.toNat)
      unfold reCl
      rw [hf, ht, tf, tt]
      exact g)
  refine wq_call (key (t - f) (S, Int32.ofNat f) ⟨f, rfl, Nat.le_refl _, hft, rfl, ?_⟩) (fun S' g => ⟨_, rfl, g⟩)
  rw [fX_id (by funext j; rw [if_neg (by omega)])]
  exact h
theorem ih_w (h : RV G E S q) (hx : rvN E x) {f t : Nat} (hf : vR E 8 x.toInt.toNat = Int32.ofNat f) (ht : vR E 9 x.toInt.toNat = Int32.ofNat t) (hft : f ≤ t) (hL : t < vL' E 10) (hb : t ≤ 100000) : dc_wp (hm_RE_isHeld G S (vO E) x) (fun r => (hdC E q x.toInt.toNat ∧ r = 1) ∨ (¬ hdC E q x.toInt.toNat ∧ r = 0)) := by
  have tt : (Int32.ofNat t).toInt = (t : Int) := Int32.toInt_ofNat_of_lt (by omega)
  have tf : (Int32.ofNat f).toInt = (f : Int) := Int32.toInt_ofNat_of_lt (by omega)
  delta hm_RE_isHeld
  refine rv_g h (by decide) (by decide) ?_
  refine rv_p h ?_
  refine rv_a h (j := 8) (by decide) rfl ?_
  refine rv_d h (by decide) (by decide) hx.1 (hx.2.1 8 (by decide)) ?_
  refine rv_l h (by decide) (by decide) rfl (by rw [hf, tf]; omega) (by rw [hf, tf]; omega) ?_
  refine rv_g h (by decide) (by decide) ?_
  refine rv_p h ?_
  refine rv_a h (j := 9) (by decide) rfl ?_
  refine rv_d h (by decide) (by decide) hx.1 (hx.2.1 9 (by decide)) ?_
  refine rv_l h (by decide) (by decide) rfl (by rw [ht, tt]; omega) (by rw [ht, tt]; omega) ?_
  delta hm_RE_isHeld_L36
  refine wq_if (fun c => ?_) (fun c => ?_)
  · rw [zb1]
    exact ⟨_, rfl, Or.inl ⟨i_lt.mp c, rfl⟩⟩
  · rw [zb0]
    exact ⟨_, rfl, Or.inr ⟨fun z => c (i_lt.mpr z), rfl⟩⟩
theorem cb_r (h : RV G E S q) (hx : rvN E x) (ha : rvN E (vR E 1 x.toInt.toNat)) (hb : rvN E (vR E 2 x.toInt.toNat)) : dc_wp (hm_RE_closeBoth G S (vO E) x) (fun S' => RV G E S' (reCb q x.toInt.toNat (vR E 1 x.toInt.toNat).toInt.toNat (vR E 2 x.toInt.toNat).toInt.toNat)) := by
  delta hm_RE_closeBoth
  refine rv_p h ?_
  refine rv_a h (j := 1) (by decide) rfl ?_
  refine rv_d h (by decide) (by decide) hx.1 (hx.2.1 1 (by decide)) ?_
  refine rv_p h ?_
  refine rv_a h (j := 2) (by decide) rfl ?_
  refine rv_d h (by decide) (by decide) hx.1 (hx.2.1 2 (by decide)) ?_
  refine rv_g h (by decide) (by decide) ?_
  refine rv_l h (by decide) (by decide) rfl ha.1 (ha.2.2 8 (by decide) (by decide)) ?_
  unfold reCb
  have ax := hx.2.2 7 (by decide) (by decide)
  have bx := hx.2.2 8 (by decide) (by decide)
  have cx := hx.2.2 9 (by decide) (by decide)
  have fin0 : dc_wp (hm_RE_closeBoth_L44 G S (vO E) x (vR E 1 x.toInt.toNat) (vR E 2 x.toInt.toNat)) (fun S' => RV G E S' (reAn q x.toInt.toNat (gP (q.1 7 (vR E 1 x.toInt.toNat).toInt.toNat) (q.1 7 (vR E 2 x.toInt.toNat).toInt.toNat)) (-1))) := by
    delta hm_RE_closeBoth_L44 hm_RE_closeBoth_L45
    refine rv_g h (by decide) (by decide) ?_
    refine rv_l h (by decide) (by decide) rfl ha.1 (ha.2.2 7 (by decide) (by decide)) ?_
    refine rv_g h (by decide) (by decide) ?_
    refine rv_l h (by decide) (by decide) rfl hb.1 (hb.2.2 7 (by decide) (by decide)) ?_
    have eg : ∀ a b, hm_SE_greaterOfPairs G S a b = some (gP a b) := fun a b => rfl
    rw [eg]
    show dc_wp (hm_RE_closeBoth_L88 G S (vO E) (-1) _ x) _
    delta hm_RE_closeBoth_L88
    refine rv_c h ?_
    exact wq_call (an_w h hx.1 ⟨ax, bx, cx⟩) (fun S' k => ⟨_, rfl, k⟩)
  refine wq_if (fun c => ?_) (fun c => ?_)
  · rw [if_pos (Or.inl c)]
    exact fin0
  · refine rv_g h (by decide) (by decide) ?_
    refine rv_l h (by decide) (by decide) rfl hb.1 (hb.2.2 8 (by decide) (by decide)) ?_
    refine wq_if (fun d => ?_) (fun d => ?_)
    · rw [if_pos (Or.inr d)]
      exact fin0
    · rw [if_neg (fun z => z.elim c d)]
      delta hm_RE_closeBoth_L45
      refine rv_g h (by decide) (by decide) ?_
      refine rv_l h (by decide) (by decide) rfl ha.1 (ha.2.2 7 (by decide) (by decide)) ?_
      refine rv_g h (by decide) (by decide) ?_
      refine rv_l h (by decide) (by decide) rfl hb.1 (hb.2.2 7 (by decide) (by decide)) ?_
      have eg : ∀ a b, hm_SE_greaterOfPairs G S a b = some (gP a b) := fun a b => rfl
      rw [eg]
      refine rv_g h (by decide) (by decide) ?_
      refine rv_l h (by decide) (by decide) rfl ha.1 (ha.2.2 8 (by decide) (by decide)) ?_
      refine rv_g h (by decide) (by decide) ?_
      refine rv_l h (by decide) (by decide) rfl hb.1 (hb.2.2 8 (by decide) (by decide)) ?_
      delta hm_RE_closeBoth_L88
      refine rv_c h ?_
      exact wq_call (an_w h hx.1 ⟨ax, bx, cx⟩) (fun S' k => ⟨_, rfl, k⟩)
end RVN
