/-! the reference's tests -/
/-- pieces of a block lie ahead of those within them -/
def blk (Q : Nat → Nat → Int32) (lo hi : Nat) : Prop := ∀ j, lo ≤ j → j < hi → Q 63 j = 0 ∨ (Q 63 j = 1 ∧ (j : Int) < (Q 64 j).toInt ∧ (Q 64 j).toInt < (hi : Int)) ∨ ((Q 63 j = 2 ∨ Q 63 j = 3) ∧ ((j : Int) < (Q 64 j).toInt ∧ (Q 64 j).toInt < (hi : Int)) ∧ (j : Int) < (Q 65 j).toInt ∧ (Q 65 j).toInt < (hi : Int))
section TRB
variable {names : Int32} {kk ff ss xx : Nat → Int32} {m : Nat} {Q : Nat → Nat → Int32}
theorem PPr_b (W : pcW names kk ff ss xx m) : ∀ (g e k : Nat), e < m → (xx e).toInt ≤ (g : Int) → (k : Int) + (xx e).toInt ≤ 1000000 → PPr Q kk ff xx g e k → blk Q k (k + (xx e).toInt.toNat)
  | 0, e, k, he, hx, hk, p => p.elim
  | g + 1, e, k, he, hx, hk, ⟨p1, p2, p3, p4⟩ => by
    obtain ⟨w1, w2⟩ := W e he
    rcases w2 with ⟨c, -, c2, -⟩ | ⟨c, -, c2, c3, c4⟩ | ⟨c, c1, c2, c3, c4, c5⟩
    · intro j j1 j2
      have ej : j = k := by omega
      subst ej
      exact Or.inl (p1.trans c)
    · have w3 := (W (e - 1) (by omega)).1
      have b := PPr_b W g (e - 1) (k + 1) (by omega) (by omega) (by omega) (p3 c).2.2
      intro j j1 j2
      by_cases ej : j = k
      · subst ej
        refine Or.inr (Or.inl ⟨p1.trans c, ?_⟩)
        rw [(p3 c).1, Int32.toInt_ofNat_of_lt (by omega)]
        omega
      · rcases b j (by omega) (by omega) with z | ⟨z, z1, z2⟩ | ⟨z, ⟨z1, z2⟩, z3, z4⟩
        · exact Or.inl z
        · exact Or.inr (Or.inl ⟨z, z1, by omega⟩)
        · exact Or.inr (Or.inr ⟨z, ⟨z1, by omega⟩, z3, by omega⟩)
    · have w3 := (W (e - 1) (by omega)).1
      have w4 := (W (ff e).toInt.toNat (by omega)).1
      have b1 := PPr_b W g (ff e).toInt.toNat (k + 1) (by omega) (by omega) (by omega) (p4 c).2.2.1
      have b2 := PPr_b W g (e - 1) (k + 1 + (xx (ff e).toInt.toNat).toInt.toNat) (by omega) (by omega) (by omega) (p4 c).2.2.2
      intro j j1 j2
      by_cases ej : j = k
      · subst ej
        refine Or.inr (Or.inr ⟨by rw [p1]; exact c, ?_, ?_⟩)
        · rw [(p4 c).1, Int32.toInt_ofNat_of_lt (by omega)]
          omega
        · rw [(p4 c).2.1, Int32.toInt_ofNat_of_lt (by omega)]
          omega
      · by_cases d : j < k + 1 + (xx (ff e).toInt.toNat).toInt.toNat
        · rcases b1 j (by omega) d with z | ⟨z, z1, z2⟩ | ⟨z, ⟨z1, z2⟩, z3, z4⟩
          · exact Or.inl z
          · exact Or.inr (Or.inl ⟨z, z1, by omega⟩)
          · exact Or.inr (Or.inr ⟨z, ⟨z1, by omega⟩, z3, by omega⟩)
        · rcases b2 j (by omega) (by omega) with z | ⟨z, z1, z2⟩ | ⟨z, ⟨z1, z2⟩, z3, z4⟩
          · exact Or.inl z
          · exact Or.inr (Or.inl ⟨z, z1, by omega⟩)
          · exact Or.inr (Or.inr ⟨z, ⟨z1, by omega⟩, z3, by omega⟩)
end TRB
theorem tvF_st {Q : Nat → Nat → Int32} {v : Nat → Int32} {lo hi : Nat} (h : blk Q lo hi) : ∀ (g g' j : Nat), lo ≤ j → j < hi → hi - j ≤ g → hi - j ≤ g' → tvF Q v g j = tvF Q v g' j
  | 0, g', j, j1, j2, h1, h2 => by omega
  | g + 1, 0, j, j1, j2, h1, h2 => by omega
  | g + 1, g' + 1, j, j1, j2, h1, h2 => by
    unfold tvF
    rcases h j j1 j2 with z | ⟨z, z1, z2⟩ | ⟨z, ⟨z1, z2⟩, z3, z4⟩
    · rw [if_pos z, if_pos z]
    · have n0 : ¬ Q 63 j = 0 := by rw [z]; decide
      rw [if_neg n0, if_neg n0, if_pos z, if_pos z, tvF_st h g g' (Q 64 j).toInt.toNat (by omega) (by omega) (by omega) (by omega)]
    · have n0 : ¬ Q 63 j = 0 := by rcases z with z | z <;> (rw [z]; decide)
      have n1 : ¬ Q 63 j = 1 := by rcases z with z | z <;> (rw [z]; decide)
      rw [if_neg n0, if_neg n0, if_neg n1, if_neg n1, tvF_st h g g' (Q 64 j).toInt.toNat (by omega) (by omega) (by omega) (by omega), tvF_st h g g' (Q 65 j).toInt.toNat (by omega) (by omega) (by omega) (by omega)]
/-- one level of a test's value -/
theorem tvF_1 {Q : Nat → Nat → Int32} {v : Nat → Int32} {lo hi : Nat} (h : blk Q lo hi) (hb : hi - lo ≤ 1000) {j : Nat} (j1 : lo ≤ j) (j2 : j < hi) : tvF Q v 1001 j = if Q 63 j = 0 then v (Q 64 j).toInt.toNat else if Q 63 j = 1 then n3 (tvF Q v 1001 (Q 64 j).toInt.toNat) else if Q 63 j = 2 then an3 (tvF Q v 1001 (Q 64 j).toInt.toNat) (tvF Q v 1001 (Q 65 j).toInt.toNat) else or3 (tvF Q v 1001 (Q 64 j).toInt.toNat) (tvF Q v 1001 (Q 65 j).toInt.toNat) := by
  have e : tvF Q v 1001 j = if Q 63 j = 0 then v (Q 64 j).toInt.toNat else if Q 63 j = 1 then n3 (tvF Q v 1000 (Q 64 j).toInt.toNat) else if Q 63 j = 2 then an3 (tvF Q v 1000 (Q 64 j).toInt.toNat) (tvF Q v 1000 (Q 65 j).toInt.toNat) else or3 (tvF Q v 1000 (Q 64 j).toInt.toNat) (tvF Q v 1000 (Q 65 j).toInt.toNat) := rfl
  rw [e]
  rcases h j j1 j2 with z | ⟨z, z1, z2⟩ | ⟨z, ⟨z1, z2⟩, z3, z4⟩
  · rw [if_pos z, if_pos z]
  · have n0 : ¬ Q 63 j = 0 := by rw [z]; decide
    rw [if_neg n0, if_neg n0, if_pos z, if_pos z, tvF_st h 1000 1001 (Q 64 j).toInt.toNat (by omega) (by omega) (by omega) (by omega)]
  · have n0 : ¬ Q 63 j = 0 := by rcases z with z | z <;> (rw [z]; decide)
    have n1 : ¬ Q 63 j = 1 := by rcases z with z | z <;> (rw [z]; decide)
    rw [if_neg n0, if_neg n0, if_neg n1, if_neg n1, tvF_st h 1000 1001 (Q 64 j).toInt.toNat (by omega) (by omega) (by omega) (by omega), tvF_st h 1000 1001 (Q 65 j).toInt.toNat (by omega) (by omega) (by omega) (by omega)]
/-- the value of a signal, as the reference looks it up -/
def vM (S : md_S) (s : Nat) : Int32 := S.2.1 70 (S.2.1 73 s).toInt.toNat
def fr67 (S q : md_S) : Prop := q.1 = S.1 ∧ q.2.2 = S.2.2 ∧ ∀ i, ¬ i = 67 → q.2.1 i = S.2.1 i
section TRR
variable {S : md_S} {lo hi : Nat}
/-- the value at a piece is written -/
theorem tr_190 {X : md_S} {n j : Nat} {y : Int32} (f : fr67 S X) (hn : (Int32.ofNat n).toInt = (n : Int)) (hj : j < 1000) (hv : ∀ i, j < i → i < hi → X.2.1 67 i = tvF S.2.1 (vM S) 1001 i) (hy : y = tvF S.2.1 (vM S) 1001 j) : dc_pw (mm_truth_L190 X (Int32.ofNat n) (Int32.ofNat j) y (Int32.ofNat j)) (Sum.elim (fun (z : md_S × Int32) => ∃ i : Int, z.2.toInt = i ∧ i = (j : Int) - 1 ∧ fr67 S z.1 ∧ ∀ l : Nat, i < (l : Int) → l < hi → z.1.2.1 67 l = tvF S.2.1 (vM S) 1001 l) (fun Z => False)) := by
  have tj : (Int32.ofNat j).toInt = (j : Int) := Int32.toInt_ofNat_of_lt (by omega)
  delta mm_truth_L190
  refine pw_ix (fun _ _ => ?_)
  rw [show (Int32.ofNat j).toInt.toNat = j by omega]
  refine pw_some ⟨(j : Int) - 1, (i_dec (by omega)).trans (by rw [tj]), rfl, ⟨f.1, f.2.1, fun i hi => by rw [md_a2, if_neg hi]; exact f.2.2 i hi⟩, fun l l1 l2 => ?_⟩
  show (md_a X 67 j y).2.1 67 l = _
  rw [md_a2, if_pos rfl]
  by_cases e : l = j
  · subst e
    rw [upd_s]; exact hy
  · rw [upd_n e]
    exact hv l (by omega) l2
theorem truth_r (hb : blk S.2.1 lo hi) (h1 : hi - lo ≤ 1000) (h0 : lo < hi) (hh : hi ≤ 1000) (h66 : S.2.1 66 lo = Int32.ofNat hi) {q : md_S × Int32} (hq : mm_truth S (Int32.ofNat lo) = some q) : q.2 = tvF S.2.1 (vM S) 1001 lo ∧ fr67 S q.1 := by
  have tl : (Int32.ofNat lo).toInt = (lo : Int) := Int32.toInt_ofNat_of_lt (by omega)
  have tln : (Int32.ofNat lo).toInt.toNat = lo := by omega
  have th : (Int32.ofNat hi).toInt = (hi : Int) := Int32.toInt_ofNat_of_lt (by omega)
  have key : dc_pw (mm_truth S (Int32.ofNat lo)) (fun q => q.2 = tvF S.2.1 (vM S) 1001 lo ∧ fr67 S q.1) := by
    delta mm_truth
    refine pw_ix (fun _ _ => ?_)
    rw [tln, h66]
    show dc_pw (mm_truth_L9 S (Int32.ofNat lo) (Int32.ofNat hi - 1)) _
    delta mm_truth_L9
    refine pw_loop (fun (z : md_S × Int32) => ∃ i : Int, z.2.toInt = i ∧ (lo : Int) - 1 ≤ i ∧ i < (hi : Int) ∧ fr67 S z.1 ∧ ∀ l : Nat, i < (l : Int) → l < hi → z.1.2.1 67 l = tvF S.2.1 (vM S) 1001 l) (fun Z => fr67 S Z ∧ Z.2.1 67 lo = tvF S.2.1 (vM S) 1001 lo) ⟨(hi : Int) - 1, by rw [i_subS (by rw [th, il_1]; omega), th, il_1], by omega, by omega, ⟨rfl, rfl, fun _ _ => rfl⟩, fun l l1 l2 => by omega⟩ ?_ ?_
    · rintro ⟨X, x⟩ ⟨i, ex, i0, i1, f, hv⟩
      have ex : x.toInt = i := ex
      have f : fr67 S X := f
      have hv : ∀ l : Nat, i < (l : Int) → l < hi → X.2.1 67 l = tvF S.2.1 (vM S) 1001 l := hv
      show dc_pw (mm_truth_b9 X (Int32.ofNat lo) x) _
      delta mm_truth_b9
      refine pw_ifc (fun c => ?_) (fun c => ?_)
      · have c := i_lt.mp c
        rw [tl] at c
        exact pw_some ⟨f, hv lo (by omega) h0⟩
      · have c : ¬ x.toInt < (lo : Int) := fun t => c (i_lt.mpr (by rw [tl]; exact t))
        obtain ⟨j, ej⟩ : ∃ j : Nat, i = (j : Int) := ⟨i.toNat, by omega⟩
        have exj : x = Int32.ofNat j := ofN_m (by omega) (by omega)
        subst exj
        have tj : (Int32.ofNat j).toInt.toNat = j := by omega
        have fin : ∀ y, y = tvF S.2.1 (vM S) 1001 j → dc_pw (mm_truth_L190 X (Int32.ofNat lo) (Int32.ofNat j) y (Int32.ofNat j)) (Sum.elim (fun (z : md_S × Int32) => ∃ i : Int, z.2.toInt = i ∧ (lo : Int) - 1 ≤ i ∧ i < (hi : Int) ∧ fr67 S z.1 ∧ ∀ l : Nat, i < (l : Int) → l < hi → z.1.2.1 67 l = tvF S.2.1 (vM S) 1001 l) (fun Z => fr67 S Z ∧ Z.2.1 67 lo = tvF S.2.1 (vM S) 1001 lo)) := by
          intro y hy r hr
          have h := tr_190 (n := lo) f tl (by omega) (fun l l1 l2 => hv l (by omega) l2) hy r hr
          rcases r with z | Z
          · obtain ⟨i', u1, u2, u3, u4⟩ := h
            exact ⟨i', u1, by omega, by omega, u3, u4⟩
          · exact h.elim
        have tv1 := tvF_1 (v := vM S) hb h1 (j := j) (by omega) (by omega)
        have rr := hb j (by omega) (by omega)
        refine pw_ix (fun _ _ => ?_)
        rw [tj, f.2.2 63 (by omega)]
        refine pw_ifc (fun k0 => ?_) (fun k0 => ?_)
        · rw [if_pos k0] at tv1
          refine pw_ix (fun _ _ => ?_)
          rw [tj, f.2.2 64 (by omega)]
          refine pw_ix (fun _ _ => ?_)
          rw [f.2.2 73 (by omega)]
          refine pw_ix (fun _ _ => ?_)
          rw [f.2.2 70 (by omega)]
          have n1 : ¬ (1 : Int32) < S.2.1 63 j := by rw [k0]; decide
          have n2 : ¬ S.2.1 63 j = 2 := by rw [k0]; decide
          delta mm_truth_L53
          refine pw_ix (fun _ _ => ?_)
          rw [tj, f.2.2 63 (by omega), if_neg n1]
          delta mm_truth_L79
          refine pw_ix (fun _ _ => ?_)
          rw [tj, f.2.2 63 (by omega), if_neg n2]
          delta mm_truth_L96
          refine pw_ix (fun _ _ => ?_)
          rw [tj, f.2.2 63 (by omega), if_neg n1]
          delta mm_truth_L113
          refine pw_ix (fun _ _ => ?_)
          rw [tj, f.2.2 63 (by omega), if_pos k0]
          exact fin _ tv1.symm
        · rw [if_neg k0] at tv1
          have rr := rr.resolve_left k0
          have c64 : (j : Int) < (S.2.1 64 j).toInt ∧ (S.2.1 64 j).toInt < (hi : Int) := rr.elim (fun z => z.2) (fun z => z.2.1)
          refine pw_ix (fun _ _ => ?_)
          rw [tj, f.2.2 64 (by omega)]
          refine pw_ix (fun _ _ => ?_)
          rw [hv (S.2.1 64 j).toInt.toNat (by omega) (by omega)]
          delta mm_truth_L53
          refine pw_ix (fun _ _ => ?_)
          rw [tj, f.2.2 63 (by omega)]
          rcases rr with ⟨k1, -⟩ | ⟨k2, -, c65⟩
          · have n1 : ¬ (1 : Int32) < S.2.1 63 j := by rw [k1]; decide
            have n2 : ¬ S.2.1 63 j = 2 := by rw [k1]; decide
            rw [if_pos k1] at tv1
            rw [if_neg n1]
            delta mm_truth_L79
            refine pw_ix (fun _ _ => ?_)
            rw [tj, f.2.2 63 (by omega), if_neg n2]
            delta mm_truth_L96
            refine pw_ix (fun _ _ => ?_)
            rw [tj, f.2.2 63 (by omega), if_neg n1]
            delta mm_truth_L113
            refine pw_ix (fun _ _ => ?_)
            rw [tj, f.2.2 63 (by omega), if_neg k0, if_pos rfl]
            unfold n3 at tv1
            refine pw_ifc (fun e => ?_) (fun e => ?_)
            · rw [if_pos e] at tv1
              exact fin _ (by rw [tv1]; exact e)
            · rw [if_neg e] at tv1
              exact fin _ tv1.symm
          · have p1 : (1 : Int32) < S.2.1 63 j := by rcases k2 with k | k <;> (rw [k]; decide)
            have k1 : ¬ S.2.1 63 j = 1 := by rcases k2 with k | k <;> (rw [k]; decide)
            rw [if_neg k1] at tv1
            rw [if_pos p1]
            refine pw_ix (fun _ _ => ?_)
            rw [tj, f.2.2 65 (by omega)]
            refine pw_ix (fun _ _ => ?_)
            rw [hv (S.2.1 65 j).toInt.toNat (by omega) (by omega)]
            delta mm_truth_L79
            refine pw_ix (fun _ _ => ?_)
            rw [tj, f.2.2 63 (by omega)]
            generalize tvF S.2.1 (vM S) 1001 (S.2.1 64 j).toInt.toNat = A at *
            generalize tvF S.2.1 (vM S) 1001 (S.2.1 65 j).toInt.toNat = B at *
            have go : ∀ st, (1 - st = (if S.2.1 63 j = 2 then (1 : Int32) else 0)) → (if S.2.1 63 j = 2 then an3 A B else or3 A B) = (if A = st then st else if B = st then st else if A = 2 then 2 else if B = 2 then 2 else 1 - st) → dc_pw (mm_truth_L96 X (Int32.ofNat lo) (Int32.ofNat j) A B st) (Sum.elim (fun (z : md_S × Int32) => ∃ i : Int, z.2.toInt = i ∧ (lo : Int) - 1 ≤ i ∧ i < (hi : Int) ∧ fr67 S z.1 ∧ ∀ l : Nat, i < (l : Int) → l < hi → z.1.2.1 67 l = tvF S.2.1 (vM S) 1001 l) (fun Z => fr67 S Z ∧ Z.2.1 67 lo = tvF S.2.1 (vM S) 1001 lo)) := by
              intro st _ hst
              rw [hst] at tv1
              delta mm_truth_L96
              refine pw_ix (fun _ _ => ?_)
              rw [tj, f.2.2 63 (by omega), if_pos p1]
              delta mm_truth_L113
              refine pw_ix (fun _ _ => ?_)
              rw [tj, f.2.2 63 (by omega), if_neg k0, if_neg (by decide)]
              refine pw_ifc (fun e => ?_) (fun e => ?_)
              · rw [if_pos e] at tv1
                exact fin _ tv1.symm
              · rw [if_neg e] at tv1
                refine pw_ifc (fun e => ?_) (fun e => ?_)
                · rw [if_pos e] at tv1
                  exact fin _ tv1.symm
                · rw [if_neg e] at tv1
                  refine pw_ifc (fun e => ?_) (fun e => ?_)
                  · rw [if_pos e] at tv1
                    exact fin _ tv1.symm
                  · rw [if_neg e] at tv1
                    refine pw_ifc (fun e => ?_) (fun e => ?_)
                    · rw [if_pos e] at tv1
                      exact fin _ tv1.symm
                    · rw [if_neg e] at tv1
                      exact fin _ tv1.symm
            refine pw_ifc (fun e => ?_) (fun e => ?_)
            · refine go 0 (by rw [if_pos e]; decide) ?_
              rw [if_pos e]
              unfold an3
              by_cases a0 : A = 0
              · rw [if_pos (Or.inl a0), if_pos a0]
              · by_cases b0 : B = 0
                · rw [if_pos (Or.inr b0), if_neg a0, if_pos b0]
                · rw [if_neg (fun z => z.elim a0 b0), if_neg a0, if_neg b0]
                  by_cases a2 : A = 2
                  · rw [if_pos (Or.inl a2), if_pos a2]
                  · by_cases b2 : B = 2
                    · rw [if_pos (Or.inr b2), if_neg a2, if_pos b2]
                    · rw [if_neg (fun z => z.elim a2 b2), if_neg a2, if_neg b2]
                      decide
            · refine go 1 (by rw [if_neg e]; decide) ?_
              rw [if_neg e]
              unfold or3
              by_cases a0 : A = 1
              · rw [if_pos (Or.inl a0), if_pos a0]
              · by_cases b0 : B = 1
                · rw [if_pos (Or.inr b0), if_neg a0, if_pos b0]
                · rw [if_neg (fun z => z.elim a0 b0), if_neg a0, if_neg b0]
                  by_cases a2 : A = 2
                  · rw [if_pos (Or.inl a2), if_pos a2]
                  · by_cases b2 : B = 2
                    · rw [if_pos (Or.inr b2), if_neg a2, if_pos b2]
                    · rw [if_neg (fun z => z.elim a2 b2), if_neg a2, if_neg b2]
                      decide
    · rintro Z ⟨f, hz⟩
      show dc_pw (mm_truth_L197 Z (Int32.ofNat lo)) _
      delta mm_truth_L197
      refine pw_ix (fun _ _ => ?_)
      rw [tln]
      exact pw_some ⟨hz, f⟩
  exact key q hq
end TRR
