
set_option maxHeartbeats 4000000 in
theorem mm_isWord_s (S0 : md_S) (p1 : Int64)  : dc_wp (mm_isWord S0 p1) (fun q => (q = 0 ∨ q = 1) ∧ (¬ q = 0 → S0.1 6 = 1)) := by
  delta mm_isWord
  refine dc_ifI ?_ ?_
  · intro hc
    refine dc_ifI ?_ ?_
    · intro hc
      delta mm_isWord_L22
      refine dc_zbI (by show 1 = (0 : Int32) ∨ 1 = (1 : Int32); first | assumption | (simp only [i_le, i_lt, i_eq, a_add, a_sub, a_mul, il_0, il_1] at *; omega) | grind) ?_
      exact dc_ret ⟨(by show (1 = 0 ∨ 1 = 1); first | assumption | (simp only [i_le, i_lt, i_eq, a_add, a_sub, a_mul, il_0, il_1] at *; omega) | grind), (by show (¬ 1 = 0 → S0.1 6 = 1); first | assumption | (simp only [i_le, i_lt, i_eq, a_add, a_sub, a_mul, il_0, il_1] at *; omega) | grind)⟩
    · intro hc
      delta mm_isWord_L21
      delta mm_isWord_L22
      refine dc_zbI (by show 0 = (0 : Int32) ∨ 0 = (1 : Int32); first | assumption | (simp only [i_le, i_lt, i_eq, a_add, a_sub, a_mul, il_0, il_1] at *; omega) | grind) ?_
      exact dc_ret ⟨(by show (0 = 0 ∨ 0 = 1); first | assumption | (simp only [i_le, i_lt, i_eq, a_add, a_sub, a_mul, il_0, il_1] at *; omega) | grind), (by show (¬ 0 = 0 → S0.1 6 = 1); first | assumption | (simp only [i_le, i_lt, i_eq, a_add, a_sub, a_mul, il_0, il_1] at *; omega) | grind)⟩
  · intro hc
    delta mm_isWord_L21
    delta mm_isWord_L22
    refine dc_zbI (by show 0 = (0 : Int32) ∨ 0 = (1 : Int32); first | assumption | (simp only [i_le, i_lt, i_eq, a_add, a_sub, a_mul, il_0, il_1] at *; omega) | grind) ?_
    exact dc_ret ⟨(by show (0 = 0 ∨ 0 = 1); first | assumption | (simp only [i_le, i_lt, i_eq, a_add, a_sub, a_mul, il_0, il_1] at *; omega) | grind), (by show (¬ 0 = 0 → S0.1 6 = 1); first | assumption | (simp only [i_le, i_lt, i_eq, a_add, a_sub, a_mul, il_0, il_1] at *; omega) | grind)⟩
set_option maxHeartbeats 4000000 in
theorem mm_isSign_s (S0 : md_S) (p1 : Int32)  : dc_wp (mm_isSign S0 p1) (fun q => (q = 0 ∨ q = 1) ∧ (¬ q = 0 → S0.1 6 = 2)) := by
  delta mm_isSign
  refine dc_ifI ?_ ?_
  · intro hc
    refine dc_ifI ?_ ?_
    · intro hc
      delta mm_isSign_L23
      refine dc_zbI (by show 1 = (0 : Int32) ∨ 1 = (1 : Int32); first | assumption | (simp only [i_le, i_lt, i_eq, a_add, a_sub, a_mul, il_0, il_1, il_2] at *; omega) | grind) ?_
      exact dc_ret ⟨(by show (1 = 0 ∨ 1 = 1); first | assumption | (simp only [i_le, i_lt, i_eq, a_add, a_sub, a_mul, il_0, il_1, il_2] at *; omega) | grind), (by show (¬ 1 = 0 → S0.1 6 = 2); first | assumption | (simp only [i_le, i_lt, i_eq, a_add, a_sub, a_mul, il_0, il_1, il_2] at *; omega) | grind)⟩
    · intro hc
      delta mm_isSign_L22
      delta mm_isSign_L23
      refine dc_zbI (by show 0 = (0 : Int32) ∨ 0 = (1 : Int32); first | assumption | (simp only [i_le, i_lt, i_eq, a_add, a_sub, a_mul, il_0, il_1, il_2] at *; omega) | grind) ?_
      exact dc_ret ⟨(by show (0 = 0 ∨ 0 = 1); first | assumption | (simp only [i_le, i_lt, i_eq, a_add, a_sub, a_mul, il_0, il_1, il_2] at *; omega) | grind), (by show (¬ 0 = 0 → S0.1 6 = 2); first | assumption | (simp only [i_le, i_lt, i_eq, a_add, a_sub, a_mul, il_0, il_1, il_2] at *; omega) | grind)⟩
  · intro hc
    delta mm_isSign_L22
    delta mm_isSign_L23
    refine dc_zbI (by show 0 = (0 : Int32) ∨ 0 = (1 : Int32); first | assumption | (simp only [i_le, i_lt, i_eq, a_add, a_sub, a_mul, il_0, il_1, il_2] at *; omega) | grind) ?_
    exact dc_ret ⟨(by show (0 = 0 ∨ 0 = 1); first | assumption | (simp only [i_le, i_lt, i_eq, a_add, a_sub, a_mul, il_0, il_1, il_2] at *; omega) | grind), (by show (¬ 0 = 0 → S0.1 6 = 2); first | assumption | (simp only [i_le, i_lt, i_eq, a_add, a_sub, a_mul, il_0, il_1, il_2] at *; omega) | grind)⟩
set_option maxHeartbeats 4000000 in
theorem mm_meetsWord_s (S0 : md_S) (p1 : Int64) (h0 : 0 ≤ S0.1 7) (h1 : S0.1 7 ≤ S0.1 4) (h2 : S0.1 4 ≤ S0.1 2) (h3 : S0.1 2 ≤ 32768) (h4 : (¬ S0.1 6 = 0 → S0.1 7 < S0.1 4)) (h5 : (S0.1 6 = 1 → S0.1 4 - S0.1 7 ≤ 31)) : dc_wp (mm_meetsWord S0 p1) (fun q => 0 ≤ q.1.1 7 ∧ q.1.1 7 ≤ q.1.1 4 ∧ q.1.1 4 ≤ q.1.1 2 ∧ q.1.1 2 ≤ 32768 ∧ (¬ q.1.1 6 = 0 → q.1.1 7 < q.1.1 4) ∧ (q.1.1 6 = 1 → q.1.1 4 - q.1.1 7 ≤ 31) ∧ (q.2 = 0 ∨ q.2 = 1) ∧ S0.1 7 ≤ q.1.1 7 ∧ (¬ q.2 = 0 → S0.1 7 < q.1.1 7) ∧ (¬ q.2 = 0 → S0.1 10 ≤ 0)) := by
  delta mm_meetsWord
  refine dc_ifI ?_ ?_
  · intro hc
    delta mm_meetsWord_L15
    exact dc_ret ⟨(by show 0 ≤ S0.1 7; first | assumption | (simp only [i_le, i_lt, i_eq, a_add, a_sub, a_mul, il_0, il_1, il_31, il_32768] at *; omega) | grind), (by show S0.1 7 ≤ S0.1 4; first | assumption | (simp only [i_le, i_lt, i_eq, a_add, a_sub, a_mul, il_0, il_1, il_31, il_32768] at *; omega) | grind), (by show S0.1 4 ≤ S0.1 2; first | assumption | (simp only [i_le, i_lt, i_eq, a_add, a_sub, a_mul, il_0, il_1, il_31, il_32768] at *; omega) | grind), (by show S0.1 2 ≤ 32768; first | assumption | (simp only [i_le, i_lt, i_eq, a_add, a_sub, a_mul, il_0, il_1, il_31, il_32768] at *; omega) | grind), (by show (¬ S0.1 6 = 0 → S0.1 7 < S0.1 4); first | assumption | (simp only [i_le, i_lt, i_eq, a_add, a_sub, a_mul, il_0, il_1, il_31, il_32768] at *; omega) | grind), (by show (S0.1 6 = 1 → S0.1 4 - S0.1 7 ≤ 31); first | assumption | (simp only [i_le, i_lt, i_eq, a_add, a_sub, a_mul, il_0, il_1, il_31, il_32768] at *; omega) | grind), (by show (0 = 0 ∨ 0 = 1); first | assumption | (simp only [i_le, i_lt, i_eq, a_add, a_sub, a_mul, il_0, il_1, il_31, il_32768] at *; omega) | grind), (by show S0.1 7 ≤ S0.1 7; first | assumption | (simp only [i_le, i_lt, i_eq, a_add, a_sub, a_mul, il_0, il_1, il_31, il_32768] at *; omega) | grind), (by show (¬ 0 = 0 → S0.1 7 < S0.1 7); first | assumption | (simp only [i_le, i_lt, i_eq, a_add, a_sub, a_mul, il_0, il_1, il_31, il_32768] at *; omega) | grind), (by show (¬ 0 = 0 → S0.1 10 ≤ 0); first | assumption | (simp only [i_le, i_lt, i_eq, a_add, a_sub, a_mul, il_0, il_1, il_31, il_32768] at *; omega) | grind)⟩
  · intro hc
    refine dc_callI (mm_isWord_s S0 p1 ) ?_
    rintro q1 ⟨hq1_0, hq1_1⟩
    replace hq1_0 : (q1 = 0 ∨ q1 = 1) := hq1_0
    replace hq1_1 : (¬ q1 = 0 → S0.1 6 = 1) := hq1_1
    refine dc_ifI ?_ ?_
    · intro hc
      delta mm_meetsWord_L15
      exact dc_ret ⟨(by show 0 ≤ S0.1 7; first | assumption | (simp only [i_le, i_lt, i_eq, a_add, a_sub, a_mul, il_0, il_1, il_31, il_32768] at *; omega) | grind), (by show S0.1 7 ≤ S0.1 4; first | assumption | (simp only [i_le, i_lt, i_eq, a_add, a_sub, a_mul, il_0, il_1, il_31, il_32768] at *; omega) | grind), (by show S0.1 4 ≤ S0.1 2; first | assumption | (simp only [i_le, i_lt, i_eq, a_add, a_sub, a_mul, il_0, il_1, il_31, il_32768] at *; omega) | grind), (by show S0.1 2 ≤ 32768; first | assumption | (simp only [i_le, i_lt, i_eq, a_add, a_sub, a_mul, il_0, il_1, il_31, il_32768] at *; omega) | grind), (by show (¬ S0.1 6 = 0 → S0.1 7 < S0.1 4); first | assumption | (simp only [i_le, i_lt, i_eq, a_add, a_sub, a_mul, il_0, il_1, il_31, il_32768] at *; omega) | grind), (by show (S0.1 6 = 1 → S0.1 4 - S0.1 7 ≤ 31); first | assumption | (simp only [i_le, i_lt, i_eq, a_add, a_sub, a_mul, il_0, il_1, il_31, il_32768] at *; omega) | grind), (by show (0 = 0 ∨ 0 = 1); first | assumption | (simp only [i_le, i_lt, i_eq, a_add, a_sub, a_mul, il_0, il_1, il_31, il_32768] at *; omega) | grind), (by show S0.1 7 ≤ S0.1 7; first | assumption | (simp only [i_le, i_lt, i_eq, a_add, a_sub, a_mul, il_0, il_1, il_31, il_32768] at *; omega) | grind), (by show (¬ 0 = 0 → S0.1 7 < S0.1 7); first | assumption | (simp only [i_le, i_lt, i_eq, a_add, a_sub, a_mul, il_0, il_1, il_31, il_32768] at *; omega) | grind), (by show (¬ 0 = 0 → S0.1 10 ≤ 0); first | assumption | (simp only [i_le, i_lt, i_eq, a_add, a_sub, a_mul, il_0, il_1, il_31, il_32768] at *; omega) | grind)⟩
    · intro hc
      refine dc_callI (dc_wpw (mm_advance_s S0 (by show 0 ≤ S0.1 4; first | assumption | (simp only [i_le, i_lt, i_eq, a_add, a_sub, a_mul, il_0, il_1, il_31, il_32768] at *; omega) | grind) (by show S0.1 4 ≤ S0.1 2; first | assumption | (simp only [i_le, i_lt, i_eq, a_add, a_sub, a_mul, il_0, il_1, il_31, il_32768] at *; omega) | grind) (by show S0.1 2 ≤ 32768; first | assumption | (simp only [i_le, i_lt, i_eq, a_add, a_sub, a_mul, il_0, il_1, il_31, il_32768] at *; omega) | grind)) (mm_advance_fr S0)) ?_
      rintro q2 ⟨⟨hq2_0, hq2_1, hq2_2, hq2_3, hq2_4⟩, hfq2⟩
      have q2_2 : q2.1 2 = (S0.1 2) := (hfq2.1 2 (by decide))
      have q2_10 : q2.1 10 = (S0.1 10) := (hfq2.1 10 (by decide))
      clear hfq2
      replace hq2_0 : S0.1 4 ≤ q2.1 7 := hq2_0
      replace hq2_1 : q2.1 7 ≤ q2.1 4 := hq2_1
      replace hq2_2 : q2.1 4 ≤ S0.1 2 := hq2_2
      replace hq2_3 : (¬ q2.1 6 = 0 → q2.1 7 < q2.1 4) := hq2_3
      replace hq2_4 : (q2.1 6 = 1 → q2.1 4 - q2.1 7 ≤ 31) := hq2_4
      exact dc_ret ⟨(by show 0 ≤ q2.1 7; clear q2_2 q2_10; first | assumption | (simp only [i_le, i_lt, i_eq, a_add, a_sub, a_mul, il_0, il_1, il_31, il_32768] at *; omega) | grind), (by show q2.1 7 ≤ q2.1 4; clear q2_2 q2_10; first | assumption | (simp only [i_le, i_lt, i_eq, a_add, a_sub, a_mul, il_0, il_1, il_31, il_32768] at *; omega) | grind), (by show q2.1 4 ≤ q2.1 2; rewrite [q2_2]; clear q2_2 q2_10; first | assumption | (simp only [i_le, i_lt, i_eq, a_add, a_sub, a_mul, il_0, il_1, il_31, il_32768] at *; omega) | grind), (by show q2.1 2 ≤ 32768; rewrite [q2_2]; clear q2_2 q2_10; first | assumption | (simp only [i_le, i_lt, i_eq, a_add, a_sub, a_mul, il_0, il_1, il_31, il_32768] at *; omega) | grind), (by show (¬ q2.1 6 = 0 → q2.1 7 < q2.1 4); clear q2_2 q2_10; first | assumption | (simp only [i_le, i_lt, i_eq, a_add, a_sub, a_mul, il_0, il_1, il_31, il_32768] at *; omega) | grind), (by show (q2.1 6 = 1 → q2.1 4 - q2.1 7 ≤ 31); clear q2_2 q2_10; first | assumption | (simp only [i_le, i_lt, i_eq, a_add, a_sub, a_mul, il_0, il_1, il_31, il_32768] at *; omega) | grind), (by show (1 = 0 ∨ 1 = 1); clear q2_2 q2_10; first | assumption | (simp only [i_le, i_lt, i_eq, a_add, a_sub, a_mul, il_0, il_1, il_31, il_32768] at *; omega) | grind), (by show S0.1 7 ≤ q2.1 7; clear q2_2 q2_10; first | assumption | (simp only [i_le, i_lt, i_eq, a_add, a_sub, a_mul, il_0, il_1, il_31, il_32768] at *; omega) | grind), (by show (¬ 1 = 0 → S0.1 7 < q2.1 7); clear q2_2 q2_10; first | assumption | (simp only [i_le, i_lt, i_eq, a_add, a_sub, a_mul, il_0, il_1, il_31, il_32768] at *; omega) | grind), (by show (¬ 1 = 0 → S0.1 10 ≤ 0); clear q2_2 q2_10; first | assumption | (simp only [i_le, i_lt, i_eq, a_add, a_sub, a_mul, il_0, il_1, il_31, il_32768] at *; omega) | grind)⟩
set_option maxHeartbeats 4000000 in
theorem mm_meetsSign_s (S0 : md_S) (p1 : Int32) (h0 : 0 ≤ S0.1 7) (h1 : S0.1 7 ≤ S0.1 4) (h2 : S0.1 4 ≤ S0.1 2) (h3 : S0.1 2 ≤ 32768) (h4 : (¬ S0.1 6 = 0 → S0.1 7 < S0.1 4)) (h5 : (S0.1 6 = 1 → S0.1 4 - S0.1 7 ≤ 31)) : dc_wp (mm_meetsSign S0 p1) (fun q => 0 ≤ q.1.1 7 ∧ q.1.1 7 ≤ q.1.1 4 ∧ q.1.1 4 ≤ q.1.1 2 ∧ q.1.1 2 ≤ 32768 ∧ (¬ q.1.1 6 = 0 → q.1.1 7 < q.1.1 4) ∧ (q.1.1 6 = 1 → q.1.1 4 - q.1.1 7 ≤ 31) ∧ (q.2 = 0 ∨ q.2 = 1) ∧ S0.1 7 ≤ q.1.1 7 ∧ (¬ q.2 = 0 → S0.1 7 < q.1.1 7) ∧ (¬ q.2 = 0 → S0.1 10 ≤ 0)) := by
  delta mm_meetsSign
  refine dc_ifI ?_ ?_
  · intro hc
    delta mm_meetsSign_L15
    exact dc_ret ⟨(by show 0 ≤ S0.1 7; first | assumption | (simp only [i_le, i_lt, i_eq, a_add, a_sub, a_mul, il_0, il_1, il_2, il_31, il_32768] at *; omega) | grind), (by show S0.1 7 ≤ S0.1 4; first | assumption | (simp only [i_le, i_lt, i_eq, a_add, a_sub, a_mul, il_0, il_1, il_2, il_31, il_32768] at *; omega) | grind), (by show S0.1 4 ≤ S0.1 2; first | assumption | (simp only [i_le, i_lt, i_eq, a_add, a_sub, a_mul, il_0, il_1, il_2, il_31, il_32768] at *; omega) | grind), (by show S0.1 2 ≤ 32768; first | assumption | (simp only [i_le, i_lt, i_eq, a_add, a_sub, a_mul, il_0, il_1, il_2, il_31, il_32768] at *; omega) | grind), (by show (¬ S0.1 6 = 0 → S0.1 7 < S0.1 4); first | assumption | (simp only [i_le, i_lt, i_eq, a_add, a_sub, a_mul, il_0, il_1, il_2, il_31, il_32768] at *; omega) | grind), (by show (S0.1 6 = 1 → S0.1 4 - S0.1 7 ≤ 31); first | assumption | (simp only [i_le, i_lt, i_eq, a_add, a_sub, a_mul, il_0, il_1, il_2, il_31, il_32768] at *; omega) | grind), (by show (0 = 0 ∨ 0 = 1); first | assumption | (simp only [i_le, i_lt, i_eq, a_add, a_sub, a_mul, il_0, il_1, il_2, il_31, il_32768] at *; omega) | grind), (by show S0.1 7 ≤ S0.1 7; first | assumption | (simp only [i_le, i_lt, i_eq, a_add, a_sub, a_mul, il_0, il_1, il_2, il_31, il_32768] at *; omega) | grind), (by show (¬ 0 = 0 → S0.1 7 < S0.1 7); first | assumption | (simp only [i_le, i_lt, i_eq, a_add, a_sub, a_mul, il_0, il_1, il_2, il_31, il_32768] at *; omega) | grind), (by show (¬ 0 = 0 → S0.1 10 ≤ 0); first | assumption | (simp only [i_le, i_lt, i_eq, a_add, a_sub, a_mul, il_0, il_1, il_2, il_31, il_32768] at *; omega) | grind)⟩
  · intro hc
    refine dc_callI (mm_isSign_s S0 p1 ) ?_
    rintro q1 ⟨hq1_0, hq1_1⟩
    replace hq1_0 : (q1 = 0 ∨ q1 = 1) := hq1_0
    replace hq1_1 : (¬ q1 = 0 → S0.1 6 = 2) := hq1_1
    refine dc_ifI ?_ ?_
    · intro hc
      delta mm_meetsSign_L15
      exact dc_ret ⟨(by show 0 ≤ S0.1 7; first | assumption | (simp only [i_le, i_lt, i_eq, a_add, a_sub, a_mul, il_0, il_1, il_2, il_31, il_32768] at *; omega) | grind), (by show S0.1 7 ≤ S0.1 4; first | assumption | (simp only [i_le, i_lt, i_eq, a_add, a_sub, a_mul, il_0, il_1, il_2, il_31, il_32768] at *; omega) | grind), (by show S0.1 4 ≤ S0.1 2; first | assumption | (simp only [i_le, i_lt, i_eq, a_add, a_sub, a_mul, il_0, il_1, il_2, il_31, il_32768] at *; omega) | grind), (by show S0.1 2 ≤ 32768; first | assumption | (simp only [i_le, i_lt, i_eq, a_add, a_sub, a_mul, il_0, il_1, il_2, il_31, il_32768] at *; omega) | grind), (by show (¬ S0.1 6 = 0 → S0.1 7 < S0.1 4); first | assumption | (simp only [i_le, i_lt, i_eq, a_add, a_sub, a_mul, il_0, il_1, il_2, il_31, il_32768] at *; omega) | grind), (by show (S0.1 6 = 1 → S0.1 4 - S0.1 7 ≤ 31); first | assumption | (simp only [i_le, i_lt, i_eq, a_add, a_sub, a_mul, il_0, il_1, il_2, il_31, il_32768] at *; omega) | grind), (by show (0 = 0 ∨ 0 = 1); first | assumption | (simp only [i_le, i_lt, i_eq, a_add, a_sub, a_mul, il_0, il_1, il_2, il_31, il_32768] at *; omega) | grind), (by show S0.1 7 ≤ S0.1 7; first | assumption | (simp only [i_le, i_lt, i_eq, a_add, a_sub, a_mul, il_0, il_1, il_2, il_31, il_32768] at *; omega) | grind), (by show (¬ 0 = 0 → S0.1 7 < S0.1 7); first | assumption | (simp only [i_le, i_lt, i_eq, a_add, a_sub, a_mul, il_0, il_1, il_2, il_31, il_32768] at *; omega) | grind), (by show (¬ 0 = 0 → S0.1 10 ≤ 0); first | assumption | (simp only [i_le, i_lt, i_eq, a_add, a_sub, a_mul, il_0, il_1, il_2, il_31, il_32768] at *; omega) | grind)⟩
    · intro hc
      refine dc_callI (dc_wpw (mm_advance_s S0 (by show 0 ≤ S0.1 4; first | assumption | (simp only [i_le, i_lt, i_eq, a_add, a_sub, a_mul, il_0, il_1, il_2, il_31, il_32768] at *; omega) | grind) (by show S0.1 4 ≤ S0.1 2; first | assumption | (simp only [i_le, i_lt, i_eq, a_add, a_sub, a_mul, il_0, il_1, il_2, il_31, il_32768] at *; omega) | grind) (by show S0.1 2 ≤ 32768; first | assumption | (simp only [i_le, i_lt, i_eq, a_add, a_sub, a_mul, il_0, il_1, il_2, il_31, il_32768] at *; omega) | grind)) (mm_advance_fr S0)) ?_
      rintro q2 ⟨⟨hq2_0, hq2_1, hq2_2, hq2_3, hq2_4⟩, hfq2⟩
      have q2_2 : q2.1 2 = (S0.1 2) := (hfq2.1 2 (by decide))
      have q2_10 : q2.1 10 = (S0.1 10) := (hfq2.1 10 (by decide))
      clear hfq2
      replace hq2_0 : S0.1 4 ≤ q2.1 7 := hq2_0
      replace hq2_1 : q2.1 7 ≤ q2.1 4 := hq2_1
      replace hq2_2 : q2.1 4 ≤ S0.1 2 := hq2_2
      replace hq2_3 : (¬ q2.1 6 = 0 → q2.1 7 < q2.1 4) := hq2_3
      replace hq2_4 : (q2.1 6 = 1 → q2.1 4 - q2.1 7 ≤ 31) := hq2_4
      exact dc_ret ⟨(by show 0 ≤ q2.1 7; clear q2_2 q2_10; first | assumption | (simp only [i_le, i_lt, i_eq, a_add, a_sub, a_mul, il_0, il_1, il_2, il_31, il_32768] at *; omega) | grind), (by show q2.1 7 ≤ q2.1 4; clear q2_2 q2_10; first | assumption | (simp only [i_le, i_lt, i_eq, a_add, a_sub, a_mul, il_0, il_1, il_2, il_31, il_32768] at *; omega) | grind), (by show q2.1 4 ≤ q2.1 2; rewrite [q2_2]; clear q2_2 q2_10; first | assumption | (simp only [i_le, i_lt, i_eq, a_add, a_sub, a_mul, il_0, il_1, il_2, il_31, il_32768] at *; omega) | grind), (by show q2.1 2 ≤ 32768; rewrite [q2_2]; clear q2_2 q2_10; first | assumption | (simp only [i_le, i_lt, i_eq, a_add, a_sub, a_mul, il_0, il_1, il_2, il_31, il_32768] at *; omega) | grind), (by show (¬ q2.1 6 = 0 → q2.1 7 < q2.1 4); clear q2_2 q2_10; first | assumption | (simp only [i_le, i_lt, i_eq, a_add, a_sub, a_mul, il_0, il_1, il_2, il_31, il_32768] at *; omega) | grind), (by show (q2.1 6 = 1 → q2.1 4 - q2.1 7 ≤ 31); clear q2_2 q2_10; first | assumption | (simp only [i_le, i_lt, i_eq, a_add, a_sub, a_mul, il_0, il_1, il_2, il_31, il_32768] at *; omega) | grind), (by show (1 = 0 ∨ 1 = 1); clear q2_2 q2_10; first | assumption | (simp only [i_le, i_lt, i_eq, a_add, a_sub, a_mul, il_0, il_1, il_2, il_31, il_32768] at *; omega) | grind), (by show S0.1 7 ≤ q2.1 7; clear q2_2 q2_10; first | assumption | (simp only [i_le, i_lt, i_eq, a_add, a_sub, a_mul, il_0, il_1, il_2, il_31, il_32768] at *; omega) | grind), (by show (¬ 1 = 0 → S0.1 7 < q2.1 7); clear q2_2 q2_10; first | assumption | (simp only [i_le, i_lt, i_eq, a_add, a_sub, a_mul, il_0, il_1, il_2, il_31, il_32768] at *; omega) | grind), (by show (¬ 1 = 0 → S0.1 10 ≤ 0); clear q2_2 q2_10; first | assumption | (simp only [i_le, i_lt, i_eq, a_add, a_sub, a_mul, il_0, il_1, il_2, il_31, il_32768] at *; omega) | grind)⟩
