/-! the class's atlas: what an instant did is noted -/
/-- numbers put together by their bits -/
def oB (g : Nat → Int32) : Nat → Int32
  | 0 => 0
  | k + 1 => oB g k ||| g k
theorem oB_cg {g g' : Nat → Int32} : ∀ n, (∀ k, k < n → g k = g' k) → oB g n = oB g' n
  | 0, _ => rfl
  | n + 1, h => by
    show oB g n ||| g n = oB g' n ||| g' n
    rw [oB_cg n (fun k hk => h k (by omega)), h n (by omega)]
/-- the bit of a pause that is chosen; of an output that is present -/
def thB (cf : Nat → Int32) (k : Nat) : Int32 := if cf k = 0 then 0 else (1 : Int32) <<< (Int32.ofNat k &&& (31 : Int32))
def shB (kf : Nat → Int32) (ins k : Nat) : Int32 := kf (ins + k) <<< (Int32.ofNat k &&& (31 : Int32))
def awN (q : rsT) (cl : Nat) (a th sh : Int32) : rsT := if a = 2 then uX (uX q 0 cl (-1)) 1 cl (-1) else uX (uX q 0 cl (if a = 1 then 257 else th)) 1 cl sh
section AWN
variable {G : hg_E} {E : awP} {S : hg_S} {q : rsT} {x a : Int32} {pg rc kA cA L ins out pa : Nat} {f9 f10 : List Value} {kf cf : Nat → Int32}
theorem not_w (h : AW G E S q) (hx : 0 ≤ x.toInt ∧ x.toInt < 4112) (hp : hg_at S.1 pg = some (.inr (9, f9))) (p1 : f9[1]? = some (.int (Int32.ofNat ins))) (p2 : f9[2]? = some (.int (Int32.ofNat out))) (p3 : f9[3]? = some (.int (Int32.ofNat pa))) (hr : hg_at S.1 rc = some (.inr (10, f10))) (r1 : f10[1]? = some (va_rf (some kA))) (r11 : f10[11]? = some (va_rf (some cA))) (hk : hg_at S.1 kA = some (.inl (G.1 0, L, .inl kf))) (hc : hg_at S.1 cA = some (.inl (G.1 2, pa, .inl cf))) (hb : ins + out ≤ L ∧ ins + out ≤ 62 ∧ pa ≤ 8) : dc_wp (hm_AT_note G S (wO E) x a (some pg) (some rc)) (fun S' => AW G E S' (awN q x.toInt.toNat a (oB (thB cf) pa) (oB (shB kf ins) out))) := by
  have w0 : (wN 0 : Int) = 4112 := rfl
  have w1 : (wN 1 : Int) = 4112 := rfl
  delta hm_AT_note
  unfold awN
  refine wq_if (fun c => ?_) (fun c => ?_)
  · rw [if_pos c]
    refine aw_g h (i := 0) (by decide) ?_
    refine aw_s h (i := 0) (by decide) hx.1 (by rw [w0]; exact hx.2) (fun S1 g1 => ?_)
    refine aw_g g1 (i := 1) (by decide) ?_
    refine aw_s g1 (i := 1) (by decide) hx.1 (by rw [w1]; exact hx.2) (fun S2 g2 => ?_)
    exact ⟨_, rfl, g2⟩
  · rw [if_neg c]
    delta hm_AT_note_L26
    have tpa : (Int32.ofNat pa).toInt = (pa : Int) := Int32.toInt_ofNat_of_lt (by omega)
    have to : (Int32.ofNat out).toInt = (out : Int) := Int32.toInt_ofNat_of_lt (by omega)
    have key := dc_itK (step := hm_AT_note_s26 G S (wO E) x a (some pg) (some rc)) (fun d (y : Int32 × Int32) => ∃ j, y.2 = Int32.ofNat j ∧ j ≤ pa ∧ d = pa - j ∧ y.1 = oB (thB cf) j) (F := fun z => z = oB (thB cf) pa) (by
      rintro d ⟨y1, y2⟩ ⟨j, ev, j1, ed, ey⟩
      have ev : y2 = Int32.ofNat j := ev
      have ey : y1 = oB (thB cf) j := ey
      have tj : (Int32.ofNat j).toInt = (j : Int) := Int32.toInt_ofNat_of_lt (by omega)
      have tjn : (Int32.ofNat j).toInt.toNat = j := by omega
      show dc_wp (hm_AT_note_b26 G S (wO E) x a (some pg) (some rc) y1 y2) _
      rw [ev, ey]
      delta hm_AT_note_b26
      refine wq_gi hp p3 ?_
      refine wq_if (fun c => ?_) (fun c => ?_)
      · have c := i_lt.mp c
        rw [tj, tpa] at c
        refine wq_gr hr r11 ?_
        refine wq_ld hc (by omega) (by omega) ?_
        rw [tjn]
        delta hm_AT_note_L56
        refine wq_if (fun z => ?_) (fun z => ?_)
        · refine ⟨_, rfl, pa - (j + 1), by omega, j + 1, ad_m (by omega), by omega, rfl, ?_⟩
          show oB (thB cf) j ||| 0 = oB (thB cf) j ||| thB cf j
          unfold thB
          rw [if_pos z]
        · refine ⟨_, rfl, pa - (j + 1), by omega, j + 1, ad_m (by omega), by omega, rfl, ?_⟩
          show oB (thB cf) j ||| ((1 : Int32) <<< (Int32.ofNat j &&& (31 : Int32))) = oB (thB cf) j ||| thB cf j
          unfold thB
          rw [if_neg z]
      · have c : ¬ (Int32.ofNat j).toInt < (Int32.ofNat pa).toInt := fun z => c (i_lt.mpr z)
        rw [tj, tpa] at c
        have ej : j = pa := by omega
        rw [ej]
        exact ⟨_, rfl, rfl⟩)
    refine wq_call (key pa (0, 0) ⟨0, rfl, Nat.zero_le _, rfl, rfl⟩) ?_
    intro th eth
    delta hm_AT_note_L65 hm_AT_note_L71
    have key2 := dc_itK (step := hm_AT_note_s71 G S (wO E) x a (some pg) (some rc) th) (fun d (y : Int32 × Int32) => ∃ j, y.2 = Int32.ofNat j ∧ j ≤ out ∧ d = out - j ∧ y.1 = oB (shB kf ins) j) (F := fun z => z = oB (shB kf ins) out) (by
      rintro d ⟨y1, y2⟩ ⟨j, ev, j1, ed, ey⟩
      have ev : y2 = Int32.ofNat j := ev
      have ey : y1 = oB (shB kf ins) j := ey
      have tj : (Int32.ofNat j).toInt = (j : Int) := Int32.toInt_ofNat_of_lt (by omega)
      show dc_wp (hm_AT_note_b71 G S (wO E) x a (some pg) (some rc) th y1 y2) _
      rw [ev, ey]
      delta hm_AT_note_b71
      refine wq_gi hp p2 ?_
      refine wq_if (fun c => ?_) (fun c => ?_)
      · have c := i_lt.mp c
        rw [tj, to] at c
        refine wq_gr hr r1 ?_
        refine wq_gi hp p1 ?_
        have e3 : Int32.ofNat ins + Int32.ofNat j = Int32.ofNat (ins + j) := by rw [Int32.ofNat_add]
        rw [e3]
        have t3 : (Int32.ofNat (ins + j)).toInt = ((ins + j : Nat) : Int) := Int32.toInt_ofNat_of_lt (by omega)
        refine wq_ld hk (by omega) (by omega) ?_
        rw [show (Int32.ofNat (ins + j)).toInt.toNat = ins + j by omega]
        exact ⟨_, rfl, out - (j + 1), by omega, j + 1, ad_m (by omega), by omega, rfl, rfl⟩
      · have c : ¬ (Int32.ofNat j).toInt < (Int32.ofNat out).toInt := fun z => c (i_lt.mpr z)
        rw [tj, to] at c
        have ej : j = out := by omega
        rw [ej]
        exact ⟨_, rfl, rfl⟩)
    refine wq_call (key2 out (0, 0) ⟨0, rfl, Nat.zero_le _, rfl, rfl⟩) ?_
    intro sh esh
    have last : ∀ v : Int32, v = (if a = 1 then 257 else th) → dc_wp (hm_AT_note_L125 G S (wO E) x sh v x (some (wB E 0))) (fun S' => AW G E S' (uX (uX q 0 x.toInt.toNat (if a = 1 then 257 else oB (thB cf) pa)) 1 x.toInt.toNat (oB (shB kf ins) out))) := by
      intro v ev
      delta hm_AT_note_L125
      refine aw_s h (i := 0) (by decide) hx.1 (by rw [w0]; exact hx.2) (fun S1 g1 => ?_)
      refine aw_g g1 (i := 1) (by decide) ?_
      refine aw_s g1 (i := 1) (by decide) hx.1 (by rw [w1]; exact hx.2) (fun S2 g2 => ?_)
      rw [ev, esh, eth] at g2
      exact ⟨_, rfl, g2⟩
    delta hm_AT_note_L107
    refine aw_g h (i := 0) (by decide) ?_
    refine wq_if (fun z => ?_) (fun z => ?_)
    · exact last 257 (by rw [if_pos z])
    · exact last th (by rw [if_neg z])
end AWN
