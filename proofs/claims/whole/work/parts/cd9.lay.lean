/-! the reference's lay: one node -/
/-- a node's row, without what it is told of those below and above -/
def lyB (S : md_S) (k b : Nat) (up w tr : Int32) : md_S := md_i (md_a (md_a (md_a (md_a (md_a (md_a (md_a (md_a (md_i S 42 (S.1 42 + 1)) 51 k (S.2.1 30 b)) 54 k (S.2.1 33 b)) 56 k (S.2.1 34 b)) 53 k (-1)) 52 k (-1)) 58 k up) 57 k w) 60 k tr) 48 (S.1 48 + w)
theorem lyB_f {S : md_S} {k b : Nat} {up w tr : Int32} : ((lyB S k b up w tr).1 42 = S.1 42 + 1 ∧ (lyB S k b up w tr).1 48 = S.1 48 + w ∧ ∀ i, ¬ i = 42 → ¬ i = 48 → (lyB S k b up w tr).1 i = S.1 i) ∧ (lyB S k b up w tr).2.2 = S.2.2 ∧ ((lyB S k b up w tr).2.1 51 = upd (S.2.1 51) k (S.2.1 30 b) ∧ (lyB S k b up w tr).2.1 54 = upd (S.2.1 54) k (S.2.1 33 b) ∧ (lyB S k b up w tr).2.1 56 = upd (S.2.1 56) k (S.2.1 34 b) ∧ (lyB S k b up w tr).2.1 53 = upd (S.2.1 53) k (-1) ∧ (lyB S k b up w tr).2.1 52 = upd (S.2.1 52) k (-1) ∧ (lyB S k b up w tr).2.1 58 = upd (S.2.1 58) k up ∧ (lyB S k b up w tr).2.1 57 = upd (S.2.1 57) k w ∧ (lyB S k b up w tr).2.1 60 = upd (S.2.1 60) k tr) ∧ ∀ i, ¬ (i = 51 ∨ i = 52 ∨ i = 53 ∨ i = 54 ∨ i = 56 ∨ i = 57 ∨ i = 58 ∨ i = 60) → (lyB S k b up w tr).2.1 i = S.2.1 i := by
  refine ⟨⟨rfl, rfl, fun i h1 h2 => ?_⟩, rfl, ⟨rfl, rfl, rfl, rfl, rfl, rfl, rfl, rfl⟩, fun i hi => ?_⟩
  · unfold lyB
    rw [md_ij h2]
    exact md_ij (S := S) h1
  · unfold lyB
    show (md_a (md_a (md_a (md_a (md_a (md_a (md_a (md_a (md_i S 42 (S.1 42 + 1)) 51 k (S.2.1 30 b)) 54 k (S.2.1 33 b)) 56 k (S.2.1 34 b)) 53 k (-1)) 52 k (-1)) 58 k up) 57 k w) 60 k tr).2.1 i = _
    rw [md_a2, if_neg (by omega), md_a2, if_neg (by omega), md_a2, if_neg (by omega), md_a2, if_neg (by omega), md_a2, if_neg (by omega), md_a2, if_neg (by omega), md_a2, if_neg (by omega), md_a2, if_neg (by omega)]
    rfl
/-- where a node hangs -/
def upK (S : md_S) (pp : Int32) (k : Nat) (up ot w tr : Int32) : Prop :=
  (pp = -1 ∧ up = -1 ∧ w = 1 ∧ tr = -1) ∨ ∃ v, v < k ∧ up = Int32.ofNat v ∧ ((pp = 2 * Int32.ofNat v ∧ ot = 0) ∨ (pp = 2 * Int32.ofNat v + 1 ∧ ot = 1)) ∧ w = S.2.1 57 v + (if S.2.1 51 v = 6 ∨ (S.2.1 51 v = 5 ∧ ot = 1) then 1 else 0) ∧ tr = (if S.2.1 51 v = 8 then up else S.2.1 60 v)
/-- told to the one above -/
def lnB (S : md_S) (up ot : Int32) (k : Int32) : md_S := if up = -1 then S else if ot = 0 then md_a S 52 up.toInt.toNat k else md_a S 53 up.toInt.toNat k
section LAY1
variable {S : md_S} {n k b : Nat}
theorem lay_a {q : (md_S × Int32) ⊕ md_S} (hn : n ≤ 3000) (hk : k ≤ 1200) (hp : S.2.1 40 n = -1 ∨ ∃ v, v < k ∧ (S.2.1 40 n = 2 * Int32.ofNat v ∨ S.2.1 40 n = 2 * Int32.ofNat v + 1)) (hq : mm_lay_I_s16 (S, Int32.ofNat (n + 1)) = some q) : ∃ up ot : Int32, ((S.2.1 40 n = -1 ∧ up = -1) ∨ ∃ v, v < k ∧ up = Int32.ofNat v ∧ ((S.2.1 40 n = 2 * Int32.ofNat v ∧ ot = 0) ∨ (S.2.1 40 n = 2 * Int32.ofNat v + 1 ∧ ot = 1))) ∧ mm_lay_I_L69 S (Int32.ofNat n) (S.2.1 39 n) (S.1 42) up ot = some q := by
  have tn : (Int32.ofNat n).toInt = (n : Int) := Int32.toInt_ofNat_of_lt (by omega)
  have tn1 : (Int32.ofNat (n + 1)).toInt = (n : Int) + 1 := by rw [Int32.toInt_ofNat_of_lt (by omega)]; omega
  have ed : Int32.ofNat (n + 1) + (-1) = Int32.ofNat n := by
    refine i_eq.mpr ?_
    rw [i_dec (by omega), tn1, tn]
    omega
  have tnn : (Int32.ofNat n).toInt.toNat = n := by omega
  have hq : mm_lay_I_b16 S (Int32.ofNat (n + 1)) = some q := hq
  delta mm_lay_I_b16 at hq
  rcases iv_if hq with ⟨-, hq⟩ | ⟨c, -⟩
  · rw [ed] at hq
    obtain ⟨-, -, hq⟩ := iv_ix hq
    rw [tnn] at hq
    have hq : (dc_ix (Int32.ofNat n) 1208).bind (fun j64 => dc_let (((S.2.1 40 j64) >>> (1 &&& (31 : Int32))) : Int32) fun v65 => (dc_ix (Int32.ofNat n) 1208).bind fun j66 => if ((S.2.1 40 j66) &&& 1) = 1 then (if v65 = (-1) then (mm_lay_I_L68 S (Int32.ofNat n) (S.2.1 39 n) (S.1 42) v65) else (mm_lay_I_L69 S (Int32.ofNat n) (S.2.1 39 n) (S.1 42) v65 1)) else (mm_lay_I_L68 S (Int32.ofNat n) (S.2.1 39 n) (S.1 42) v65)) = some q := hq
    obtain ⟨-, -, hq⟩ := iv_ix hq
    rw [tnn] at hq
    have hq : (dc_ix (Int32.ofNat n) 1208).bind (fun j66 => if ((S.2.1 40 j66) &&& 1) = 1 then (if ((S.2.1 40 n) >>> (1 &&& (31 : Int32))) = (-1) then (mm_lay_I_L68 S (Int32.ofNat n) (S.2.1 39 n) (S.1 42) ((S.2.1 40 n) >>> (1 &&& (31 : Int32)))) else (mm_lay_I_L69 S (Int32.ofNat n) (S.2.1 39 n) (S.1 42) ((S.2.1 40 n) >>> (1 &&& (31 : Int32))) 1)) else (mm_lay_I_L68 S (Int32.ofNat n) (S.2.1 39 n) (S.1 42) ((S.2.1 40 n) >>> (1 &&& (31 : Int32))))) = some q := hq
    obtain ⟨-, -, hq⟩ := iv_ix hq
    rw [tnn] at hq
    rcases hp with e | ⟨v, hv, e | e⟩
    · rw [e, if_pos (show ((-1 : Int32) &&& 1) = 1 by decide), if_pos (show ((-1 : Int32) >>> (1 &&& (31 : Int32))) = -1 by decide), show ((-1 : Int32) >>> (1 &&& (31 : Int32))) = -1 by decide] at hq
      exact ⟨-1, 0, Or.inl ⟨e, rfl⟩, hq⟩
    · obtain ⟨a1, a2, a3, a4, a5, a6⟩ := up_e v (by omega)
      rw [e, a3, if_neg (show ¬ (0 : Int32) = 1 by decide), a1] at hq
      exact ⟨Int32.ofNat v, 0, Or.inr ⟨v, hv, rfl, Or.inl ⟨e, rfl⟩⟩, hq⟩
    · obtain ⟨a1, a2, a3, a4, a5, a6⟩ := up_e v (by omega)
      have nm : ¬ Int32.ofNat v = -1 := by
        intro t
        have := congrArg Int32.toInt t
        rw [Int32.toInt_ofNat_of_lt (by omega), show (-1 : Int32).toInt = -1 by decide] at this
        omega
      rw [e, if_pos a4, a2, if_neg nm] at hq
      exact ⟨Int32.ofNat v, 1, Or.inr ⟨v, hv, rfl, Or.inr ⟨e, rfl⟩⟩, hq⟩
  · exact absurd (i_lt.mpr (by rw [il_0, tn1]; omega)) c
theorem lay_b {q : (md_S × Int32) ⊕ md_S} {up ot : Int32} (hk : k < 1200) (hb : b < 1200) (h42 : S.1 42 = Int32.ofNat k) (hu : (S.2.1 40 n = -1 ∧ up = -1) ∨ ∃ v, v < k ∧ up = Int32.ofNat v ∧ ((S.2.1 40 n = 2 * Int32.ofNat v ∧ ot = 0) ∨ (S.2.1 40 n = 2 * Int32.ofNat v + 1 ∧ ot = 1))) (hq : mm_lay_I_L69 S (Int32.ofNat n) (Int32.ofNat b) (S.1 42) up ot = some q) : ∃ w tr, upK S (S.2.1 40 n) k up ot w tr ∧ mm_lay_I_L298 (lnB (lyB S k b up w tr) up ot (Int32.ofNat k)) (Int32.ofNat n) (Int32.ofNat b) (Int32.ofNat k) = some q := by
  have tk : (Int32.ofNat k).toInt.toNat = k := by rw [Int32.toInt_ofNat_of_lt (by omega)]; omega
  have tb : (Int32.ofNat b).toInt.toNat = b := by rw [Int32.toInt_ofNat_of_lt (by omega)]; omega
  rw [h42] at hq
  delta mm_lay_I_L69 at hq
  have hq : (dc_ix (Int32.ofNat b) 1200).bind (fun j43 => (dc_ix (Int32.ofNat k) 1200).bind fun j44 => dc_let (md_a (md_i S 42 ((S.1 42) + 1)) 51 j44 ((md_i S 42 ((S.1 42) + 1)).2.1 30 j43)) fun S45 => (dc_ix (Int32.ofNat b) 1200).bind fun j46 => (dc_ix (Int32.ofNat k) 1200).bind fun j47 => dc_let (md_a S45 54 j47 (S45.2.1 33 j46)) fun S48 => (dc_ix (Int32.ofNat b) 1200).bind fun j49 => (dc_ix (Int32.ofNat k) 1200).bind fun j50 => dc_let (md_a S48 56 j50 (S48.2.1 34 j49)) fun S51 => (dc_ix (Int32.ofNat k) 1200).bind fun j52 => dc_let (md_a S51 53 j52 (-1)) fun S53 => (dc_ix (Int32.ofNat k) 1200).bind fun j54 => dc_let (md_a S53 52 j54 (-1)) fun S55 => (dc_ix (Int32.ofNat k) 1200).bind fun j56 => dc_let (md_a S55 58 j56 up) fun S57 => if up = (-1) then (mm_lay_I_L202 S57 (Int32.ofNat n) (Int32.ofNat b) (Int32.ofNat k) up ot 1 (Int32.ofNat k)) else ((dc_ix up 1200).bind fun j58 => (dc_ix up 1200).bind fun j59 => if (S57.2.1 51 j59) = 6 then (mm_lay_I_L196 S57 (Int32.ofNat n) (Int32.ofNat b) (Int32.ofNat k) up ot (S57.2.1 57 j58) (Int32.ofNat k)) else ((dc_ix up 1200).bind fun j60 => if (S57.2.1 51 j60) = 5 then (if ot = 0 then (mm_lay_I_L200 S57 (Int32.ofNat n) (Int32.ofNat b) (Int32.ofNat k) up ot (S57.2.1 57 j58) (Int32.ofNat k)) else (mm_lay_I_L196 S57 (Int32.ofNat n) (Int32.ofNat b) (Int32.ofNat k) up ot (S57.2.1 57 j58) (Int32.ofNat k))) else (mm_lay_I_L200 S57 (Int32.ofNat n) (Int32.ofNat b) (Int32.ofNat k) up ot (S57.2.1 57 j58) (Int32.ofNat k))))) = some q := hq
  obtain ⟨-, -, hq⟩ := iv_ix hq
  obtain ⟨-, -, hq⟩ := iv_ix hq
  obtain ⟨-, -, hq⟩ := iv_ix hq
  obtain ⟨-, -, hq⟩ := iv_ix hq
  obtain ⟨-, -, hq⟩ := iv_ix hq
  obtain ⟨-, -, hq⟩ := iv_ix hq
  obtain ⟨-, -, hq⟩ := iv_ix hq
  obtain ⟨-, -, hq⟩ := iv_ix hq
  obtain ⟨-, -, hq⟩ := iv_ix hq
  rw [tk, tb] at hq
  -- the row so far
  generalize eA : md_a (md_a (md_a (md_a (md_a (md_a (md_i S 42 (S.1 42 + 1)) 51 k (S.2.1 30 b)) 54 k (S.2.1 33 b)) 56 k (S.2.1 34 b)) 53 k (-1)) 52 k (-1)) 58 k up = A
  have hq : (if up = (-1) then (mm_lay_I_L202 A (Int32.ofNat n) (Int32.ofNat b) (Int32.ofNat k) up ot 1 (Int32.ofNat k)) else ((dc_ix up 1200).bind fun j58 => (dc_ix up 1200).bind fun j59 => if (A.2.1 51 j59) = 6 then (mm_lay_I_L196 A (Int32.ofNat n) (Int32.ofNat b) (Int32.ofNat k) up ot (A.2.1 57 j58) (Int32.ofNat k)) else ((dc_ix up 1200).bind fun j60 => if (A.2.1 51 j60) = 5 then (if ot = 0 then (mm_lay_I_L200 A (Int32.ofNat n) (Int32.ofNat b) (Int32.ofNat k) up ot (A.2.1 57 j58) (Int32.ofNat k)) else (mm_lay_I_L196 A (Int32.ofNat n) (Int32.ofNat b) (Int32.ofNat k) up ot (A.2.1 57 j58) (Int32.ofNat k))) else (mm_lay_I_L200 A (Int32.ofNat n) (Int32.ofNat b) (Int32.ofNat k) up ot (A.2.1 57 j58) (Int32.ofNat k))))) = some q := by
    rw [← eA]
    exact hq
  have A51 : ∀ v, v < k → A.2.1 51 v = S.2.1 51 v := by
    intro v hv
    rw [← eA]
    show upd (S.2.1 51) k (S.2.1 30 b) v = _
    exact upd_n (by omega)
  have A57 : A.2.1 57 = S.2.1 57 := by rw [← eA]; rfl
  have A60 : A.2.1 60 = S.2.1 60 := by rw [← eA]; rfl
  have A48 : A.1 48 = S.1 48 := by rw [← eA]; rfl
  have eB : ∀ w tr, md_i (md_a (md_a A 57 k w) 60 k tr) 48 (S.1 48 + w) = lyB S k b up w tr := by
    intro w tr
    rw [← eA]
    rfl
  -- behind the depth
  have l243 : ∀ (w tr : Int32), mm_lay_I_L243 (md_a A 57 k w) (Int32.ofNat n) (Int32.ofNat b) (Int32.ofNat k) up ot tr (Int32.ofNat k) = some q → mm_lay_I_L298 (lnB (lyB S k b up w tr) up ot (Int32.ofNat k)) (Int32.ofNat n) (Int32.ofNat b) (Int32.ofNat k) = some q := by
    intro w tr h
    delta mm_lay_I_L243 at h
    obtain ⟨-, -, h⟩ := iv_ix h
    rw [tk] at h
    have h : (dc_ix (Int32.ofNat k) 1200).bind (fun j34 => dc_let (md_i (md_a (md_a A 57 k w) 60 k tr) 48 (((md_a (md_a A 57 k w) 60 k tr).1 48) + ((md_a (md_a A 57 k w) 60 k tr).2.1 57 j34))) fun S35 => if up = (-1) then (mm_lay_I_L283 S35 (Int32.ofNat n) (Int32.ofNat b) (Int32.ofNat k) up) else (if ot = 0 then (mm_lay_I_L283 S35 (Int32.ofNat n) (Int32.ofNat b) (Int32.ofNat k) up) else ((dc_ix up 1200).bind fun j36 => dc_let (md_a S35 53 j36 (Int32.ofNat k)) fun S37 => mm_lay_I_L298 S37 (Int32.ofNat n) (Int32.ofNat b) (Int32.ofNat k)))) = some q := h
    obtain ⟨-, -, h⟩ := iv_ix h
    rw [tk] at h
    have w57 : (md_a (md_a A 57 k w) 60 k tr).2.1 57 k = w := by
      show upd (A.2.1 57) k w k = w
      exact upd_s
    have w48 : (md_a (md_a A 57 k w) 60 k tr).1 48 = S.1 48 := A48
    rw [w57, w48, eB w tr] at h
    have h : (if up = (-1) then (mm_lay_I_L283 (lyB S k b up w tr) (Int32.ofNat n) (Int32.ofNat b) (Int32.ofNat k) up) else (if ot = 0 then (mm_lay_I_L283 (lyB S k b up w tr) (Int32.ofNat n) (Int32.ofNat b) (Int32.ofNat k) up) else ((dc_ix up 1200).bind fun j36 => mm_lay_I_L298 (md_a (lyB S k b up w tr) 53 j36 (Int32.ofNat k)) (Int32.ofNat n) (Int32.ofNat b) (Int32.ofNat k)))) = some q := h
    rcases iv_if h with ⟨c1, h⟩ | ⟨c1, h⟩
    · delta mm_lay_I_L283 at h
      rw [if_pos c1] at h
      rw [show lnB (lyB S k b up w tr) up ot (Int32.ofNat k) = lyB S k b up w tr from if_pos c1]
      exact h
    · rcases iv_if h with ⟨c2, h⟩ | ⟨c2, h⟩
      · delta mm_lay_I_L283 at h
        rw [if_neg c1] at h
        obtain ⟨-, -, h⟩ := iv_ix h
        have e : lnB (lyB S k b up w tr) up ot (Int32.ofNat k) = md_a (lyB S k b up w tr) 52 up.toInt.toNat (Int32.ofNat k) := by
          unfold lnB
          rw [if_neg c1, if_pos c2]
        rw [e]
        exact h
      · obtain ⟨-, -, h⟩ := iv_ix h
        have e : lnB (lyB S k b up w tr) up ot (Int32.ofNat k) = md_a (lyB S k b up w tr) 53 up.toInt.toNat (Int32.ofNat k) := by
          unfold lnB
          rw [if_neg c1, if_neg c2]
        rw [e]
        exact h
  rcases hu with ⟨e0, e1⟩ | ⟨v, hv, e1, e2⟩
  · rw [if_pos e1] at hq
    delta mm_lay_I_L202 at hq
    obtain ⟨-, -, hq⟩ := iv_ix hq
    rw [tk] at hq
    have hq : (if up = (-1) then (mm_lay_I_L243 (md_a A 57 k 1) (Int32.ofNat n) (Int32.ofNat b) (Int32.ofNat k) up ot (-1) (Int32.ofNat k)) else _) = some q := hq
    rw [if_pos e1] at hq
    exact ⟨1, -1, Or.inl ⟨e0, e1, rfl, rfl⟩, l243 1 (-1) hq⟩
  · have nm : ¬ up = -1 := by
      intro t
      rw [e1] at t
      have := congrArg Int32.toInt t
      rw [Int32.toInt_ofNat_of_lt (by omega), show (-1 : Int32).toInt = -1 by decide] at this
      omega
    have tv : up.toInt.toNat = v := by rw [e1, Int32.toInt_ofNat_of_lt (by omega)]; omega
    have l202 : ∀ w : Int32, mm_lay_I_L202 A (Int32.ofNat n) (Int32.ofNat b) (Int32.ofNat k) up ot w (Int32.ofNat k) = some q → mm_lay_I_L298 (lnB (lyB S k b up w (if S.2.1 51 v = 8 then up else S.2.1 60 v)) up ot (Int32.ofNat k)) (Int32.ofNat n) (Int32.ofNat b) (Int32.ofNat k) = some q := by
      intro w h
      delta mm_lay_I_L202 at h
      obtain ⟨-, -, h⟩ := iv_ix h
      rw [tk] at h
      have h : (if up = (-1) then (mm_lay_I_L243 (md_a A 57 k w) (Int32.ofNat n) (Int32.ofNat b) (Int32.ofNat k) up ot (-1) (Int32.ofNat k)) else ((dc_ix up 1200).bind fun j40 => if (A.2.1 51 j40) = 8 then (mm_lay_I_L243 (md_a A 57 k w) (Int32.ofNat n) (Int32.ofNat b) (Int32.ofNat k) up ot up (Int32.ofNat k)) else ((dc_ix up 1200).bind fun j41 => mm_lay_I_L243 (md_a A 57 k w) (Int32.ofNat n) (Int32.ofNat b) (Int32.ofNat k) up ot (A.2.1 60 j41) (Int32.ofNat k)))) = some q := h
      rw [if_neg nm] at h
      obtain ⟨-, -, h⟩ := iv_ix h
      rw [tv, A51 v hv] at h
      rcases iv_if h with ⟨c, h⟩ | ⟨c, h⟩
      · rw [if_pos c]
        exact l243 w up h
      · obtain ⟨-, -, h⟩ := iv_ix h
        rw [tv, A60] at h
        rw [if_neg c]
        exact l243 w _ h
    rw [if_neg nm] at hq
    obtain ⟨-, -, hq⟩ := iv_ix hq
    obtain ⟨-, -, hq⟩ := iv_ix hq
    rw [tv, A51 v hv, A57] at hq
    have up1 : ∀ y : Int32, (y = if S.2.1 51 v = 6 ∨ (S.2.1 51 v = 5 ∧ ot = 1) then 1 else 0) → mm_lay_I_L202 A (Int32.ofNat n) (Int32.ofNat b) (Int32.ofNat k) up ot (S.2.1 57 v + y) (Int32.ofNat k) = some q → ∃ w tr, upK S (S.2.1 40 n) k up ot w tr ∧ mm_lay_I_L298 (lnB (lyB S k b up w tr) up ot (Int32.ofNat k)) (Int32.ofNat n) (Int32.ofNat b) (Int32.ofNat k) = some q := fun y hy h => ⟨_, _, Or.inr ⟨v, hv, e1, e2, by rw [hy], rfl⟩, l202 _ h⟩
    rcases iv_if hq with ⟨c6, hq⟩ | ⟨c6, hq⟩
    · exact up1 1 (if_pos (Or.inl c6)).symm hq
    · obtain ⟨-, -, hq⟩ := iv_ix hq
      rw [tv, A51 v hv] at hq
      rcases iv_if hq with ⟨c5, hq⟩ | ⟨c5, hq⟩
      · rcases iv_if hq with ⟨c0, hq⟩ | ⟨c0, hq⟩
        · refine up1 0 (if_neg (fun t => ?_)).symm hq
          rcases t with t | ⟨-, t⟩
          · exact c6 t
          · rw [c0] at t; exact absurd t (by decide)
        · have o1 : ot = 1 := by
            rcases e2 with ⟨-, t⟩ | ⟨-, t⟩
            · exact absurd t c0
            · exact t
          exact up1 1 (if_pos (Or.inr ⟨c5, o1⟩)).symm hq
      · refine up1 0 (if_neg (fun t => ?_)).symm hq
        rcases t with t | ⟨t, -⟩
        · exact c6 t
        · exact c5 t
end LAY1
