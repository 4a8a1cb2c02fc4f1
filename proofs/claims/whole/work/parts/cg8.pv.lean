/-! the class's parser stands ready -/
def pvL : List Nat := [1, 10, 0, 11, 15, 2, 4, 3, 12, 13, 14, 16, 17, 18, 5, 6, 7, 8, 9]
def pvA (G : hg_E) (tx i : Nat) : Nat := if i < 19 then tx + pvL.getD i 0 else G.2.2.1
def pvC (i : Nat) : Nat := if i = 3 then 0 else 4
def pvQ (i : Nat) : Int32 := if i = 5 then 1 else 0
theorem pvL_in : ∀ i, i < 19 → ∀ j, j < 19 → pvL.getD i 0 = pvL.getD j 0 → i = j := by decide
section PVW
variable {G : hg_E} {S S' : hg_S} {tx n K1 K2 : Nat} {f : Nat → Int32}
theorem pvA_e {i : Nat} (h : i < 19) : pvA G tx i = tx + pvL.getD i 0 := if_pos h
theorem pv_w (v : AV S S' (tx + 1) 4 [.ref (S.2.1 + 8), .ref (S.2.1 + 9), .ref (S.2.1 + 13), .ref S.2.1, .int 0, .int 0, .int 0] 17 77 (paE G S.2.1 tx)) (h0 : hw S) (ht : S.2.1 = tx + 2) (htx : hg_at S.1 tx = some (.inl (G.1 1, n, .inl f))) (hE : G.2.2.1 < tx) (hK : K1 ≤ S'.2.2.1 + 44 ∧ K2 ≤ S'.2.2.2 + 88) : PV G tx (fun b => hg_at S'.1 b) K1 K2 n f S' (pvA G tx) pvC (fun _ _ => 0) pvQ 32 (fun _ => none) (fun _ => 0) (fun _ => (0, 0, none, none, 0, 0, 0)) := by
  have t' : S'.2.1 = tx + 19 := by rw [v.2.2.1, ht]
  have l0 : hg_at S'.1 (tx + 1) = some (.inr (4, [.ref (S.2.1 + 8), .ref (S.2.1 + 9), .ref (S.2.1 + 13), .ref S.2.1, .int 0, .int 0, .int 0])) := v.2.1
  have ltx : hg_at S'.1 tx = some (.inl (G.1 1, n, .inl f)) := v.at h0 htx (by omega)
  have c : ∀ i, i < 17 → hg_at S'.1 (S.2.1 + i) = some (paE G S.2.1 tx i) := v.2.2.2.2
  rw [ht] at l0 c
  have a3 : ∀ i, hg_at S'.1 (tx + i) = hg_at S'.1 (tx + i) := fun _ => rfl
  refine ⟨⟨v.1.1, ?_, ?_, fun _ _ => rfl, hE, by omega⟩, l0, ⟨?_, ltx, ?_⟩, ⟨c 9 (by omega), c 10 (by omega), c 11 (by omega), c 12 (by omega)⟩, ⟨c 13 (by omega), c 14 (by omega), c 15 (by omega), c 16 (by omega)⟩, c 0 (by omega), ⟨c 2 (by omega), c 3 (by omega), c 4 (by omega), c 5 (by omega), c 6 (by omega), c 7 (by omega)⟩, ⟨⟨c 1 (by omega), Or.inl ⟨rfl, rfl⟩⟩, fun z => absurd rfl z⟩, ?_, ?_⟩
  · intro i hi j hj e
    rw [pvA_e hi, pvA_e hj] at e
    exact pvL_in i hi j hj (by omega)
  · intro i hi
    rw [pvA_e hi]
    omega
  · exact c 8 (by omega)
  · show ¬ tx + 10 = tx + 0
    omega
  · intro i hi
    have hi : i < (0 : Int32).toInt.toNat := hi
    rw [il_0] at hi
    omega
  · have e0 : (pvQ 12).toInt.toNat = 0 := by decide
    have e1 : pvC 0 = 4 ∧ pvC 1 = 4 ∧ pvC 2 = 4 ∧ pvC 3 = 0 := ⟨rfl, rfl, rfl, rfl⟩
    rw [e0, e1.1, e1.2.1, e1.2.2.1, e1.2.2.2]
    omega
end PVW
