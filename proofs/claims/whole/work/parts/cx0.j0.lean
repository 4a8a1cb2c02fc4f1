/-! what holds before the first call; the looks of the law -/
section J00
variable {Ks : md_S → Prop} {G : hg_E} {sz : Nat}
theorem wJ_0 (hK : Ks lw_M0) : wJ Ks G sz 0 (lw_S0 G sz) lw_M0 := by
  have a0 : hg_at (lw_S0 G sz).1 sz = some (.inr (0, enL (sz + 1) 0 0 .null .null .null .null 0 0 0 .null .null 0 0)) := by
    show hg_at (lw_w0 G sz) sz = _
    unfold lw_w0
    simp [hg_at, z_SE]
  have a1 : hg_at (lw_S0 G sz).1 (sz + 1) = some (.inl (G.1 1, 80, .inl (fun _ => 0))) := by
    show hg_at (lw_w0 G sz) (sz + 1) = _
    unfold lw_w0
    simp [hg_at]
  have aw : hw (lw_S0 G sz) := by
    intro b hb
    have hb : sz + 67 ≤ b := hb
    show hg_at (lw_w0 G sz) b = none
    unfold lw_w0
    simp [hg_at]
    omega
  refine ⟨sz + 1, 80, fun _ => 0, 0, 0, 0, 0, 0, 0, 0, .null, .null, .null, .null, .null, .null, 0, 0, 256, fun _ => 0, fun _ => 0, hK, ⟨⟨⟨⟨a0, a1⟩, aw, by omega⟩, ⟨rfl, rfl, fun i _ => rfl⟩, fun i => rfl, by decide⟩, by show sz < sz + 67; omega⟩, ⟨Or.inl rfl, Or.inl rfl, (fun z => by cases z), (fun z => by cases z), (fun z => by cases z)⟩, ⟨0, 0, 0, ⟨by omega, fun _ => rfl⟩, Or.inl ⟨rfl, rfl, rfl⟩, ?_, ?_⟩, Or.inl ⟨⟨⟨rfl, rfl, rfl, rfl, rfl, rfl, rfl, rfl, rfl, rfl, rfl, rfl, rfl, rfl, rfl, rfl⟩, fun _ _ => rfl, fun _ _ => rfl⟩, ⟨rfl, rfl, rfl, rfl⟩, ⟨rfl, rfl, rfl, rfl, rfl⟩, fun i => by show v3 0; unfold v3; decide⟩⟩
  · show 600957 + 40 * (0 : Int32).toInt.toNat ≤ 600957 + _ + _ + _ + _
    rw [show (0 : Int32).toInt.toNat = 0 by decide]; omega
  · show 6865417 + 301 * (0 : Int32).toInt.toNat ≤ 6865417 + _ + _ + _ + _ + _
    rw [show (0 : Int32).toInt.toNat = 0 by decide]; omega
end J00
