/-! what the reference's safety wants between calls, and what gives it back -/
def zk74 (M : md_S) : Prop := ∀ p : Nat, p < 200 → M.2.1 74 p = 0 ∨ M.2.1 74 p = 1
def zkS (M : md_S) : Prop := (M.1 41 = 1 → sb_PF M) ∧ sb_RW M ∧ zk74 M
section ZKS
variable {M M' : md_S}
theorem zk_le {α τ : Type} {e : α} {f : α → Option τ} {F : τ → Prop} (k : dc_pw (f e) F) : dc_pw (dc_let e f) F := k
theorem zk74_e (h : zk74 M) (e : M'.2.1 74 = M.2.1 74) : zk74 M' := by
  unfold zk74
  rw [e]
  exact h
theorem zk_RW (h : sb_RW M) (e1 : M'.2.1 71 = M.2.1 71) (e3 : M'.2.1 73 = M.2.1 73) : sb_RW M' := by
  unfold sb_RW
  rw [e1, e3]
  exact h
theorem zk_fr {wi wa : List Nat} {bw bt : Bool} (h : zkS M) (f : md_fr wi wa bw bt M M') (h1 : wi.all (fun k => !([42, 43, 44, 45, 46, 47, 50] : List Nat).contains k) = true) (h2 : wa.all (fun k => !([51, 52, 53, 54, 57, 58, 59, 60, 61, 62, 63, 64, 65, 66, 69] : List Nat).contains k) = true) (e41 : M'.1 41 = M.1 41) (e1 : M'.2.1 71 = M.2.1 71) (e3 : M'.2.1 73 = M.2.1 73) (h74 : zk74 M') : zkS M' :=
  ⟨fun z => sb_PE_PF (sb_PE_fr f h1 h2) (h.1 (e41.symm.trans z)), zk_RW h.2.1 e1 e3, h74⟩
theorem zk_f (M M' : md_S) (h : zkS M) (f : md_fr [0, 2, 3] [1] false false M M') : zkS M' :=
  zk_fr h f (by decide) (by decide) (f.1 41 (by decide)) (f.2.1 71 (by decide)) (f.2.1 73 (by decide)) (zk74_e h.2.2 (f.2.1 74 (by decide)))
theorem zk_s (M : md_S) (e : Int32) (h : zkS M) : zkS (md_i M 0 e) := by
  have f : md_fr [0] [] false false M (md_i M 0 e) := ⟨fun k hk => by rw [md_i1, if_neg (fun z => hk (by rw [z]; exact List.mem_cons_self))], fun _ _ => rfl, fun _ => rfl, fun _ => rfl⟩
  exact zk_fr h f (by decide) (by decide) (f.1 41 (by decide)) rfl rfl h.2.2
theorem zk_0 : zkS lw_M0 := ⟨fun z => absurd (show (0 : Int32) = 1 from z) (by decide), ⟨fun i _ => show 0 ≤ (0 : Int32).toInt ∧ (0 : Int32).toInt < 1662 by decide, fun i _ => Or.inl rfl⟩, fun p _ => Or.inl rfl⟩
/-- row 74 holds bits behind restart -/
theorem zk_restart (h : zk74 M) : dc_pw (mm_restart M) (fun r => zk74 r.1) := by
  have L : ∀ y, dc_pw (mm_restart_L13 M y) (fun r => zk74 r.1) := fun y => by
    delta mm_restart_L13
    refine pw_bind (mm_fails_fr M y 0) (fun q1 f1 => ?_)
    refine pw_if ?_ (pw_some (zk74_e h (f1.2.1 74 (by decide))))
    refine zk_le (pw_any (fun q3 => ?_))
    refine pw_bind (P := zk74) (fun q e => pl_74 e) (fun q4 h4 => ?_)
    refine zk_le (pw_some ?_)
    exact zk74_e h4 rfl
  delta mm_restart
  exact pw_if (L 1) (L 0)
theorem zk_go (h : zk74 M) (p : Int32) : dc_pw (mm_go M p) zk74 := by
  have L34 : ∀ y0 y1, dc_pw (mm_go_L34 M p y0 y1) zk74 := fun y0 y1 => by
    delta mm_go_L34
    refine pw_bind (mm_fails_fr M y1 y0) (fun q1 f1 => ?_)
    refine pw_if ?_ (pw_some (zk74_e h (f1.2.1 74 (by decide))))
    refine pw_any (fun q2 => ?_)
    refine pw_bind (P := zk74) (fun q e => pl_74 e) (fun q3 h3 => ?_)
    refine zk_le (pw_some ?_)
    exact zk74_e h3 rfl
  have L33 : ∀ y, dc_pw (mm_go_L33 M p y) zk74 := fun y => by
    delta mm_go_L33
    exact L34 0 y
  have L13 : ∀ y, dc_pw (mm_go_L13 M p y) zk74 := fun y => by
    delta mm_go_L13
    exact pw_if (L33 y) (pw_any (fun q5 => pw_if (L34 1 y) (L33 y)))
  delta mm_go
  exact pw_if (L13 1) (L13 0)
/-- and behind read -/
theorem zk_read : dc_pw (mm_read M) (fun r => zk74 r.1) := by
  have fg : ∀ S, dc_pw (mm_forget S) zk74 := fun S q e p hp => Or.inl ((fgt_w e).2.1 p hp)
  have L235 : ∀ S, zk74 S → dc_pw (mm_read_L235 S) (fun r => zk74 r.1) := fun S h => by
    delta mm_read_L235 mm_read_L263
    refine zk_le (zk_le ?_)
    refine pw_if (pw_bind (fg _) (fun q hq => pw_some hq)) (pw_bind (mm_settle_fr _) (fun q f => pw_some ?_))
    exact zk74_e (M := S) h (f.2.1 74 (by decide))
  have L219 : ∀ S, zk74 S → ∀ y, dc_pw (mm_read_L219 S y) (fun r => zk74 r.1) := fun S h y => by
    delta mm_read_L219
    refine pw_any (fun _ => zk_le (pw_if (L235 _ ?_) (zk_le (L235 _ ?_))))
    · exact zk74_e (M := S) h rfl
    · exact zk74_e (M := S) h rfl
  have L167 : ∀ S, zk74 S → dc_pw (mm_read_L167 S) (fun r => zk74 r.1) := fun S h => by
    delta mm_read_L167 mm_read_L214
    exact pw_if (pw_if (L219 S h 1) (pw_if (L219 S h 1) (pw_if (L219 S h 1) (pw_if (L219 S h 1) (L219 S h 0))))) (L219 S h 1)
  have L152 : ∀ S, zk74 S → ∀ x y, dc_pw (mm_read_L152 S x y) (fun r => zk74 r.1) := fun S h x y => by
    delta mm_read_L152
    refine pw_any (fun _ => zk_le (pw_if (pw_bind (mm_lay_I_fr _ x) (fun q f => L167 q ?_)) (L167 _ ?_)))
    · exact zk74_e (M := S) h (f.2.1 74 (by decide))
    · exact zk74_e (M := S) h rfl
  have L104 : ∀ S, zk74 S → ∀ x, dc_pw (mm_read_L104 S x) (fun r => zk74 r.1) := fun S h x => by
    delta mm_read_L104 mm_read_L147
    exact pw_if (pw_if (pw_if (L152 S h x 1) (pw_if (L152 S h x 1) (pw_if (L152 S h x 1) (L152 S h x 0)))) (L152 S h x 1)) (L235 S h)
  delta mm_read
  refine zk_le (zk_le (zk_le (zk_le (zk_le (zk_le (zk_le (zk_le (zk_le (zk_le (zk_le (zk_le (zk_le ?_))))))))))))
  refine pw_bind (fg _) (fun q24 h24 => pw_bind (mm_program_fr q24) (fun q25 f25 => ?_))
  have h25 : zk74 q25.1 := zk74_e h24 (f25.2.1 74 (by decide))
  refine pw_if (pw_if (zk_le (L104 _ ?_ _)) (L104 _ h25 _)) (L104 _ h25 _)
  exact zk74_e (M := q25.1) h25 rfl
/-- what explore wants of react -/
theorem zk_exK : exK sb_RV := by
  refine ⟨fun S p v => wq_w (mm_react_l v p) (fun q h => ⟨sb_RE_RV h v, h.1⟩), fun S S' v h1 h2 h3 => ⟨sb_PE_PF ⟨fun k hk => h1 k ?_, fun k hk => h2 k ?_⟩ v.1, zk_RW v.2.1 (h2 71 (by omega)) (h2 73 (by omega)), h3⟩⟩
  · revert hk
    simp only [List.mem_cons, List.mem_nil_iff, or_false]
    omega
  · revert hk
    simp only [List.mem_cons, List.mem_nil_iff, or_false]
    omega
/-- what the reader's safety says of a program -/
theorem zk_PS : prS := fun S0 h0 h1 h2 h3 h4 h5 h6 h7 h8 h9 h10 h11 => wq_w (mm_program_s S0 h0 h1 h2 h3 h4 h5 h6 h7 h8 h9 h10 h11) (fun q h => by
  obtain ⟨a, b, c, -, -, d⟩ := h
  refine ⟨a, fun z => ?_⟩
  obtain ⟨-, ⟨-, nm, -⟩, -, -, b27, -, b28⟩ := b z
  exact ⟨⟨b27, b28⟩, nm, c z, d z⟩)
end ZKS
