/-! what was answered, as the law asks it -/
section LKA
variable {Ks : md_S → Prop} {G : hg_E} {S : hg_S} {M : md_S} {sz k : Nat}
theorem wJ_K (h : wJ Ks G sz k S M) : Ks M := by
  obtain ⟨t, N, g, nn, f, st, en, rn, ex, la, pg, rc, hd, sh, ta, tn, oA, oN, cap, bA, bN, hk, -⟩ := h
  exact hk
theorem wJ_o (h : wJ Ks G sz k S M) {τ : Type} {E : Nat → Option τ} {F : τ → Prop} (kk : dc_wp (E sz) F) : dc_wp ((hg_chk S (some sz) 0).bind E) F := by
  obtain ⟨t, N, g, nn, f, st, en, rn, ex, la, pg, rc, hd, sh, ta, tn, oA, oN, cap, bA, bN, hk, ⟨hT, -⟩, -⟩ := h
  exact wq_chk hT.1.1.1 kk
/-- a look, asked of both -/
theorem lk_w (hKs : ∀ M e, Ks M → Ks (md_i M 0 e)) (h : wJ Ks G sz k S M) {A : Option Int32} {B : Option (md_S × Int32)} (hl : lkO A B M) {v : Int64} : dc_wp (A.bind fun q3 => B.bind fun q5 => if q3 = q5.2 then some (S, v, q5.1) else none) (fun z => wJ Ks G sz (k + 1) z.1 z.2.2) := by
  obtain ⟨r, hr, h1, h2⟩ := hl
  refine wq_call h2 (fun q eq => ?_)
  rw [hr]
  show dc_wp (if q = r.2 then some (S, v, r.1) else none) _
  rw [if_pos eq]
  refine ⟨_, rfl, ?_⟩
  show wJ Ks G sz (k + 1) S r.1
  rw [h1]
  exact wJ_l (fun e => hKs M e (wJ_K h)) h 0
end LKA
