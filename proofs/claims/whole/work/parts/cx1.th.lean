/-! what was answered or thrown, as the law asks it -/
section THA
variable {Ks : md_S → Prop} {G : hg_E} {S : hg_S} {M : md_S} {sz k : Nat}
theorem th_s {τ : Type} {cc : Bool} {A : Option ((hg_S × τ) ⊕ hg_X)} {B : Option (md_S × τ)} (ht : thO cc A B (wJ Ks G sz (k + 1))) {v : Int64} {wd : τ → Int64} {H : hg_X → Option (hg_S × Int64 × Int32)} (hH : ∀ z : hg_X, (z.2.2 = true → cc = true) → H z = some (z.1, v, if z.2.2 = true then 2 else 1)) : ∃ r, B = some r ∧ dc_wp (A.bind (Sum.elim (fun q => some (q.1, wd q.2, (0 : Int32))) H)) (fun q => q.2.2 = r.1.1 0 ∧ (q.2.2 = 0 → q.2.1 = wd r.2) ∧ wJ Ks G sz (k + 1) q.1 r.1) := by
  obtain ⟨r, hr, hw⟩ := ht
  refine ⟨r, hr, wq_call hw (fun z hz => ?_)⟩
  rcases hz with ⟨S', ez, e0, hj⟩ | ⟨S', a, b, hc, ez, e0, hj⟩
  · subst ez
    exact ⟨_, rfl, e0.symm, fun _ => rfl, hj⟩
  · subst ez
    refine ⟨_, hH _ hc, e0.symm, fun z => ?_, hj⟩
    have z : (if b = true then (2 : Int32) else 1) = 0 := z
    cases b
    · exact absurd z (by decide)
    · exact absurd z (by decide)
theorem cmp_0 (x : Int64) : dc_cmp x x = 0 := by
  unfold dc_cmp
  rw [if_neg (Int64.lt_irrefl), if_pos rfl]
theorem th_f {τ : Type} {r : md_S × τ} {B : Option (md_S × τ)} (hr : B = some r) {wd : τ → Int64} {q : hg_S × Int64 × Int32} (h : q.2.2 = r.1.1 0 ∧ (q.2.2 = 0 → q.2.1 = wd r.2) ∧ wJ Ks G sz (k + 1) q.1 r.1) : dc_wp (B.bind fun q2 => (mm_thrown q2.1).bind fun q3 => if q3 = q.2.2 then (if q.2.2 = 0 then (if (dc_cmp q.2.1 (wd q2.2)) = 0 then (some (q.1, q.2.1, q2.1)) else (none)) else (some (q.1, q.2.1, q2.1))) else (none)) (fun z => wJ Ks G sz (k + 1) z.1 z.2.2) := by
  obtain ⟨h1, h2, h3⟩ := h
  rw [hr]
  show dc_wp (if r.1.1 0 = q.2.2 then (if q.2.2 = 0 then (if (dc_cmp q.2.1 (wd r.2)) = 0 then (some (q.1, q.2.1, r.1)) else (none)) else (some (q.1, q.2.1, r.1))) else (none)) _
  rw [if_pos h1.symm]
  by_cases c : q.2.2 = 0
  · rw [if_pos c, h2 c, if_pos (cmp_0 _)]
    exact ⟨_, rfl, h3⟩
  · rw [if_neg c]
    exact ⟨_, rfl, h3⟩
end THA
