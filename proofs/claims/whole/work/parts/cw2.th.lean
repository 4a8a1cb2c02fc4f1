/-! calls that may throw, and calls that run, between calls -/
/-- both answer alike or both fail alike -/
def thO {τ : Type} (cc : Bool) (A : Option ((hg_S × τ) ⊕ hg_X)) (B : Option (md_S × τ)) (P : hg_S → md_S → Prop) : Prop := ∃ r, B = some r ∧ dc_wp A (fun z => (∃ S', z = .inl (S', r.2) ∧ r.1.1 0 = 0 ∧ P S' r.1) ∨ ∃ S' a b, (b = true → cc = true) ∧ z = .inr (S', a, b) ∧ r.1.1 0 = (if b = true then 2 else 1) ∧ P S' r.1)
section THS
variable {Ks : md_S → Prop} {G : hg_E} {S : hg_S} {M : md_S} {sz k : Nat} {p1 p2 : Int32}
theorem path_u (h : M.1 85 = 0) : dc_wp (mm_path M p1 p2) (fun _ => True) := by
  delta mm_path dc_let
  dsimp only
  rw [pl_ux h]
  exact ⟨_, rfl, trivial⟩
theorem th_in {τ : Type} {cc : Bool} {A : Option ((hg_S × τ) ⊕ hg_X)} {B : Option (md_S × τ)} {r : md_S × τ} (hKs : ∀ M e, Ks M → Ks (md_i M 0 e)) (h : wJ Ks G sz k S M) (hr : B = some r) (h1 : r.1 = md_i M 0 0) (h2 : dc_wp A (fun z => z = .inl (S, r.2))) : thO cc A B (wJ Ks G sz (k + 1)) := by
  have hk : Ks M := by
    obtain ⟨t, N, g, nn, f, st, en, rn, ex, la, pg, rc, hd, sh, ta, tn, oA, oN, cap, bA, bN, hk, -⟩ := h
    exact hk
  refine ⟨r, hr, wq_w h2 (fun z hz => Or.inl ⟨S, hz, by rw [h1]; rfl, ?_⟩)⟩
  rw [h1]
  exact wJ_l (fun e => hKs M e hk) h 0
theorem th_ex {τ : Type} {cc : Bool} {A : Option ((hg_S × τ) ⊕ hg_X)} {B : Option (md_S × τ)} {r : md_S × τ} {b : Bool} (hcc : b = true → cc = true) (hKs : ∀ M e, Ks M → Ks (md_i M 0 e)) (h : wJ Ks G sz k S M) (hk5 : k ≤ 512) (hr : B = some r) (h1 : r.1 = md_i M 0 (if b = true then 2 else 1)) (h2 : dc_wp A (fun z => z = .inr ((S.1, S.2.1 + 1, S.2.2.1 - 1, S.2.2.2 - 6), S.2.1, b))) : thO cc A B (wJ Ks G sz (k + 1)) := by
  have hk : Ks M := by
    obtain ⟨t, N, g, nn, f, st, en, rn, ex, la, pg, rc, hd, sh, ta, tn, oA, oN, cap, bA, bN, hk, -⟩ := h
    exact hk
  have rm := wJ_r h hk5
  refine ⟨r, hr, wq_w h2 (fun z hz => Or.inr ⟨_, _, b, hcc, hz, by rw [h1]; rfl, ?_⟩)⟩
  rw [h1]
  exact wJ_x (fun e => hKs M e hk) h (by omega) (by omega) _
theorem th_next (hKs : ∀ M e, Ks M → Ks (md_i M 0 e)) (h : wJ Ks G sz k S M) (hk5 : k ≤ 512) (hs : dc_wp (mm_next M p1 p2) (fun _ => True)) : thO false (hm_SE_next G S sz p1 p2) (mm_next M p1 p2) (wJ Ks G sz (k + 1)) := by
  obtain ⟨r, hr, -⟩ := hs
  have rm := wJ_r h hk5
  refine wJ_d h (fun _ _ _ _ _ _ _ _ _ _ _ _ _ he h85 => ?_) (fun _ _ _ _ _ _ _ _ _ _ _ _ _ _ _ _ _ _ he hX h0 h85 => ?_)
  · obtain ⟨e, w⟩ := ux_next he h85 ⟨by omega, by omega⟩ hr
    exact th_ex (b := false) (fun z => by cases z) hKs h hk5 hr (by rw [e]; rfl) w
  · obtain ⟨e, w⟩ := xd_next he hX h0 h85 hr
    exact th_in hKs h hr e w
theorem th_shows (hKs : ∀ M e, Ks M → Ks (md_i M 0 e)) (h : wJ Ks G sz k S M) (hk5 : k ≤ 512) (hs : dc_wp (mm_shows M p1 p2) (fun _ => True)) : thO false (hm_SE_shows G S sz p1 p2) (mm_shows M p1 p2) (wJ Ks G sz (k + 1)) := by
  obtain ⟨r, hr, -⟩ := hs
  have rm := wJ_r h hk5
  refine wJ_d h (fun _ _ _ _ _ _ _ _ _ _ _ _ _ he h85 => ?_) (fun _ _ _ _ _ _ _ _ _ _ _ _ _ _ _ _ _ _ he hX h0 h85 => ?_)
  · obtain ⟨e, w⟩ := ux_shows he h85 ⟨by omega, by omega⟩ hr
    exact th_ex (b := false) (fun z => by cases z) hKs h hk5 hr (by rw [e]; rfl) w
  · obtain ⟨e, w⟩ := xd_shows he hX h0 h85 hr
    exact th_in hKs h hr e w
theorem th_classes (hKs : ∀ M e, Ks M → Ks (md_i M 0 e)) (h : wJ Ks G sz k S M) (hk5 : k ≤ 512) (hs : dc_wp (mm_classes M) (fun _ => True)) : thO false (hm_SE_classes G S sz) (mm_classes M) (wJ Ks G sz (k + 1)) := by
  obtain ⟨r, hr, -⟩ := hs
  have rm := wJ_r h hk5
  refine wJ_d h (fun _ _ _ _ _ _ _ _ _ _ _ _ _ he h85 => ?_) (fun _ _ _ _ _ _ _ _ _ _ _ _ _ _ _ _ _ _ he hX h0 h85 => ?_)
  · obtain ⟨e, w⟩ := ux_classes he h85 ⟨by omega, by omega⟩ hr
    exact th_ex (b := false) (fun z => by cases z) hKs h hk5 hr (by rw [e]; rfl) w
  · obtain ⟨e, w⟩ := xd_classes he hX h85 hr
    exact th_in hKs h hr e w
theorem th_pass (hKs : ∀ M e, Ks M → Ks (md_i M 0 e)) (h : wJ Ks G sz k S M) (hk5 : k ≤ 512) (hs : dc_wp (mm_pass M p1) (fun _ => True)) : thO true (hm_SE_pass G S sz p1) (mm_pass M p1) (wJ Ks G sz (k + 1)) := by
  obtain ⟨r, hr, -⟩ := hs
  have rm := wJ_r h hk5
  have hk : Ks M := by
    obtain ⟨t, N, g, nn, f, st, en, rn, ex, la, pg, rc, hd, sh, ta, tn, oA, oN, cap, bA, bN, hk, -⟩ := h
    exact hk
  refine wJ_n h (fun _ _ _ _ _ _ _ _ _ _ _ _ _ he h86 => ?_) (fun _ _ _ _ _ _ _ _ _ _ _ _ _ _ _ _ _ _ _ _ _ _ _ he _ hN hL hT h86 _ _ _ => ?_)
  · obtain ⟨e, w⟩ := ul_pass he h86 ⟨by omega, by omega⟩ hr
    exact th_ex (b := false) (fun z => by cases z) hKs h hk5 hr (by rw [e]; rfl) w
  · refine ⟨r, hr, wq_w (xl_pass he hN hL hT h86 ⟨by omega, by omega⟩ hr) (fun z hz => ?_)⟩
    rcases hz with ⟨z1, z2⟩ | ⟨z1, z2⟩
    · exact Or.inl ⟨S, z1, by rw [z2]; rfl, by rw [z2]; exact wJ_l (fun e => hKs M e hk) h 0⟩
    · exact Or.inr ⟨_, _, true, fun _ => rfl, z1, by rw [z2]; rfl, by rw [z2]; exact wJ_x (fun e => hKs M e hk) h (by omega) (by omega) 2⟩
end THS
