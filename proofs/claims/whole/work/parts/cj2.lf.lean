/-! the reference's run at a leaf -/
section STT
variable (M : md_S) (kk ff xx : Nat → Int32) (m : Nat)
/-- all that is known of a tree at its row -/
def sfT (T : tT) (V : Int32 → Prop) (k : Nat) (up : Int32) (w : Int) (t : Int32) (a c : Int) (E : List (Int32 × Int32)) : Prop :=
  okT (pOk kk ff xx 0 (m : Int)) V T ∧ LPr True False kk ff xx M.2.1 T k up w t a c ∧ CPr M.2.1 T k (E.map Prod.snd) ∧ wfT T E ∧ (k + tsz T ≤ 1200 ∧ 0 ≤ c ∧ c + tsm xx T ≤ 1000 ∧ 1 ≤ w ∧ w + (twd T : Int) ≤ 1000 ∧ 0 ≤ a ∧ a + pas T ≤ 200) ∧ (M.2.1 62 (k + tsz T)).toInt = a + pas T ∧ E.length + tdp T ≤ 26 ∧ (∀ j, k ≤ j → j < k + tsz T → M.2.1 51 j = 10 → M.2.1 61 j = Int32.ofNat (lis (M.2.1 51) (M.2.1 57) j) ∧ lis (M.2.1 51) (M.2.1 57) j + wtQ M.2.1 j < 1662) ∧ (lcT T).Nodup ∧ (∀ y, y ∈ lcT T → 0 ≤ y.toInt ∧ y.toInt < 400) ∧ (∀ y, V y → (0 ≤ y.toInt ∧ y.toInt < 400) ∧ ¬ y ∈ lcT T)
end STT
section ST1
variable {M : md_S} {kk ff xx : Nat → Int32} {m : Nat} {V : Int32 → Prop} {k : Nat} {up : Int32} {w : Int} {t : Int32} {a c : Int} {E : List (Int32 × Int32)}
theorem pO_b {V : Int32 → Prop} {e : Int32} (hm : m ≤ 1000) (h : pOk kk ff xx 0 (m : Int) V e) : 0 ≤ e.toInt ∧ e.toInt < (m : Int) ∧ 1 ≤ (xx e.toInt.toNat).toInt ∧ (xx e.toInt.toNat).toInt ≤ 2000 := by
  obtain ⟨⟨e1, e2, e3, e4⟩, -⟩ := h
  exact ⟨e1, e2, e3, by omega⟩
/-- within a row of one -/
theorem sfT_un (hm : m ≤ 1000) {x : Lean.Name} {A : tT} (h : sfT M kk ff xx m (.unary x A) V k up w t a c E) : sfT M kk ff xx m A (vL V (lT x)) (k + 1) (Int32.ofNat k) (w + if (lT x).1 = 6 then 1 else 0) (if (lT x).1 = 8 then Int32.ofNat k else t) a (c + txx xx (lT x).2.2.2.2.2) (if (lT x).1 = 8 then ((lT x).2.2.2.1, (lT x).2.2.2.2.1) :: E else E) := by
  obtain ⟨hO, hL, hC, hw, ⟨b1, b2, b3, b4, b5, b6, b7⟩, h62, hE, hB, hn, hl, hV⟩ := h
  have b1 : k + (1 + tsz A) ≤ 1200 := b1
  have b3 : c + (txx xx (lT x).2.2.2.2.2 + tsm xx A) ≤ 1000 := b3
  have t0 := txx_0 (ok_t (fun V e h => pO_b hm h) (Or.inr (Or.inl hO.1)))
  have a0 := tsm_0 (fun V e h => pO_b hm h) A _ hO.2
  have ht : (twd (.unary x A) : Int) = (if (lT x).1 = 6 then 1 else 0) + (twd A : Int) := by
    show (((if (lT x).1 = 6 then 1 else 0) + twd A : Nat) : Int) = _
    by_cases z : (lT x).1 = 6
    · rw [if_pos z, if_pos z]; omega
    · rw [if_neg z, if_neg z]; omega
  have b6' := bw6 (c := (lT x).1 = 6)
  have n1 : ¬ (lT x).1 = 1 := by rcases hO.1.1 with ⟨z, -⟩ | ⟨z | z | z, -⟩ <;> (rw [z]; decide)
  have hp : pas (.unary x A) = pas A := by
    show (if (lT x).1 = 1 then (1 : Int) else 0) + pas A = _
    rw [if_neg n1]; omega
  rw [hp] at b7 h62
  have hA := hL.2
  rw [if_neg n1, Int.add_zero] at hA
  have hts : k + tsz (.unary x A) = k + 1 + tsz A := by show k + (1 + tsz A) = _; omega
  rw [hts] at h62
  have hlc : lcT (.unary x A) = if (lT x).1 = 10 then (lT x).2.2.1 :: lcT A else lcT A := rfl
  refine ⟨hO.2, hA, ?_, ?_, ⟨by omega, by omega, by omega, by omega, by omega, b6, b7⟩, h62, ?_, fun j j1 j2 => hB j (by omega) (by omega), ?_, fun y hy => hl y ?_, fun y hy => ?_⟩
  · have := hC.2
    by_cases c8 : (lT x).1 = 8
    · rw [if_pos c8] at this ⊢; exact this
    · rw [if_neg c8] at this ⊢; exact this
  · have hw : (if (lT x).1 = 8 then wfT A (((lT x).2.2.2.1, (lT x).2.2.2.2.1) :: E) else wfT A E) := hw
    by_cases c8 : (lT x).1 = 8
    · rw [if_pos c8] at hw ⊢; exact hw
    · rw [if_neg c8] at hw ⊢; exact hw
  · have hE : E.length + ((if (lT x).1 = 8 then 1 else 0) + tdp A) ≤ 26 := hE
    by_cases c8 : (lT x).1 = 8
    · rw [if_pos c8] at hE ⊢
      rw [List.length_cons]; omega
    · rw [if_neg c8] at hE ⊢
      omega
  · rw [hlc] at hn
    by_cases c10 : (lT x).1 = 10
    · rw [if_pos c10] at hn; exact (List.nodup_cons.mp hn).2
    · rw [if_neg c10] at hn; exact hn
  · rw [hlc]
    by_cases c10 : (lT x).1 = 10
    · rw [if_pos c10]; exact List.mem_cons_of_mem _ hy
    · rw [if_neg c10]; exact hy
  · unfold vL at hy
    by_cases c10 : (lT x).1 = 10
    · rw [if_pos c10] at hy
      rw [hlc, if_pos c10] at hn hl hV
      rcases hy with hy | hy
      · exact ⟨(hV y hy).1, fun z => (hV y hy).2 (List.mem_cons_of_mem _ z)⟩
      · rw [hy]
        exact ⟨hl _ List.mem_cons_self, (List.nodup_cons.mp hn).1⟩
    · rw [if_neg c10] at hy
      rw [hlc, if_neg c10] at hV
      exact hV y hy
/-- within a row of two -/
theorem sfT_bi (hm : m ≤ 1000) {x : Lean.Name} {A B : tT} (h : sfT M kk ff xx m (.binary x A B) V k up w t a c E) : sfT M kk ff xx m A V (k + 1) (Int32.ofNat k) w (if (lT x).1 = 8 then Int32.ofNat k else t) a (c + txx xx (lT x).2.2.2.2.2) E ∧ sfT M kk ff xx m B V (k + 1 + tsz A) (Int32.ofNat k) (w + if (lT x).1 = 5 then 1 else 0) (if (lT x).1 = 8 then Int32.ofNat k else t) (a + pas A) (c + txx xx (lT x).2.2.2.2.2 + tsm xx A) E := by
  obtain ⟨hO, hL, hC, hw, ⟨b1, b2, b3, b4, b5, b6, b7⟩, h62, hE, hB, hn, hl, hV⟩ := h
  have b1 : k + (1 + tsz A + tsz B) ≤ 1200 := b1
  have b3 : c + (txx xx (lT x).2.2.2.2.2 + (tsm xx A + tsm xx B)) ≤ 1000 := b3
  have t0 := txx_0 (ok_t (fun V e h => pO_b hm h) (Or.inr (Or.inr hO.1)))
  have a0 := tsm_0 (fun V e h => pO_b hm h) A _ hO.2.1
  have a1 := tsm_0 (fun V e h => pO_b hm h) B _ hO.2.2
  have ht : (twd (.binary x A B) : Int) = max (twd A : Int) ((if (lT x).1 = 5 then 1 else 0) + (twd B : Int)) := by
    show ((max (twd A) ((if (lT x).1 = 5 then 1 else 0) + twd B) : Nat) : Int) = _
    by_cases z : (lT x).1 = 5
    · rw [if_pos z, if_pos z]; omega
    · rw [if_neg z, if_neg z]; omega
  have b5' := bw6 (c := (lT x).1 = 5)
  have n1 : ¬ (lT x).1 = 1 := by rcases hO.1.1 with ⟨z, -⟩ | ⟨z | z, -⟩ <;> (rw [z]; decide)
  have n6 : ¬ (lT x).1 = 6 := by rcases hO.1.1 with ⟨z, -⟩ | ⟨z | z, -⟩ <;> (rw [z]; decide)
  have hp : pas (.binary x A B) = pas A + pas B := by
    show (if (lT x).1 = 1 then (1 : Int) else 0) + (pas A + pas B) = _
    rw [if_neg n1]; omega
  rw [hp] at b7 h62
  obtain ⟨hL0, hA, hB'⟩ := hL
  rw [if_neg n1, Int.add_zero] at hA hB'
  rw [if_neg n6, Int.add_zero] at hA
  have hts : k + tsz (.binary x A B) = k + 1 + tsz A + tsz B := by show k + (1 + tsz A + tsz B) = _; omega
  rw [hts] at h62
  have hE : E.length + max (tdp A) (tdp B) ≤ 26 := hE
  have hn : (lcT A ++ lcT B).Nodup := hn
  obtain ⟨nA, nB, nAB⟩ := List.nodup_append.mp hn
  have lA : ∀ y, y ∈ lcT A → y ∈ lcT (.binary x A B) := fun y hy => List.mem_append_left _ hy
  have lB : ∀ y, y ∈ lcT B → y ∈ lcT (.binary x A B) := fun y hy => List.mem_append_right _ hy
  have e62 : (M.2.1 62 (k + 1 + tsz A)).toInt = a + pas A := by
    have hr : ∀ (T : tT) (k : Nat) (up : Int32) (w : Int) (t : Int32) (a c : Int), LPr True False kk ff xx M.2.1 T k up w t a c → (M.2.1 62 k).toInt = a := by
      intro T k up w t a c h
      cases T with
      | const x => exact h.1.2.2.2.2.2.2
      | unary x A => exact h.1.1.2.2.2.2.2.2
      | binary x A B => exact h.1.1.2.2.2.2.2.2
      | _ => exact h.elim
    exact hr _ _ _ _ _ _ _ hB'
  exact ⟨⟨hO.2.1, hA, hC.2.1, hw.1, ⟨by omega, by omega, by omega, b4, by omega, b6, by omega⟩, e62, by omega, fun j j1 j2 => hB j (by omega) (by omega), nA, fun y hy => hl y (lA y hy), fun y hy => ⟨(hV y hy).1, fun z => (hV y hy).2 (lA y z)⟩⟩, ⟨hO.2.2, hB', hC.2.2, hw.2, ⟨by omega, by omega, by omega, by omega, by omega, by omega, by omega⟩, by rw [h62]; omega, by omega, fun j j1 j2 => hB j (by omega) (by omega), nB, fun y hy => hl y (lB y hy), fun y hy => ⟨(hV y hy).1, fun z => (hV y hy).2 (lB y z)⟩⟩⟩
/-- the range of a tree's pauses -/
theorem sfT_p {T : tT} (h : sfT M kk ff xx m T V k up w t a c E) : pfQ M.2.1 k = a.toNat ∧ ptQ M.2.1 k = (a + pas T).toNat := by
  obtain ⟨hO, hL, hC, hw, ⟨b1, b2, b3, b4, b5, b6, b7⟩, h62, hE, hB, hn, hl, hV⟩ := h
  have hr : (M.2.1 62 k).toInt = a := by
    cases T with
    | const x => exact hL.1.2.2.2.2.2.2
    | unary x A => exact hL.1.1.2.2.2.2.2.2
    | binary x A B => exact hL.1.1.2.2.2.2.2.2
    | _ => exact hL.elim
  have h59 := (CPr_r T k _ hC).2
  unfold pfQ ptQ
  rw [h59, Int32.toInt_ofNat_of_lt (by omega), hr]
  exact ⟨rfl, by rw [show ((k + tsz T : Nat) : Int).toNat = k + tsz T by omega, h62]⟩
end ST1
section LF
variable {M : md_S}
/-- no local signal: what stands there -/
theorem rn_108 {d : Nat} {S q : md_S} {k : Nat} {p2 p3 : Int32} (hk : k < 1200) (h10 : ¬ S.2.1 51 k = 10) (hq : (mm_P3 (d + 1)).1 S (Int32.ofNat k) p2 p3 = some q) : mm_run_L108 (mm_P3 d) S p2 p3 (Int32.ofNat k) = some q := by
  have tk : (Int32.ofNat k).toInt.toNat = k := by rw [Int32.toInt_ofNat_of_lt (by omega)]; omega
  have hq : (dc_it (mm_run_s3 (mm_P3 d) p2 p3) (S, Int32.ofNat k)).bind (fun (z : md_S × Int32) => mm_run_L108 (mm_P3 d) z.1 p2 p3 z.2) = some q := hq
  obtain ⟨z, ez, hq⟩ := iv_bind hq
  rw [dc_it_eq] at ez
  obtain ⟨y, ey, ez⟩ := iv_bind ez
  have ey : mm_run_b3 (mm_P3 d) S p2 p3 (Int32.ofNat k) = some y := ey
  delta mm_run_b3 at ey
  obtain ⟨-, -, ey⟩ := iv_ix ey
  rw [tk, if_neg h10] at ey
  have ey := Option.some.inj ey
  subst ey
  have ez : some (S, Int32.ofNat k) = some z := ez
  have ez := Option.some.inj ez
  subst ez
  exact hq
theorem rn_z {S q : md_S} {p2 p3 : Int32} {k : Int32} (hq : (mm_P3 0).1 S k p2 p3 = some q) : False := by
  have hq : none = some q := hq
  cases hq
/-- an outcome alone -/
theorem out_O {S : md_S} {T : tT} {k : Nat} {s : Prop} {cd : Nat} {x y : Int32} (hc : cd < 28) (hy : cB y (fun d => d = cd)) (hx : (s ∧ x = Int32.ofNat cd) ∨ (¬ s ∧ x = -1)) : rnO M S (md_i (md_i S 81 y) 80 x) T k (zK cd s) := by
  obtain ⟨f1, f2, f3, f4, f5, f6⟩ := out_f (S := S) (a := y) (b := x)
  refine ⟨⟨f1, f4⟩, ⟨by rw [f2]; exact hy, by rw [f3]; exact mB_s hc hx⟩, fun i => ⟨fun z => z.elim, fun _ => by rw [f6]⟩, fun i => ⟨fun z => z.elim, fun _ => by rw [f6]⟩, fun j _ => by rw [f6], ⟨fun z => z.elim, fun _ => f5⟩, fun p _ => by rw [f6], fun _ h p p1 p2 => ⟨fun z => z.elim, fun _ => by rw [f6]; exact h p p1 p2⟩⟩
end LF
