/-! traps, exits, waiting -/
section ALT
variable {E : List (Int32 × Int32)} {s tm a l c s1 tm1 a1 l1 c1 s2 tm2 a2 l2 c2 : Int32} {p p0 p1 p2 : Int} {T T1 T2 : tT} {x : lbT} {S : List Int32} {k : Nat} {o : Option Int32}
theorem BU_tr (h8 : x.1 = 8) (hc : cB c1 (cod T (x.2.2.2.2.1 :: E.map Prod.snd))) (ec : mm_caught c1 = some c) (h2 : s.toInt ≤ s1.toInt ∧ tm.toInt ≤ tm1.toInt ∧ p ≤ p1) (h3 : (a.toInt < p → a1 = a ∧ l1 = l) ∧ (a = 32768 → (feP T (x.2.2.2.2.1 :: E.map Prod.snd) none ∧ a1 = 32768) ∨ (∃ y, feP T (x.2.2.2.2.1 :: E.map Prod.snd) (some y) ∧ l1 = y ∧ p ≤ a1.toInt ∧ a1.toInt < p1))) (h4 : ∀ y, y ∈ tpT T → ((s.toInt < y.2.toInt ∧ y.2.toInt ≤ s1.toInt) ∧ ¬ y.2 = x.2.2.2.2.1) ∧ (y.1 = -1 ∨ ((tm.toInt ≤ y.1.toInt ∧ y.1.toInt < tm1.toInt) ∧ ¬ y.1 = x.2.2.2.1))) (hs : s.toInt < x.2.2.2.2.1.toInt ∧ x.2.2.2.2.1.toInt ≤ s1.toInt) (hm : x.2.2.2.1 = -1 ∨ (tm.toInt ≤ x.2.2.2.1.toInt ∧ x.2.2.2.1.toInt < tm1.toInt)) (g8 : ((tpT T).map Prod.snd).Nodup) (g9 : ((tpT T).map Prod.fst).Pairwise (fun x y => x = y → x = -1)) (g10 : wfT T ((x.2.2.2.1, x.2.2.2.2.1) :: E)) : BU E s tm a l p (t1 x T) c s1 tm1 a1 l1 p1 := by
  have et : tpT (t1 x T) = (x.2.2.2.1, x.2.2.2.2.1) :: tpT T := by rw [tpT_t1, if_pos h8]
  have ef : ∀ o, feP T (x.2.2.2.2.1 :: E.map Prod.snd) o → feP (t1 x T) (E.map Prod.snd) o := fun o z => feP_t1.mpr (Or.inl ⟨h8, z⟩)
  refine ⟨cB_congr (caught_b hc ec) (fun k => ?_), h2, ⟨h3.1, fun z => ?_⟩, fun y hy => ?_, ?_, ?_, wfT_t1.mpr (by rw [if_pos h8]; exact g10)⟩
  · rw [cod_t1]
    exact ⟨fun z => Or.inl ⟨h8, z⟩, fun z => z.elim (fun y => y.2) (fun y => absurd h8 y.1)⟩
  · rcases h3.2 z with ⟨y1, y2⟩ | ⟨y, y1, y2⟩
    · exact Or.inl ⟨ef _ y1, y2⟩
    · exact Or.inr ⟨y, ef _ y1, y2⟩
  · rw [et] at hy
    rcases List.mem_cons.mp hy with rfl | hy
    · exact ⟨hs, hm⟩
    · exact ⟨(h4 y hy).1.1, (h4 y hy).2.imp id (fun z => z.1)⟩
  · rw [et, List.map_cons]
    refine List.nodup_cons.mpr ⟨fun z => ?_, g8⟩
    obtain ⟨y, hy, e⟩ := List.mem_map.mp z
    exact (h4 y hy).1.2 e
  · rw [et, List.map_cons]
    refine List.pairwise_cons.mpr ⟨fun v hv e => ?_, g9⟩
    obtain ⟨y, hy, rfl⟩ := List.mem_map.mp hv
    rcases (h4 y hy).2 with z | z
    · exact e.trans z
    · exact absurd e.symm z.2
theorem BU_trap {ln : Int32} (hk : EOK E s tm) (hs : s.toInt ≤ 99000) (ht : tm.toInt ≤ 99000) (h : BU ((tm, s + 1) :: E) (s + 1) (tm + 1) a l p T c1 s1 tm1 a1 l1 p1) (ec : mm_caught c1 = some c) : BU E s tm a l p (Ttrp ln tm (s + 1) T) c s1 tm1 a1 l1 p1 := by
  have k0 := hk.1
  have es : (s + 1).toInt = s.toInt + 1 := by rw [i_addS (by rw [il_1]; omega), il_1]
  have et : (tm + 1).toInt = tm.toInt + 1 := by rw [i_addS (by rw [il_1]; omega), il_1]
  obtain ⟨g1, ⟨g2, g3, g4⟩, g5, g7, g8, g9, g10⟩ := h
  refine BU_tr (x := (8, ln, -1, tm, s + 1, -1)) rfl g1 ec ⟨by omega, by omega, g4⟩ g5 (fun y hy => ?_) ⟨by show s.toInt < (s + 1).toInt; omega, g2⟩ (Or.inr ⟨Int.le_refl _, by show tm.toInt < _; omega⟩) g8 g9 g10
  obtain ⟨⟨z1, z2⟩, z3⟩ := g7 y hy
  refine ⟨⟨⟨by omega, z2⟩, fun e => ?_⟩, z3.imp id (fun z => ⟨⟨by omega, z.2⟩, fun e => ?_⟩)⟩
  · rw [e] at z1
    have z1 : (s + 1).toInt < (s + 1).toInt := z1
    omega
  · rw [e] at z
    have z : (tm + 1).toInt ≤ tm.toInt ∧ _ := z
    omega
theorem ixE_get {m sv : Int32} : ∀ (E : List (Int32 × Int32)) (i : Nat), (E.map Prod.snd).Nodup → E[i]? = some (m, sv) → i < E.length ∧ ixE sv (E.map Prod.snd) = i ∧ (m, sv) ∈ E
  | [], i, _, h => by cases h
  | q :: r, 0, _, h => by
    have e : q = (m, sv) := Option.some.inj h
    subst e
    refine ⟨by rw [List.length_cons]; omega, ?_, List.mem_cons.mpr (Or.inl rfl)⟩
    show (if sv = sv then 0 else _) = 0
    rw [if_pos rfl]
  | q :: r, i + 1, hn, h => by
    have hn : (q.2 :: r.map Prod.snd).Nodup := hn
    obtain ⟨n1, n2⟩ := List.nodup_cons.mp hn
    have h : r[i]? = some (m, sv) := h
    obtain ⟨e1, e2, e3⟩ := ixE_get r i n2 h
    refine ⟨by rw [List.length_cons]; omega, ?_, List.mem_cons.mpr (Or.inr e3)⟩
    show (if sv = q.2 then 0 else ixE sv (r.map Prod.snd) + 1) = i + 1
    rw [if_neg (fun z => n1 (by rw [← z]; exact List.mem_map.mpr ⟨_, e3, rfl⟩)), e2]
theorem ex_e : ∀ i, i < 24 → ∀ k, k < 32 → gb ((4 : Int32) <<< (Int32.ofNat i &&& 31)) k = decide (k = 2 + i) := by decide +kernel
theorem BU_exit {ln m sv : Int32} {i : Nat} (hk : EOK E s tm) (hp : p ≤ p1) (he : E[i]? = some (m, sv)) : BU E s tm a l p (t0 (9, ln, -1, m, sv, -1)) ((4 : Int32) <<< (Int32.ofNat i &&& 31)) s tm a l p1 := by
  obtain ⟨-, k2, k3, -, k5⟩ := hk
  obtain ⟨e1, e2, e3⟩ := ixE_get E i k5 he
  have m0 := (k3 _ e3).1.1
  refine ⟨⟨fun k => ?_, fun k z => ?_⟩, ⟨Int.le_refl _, Int.le_refl _, hp⟩, ⟨fun _ => ⟨rfl, rfl⟩, fun z => Or.inl ⟨rfl, z⟩⟩, (fun y hy => by cases hy), List.nodup_nil, List.Pairwise.nil, wfT_t0.mpr (fun _ => Or.inr ⟨fun z => ?_, e3⟩)⟩
  · rw [cod_t0]
    show gb ((4 : Int32) <<< (Int32.ofNat i &&& 31)) k = true ↔ ((9 : Int32) = 9 ∧ k = 2 + ixE sv (E.map Prod.snd)) ∨ ((9 : Int32) = 1 ∧ k = 1) ∨ (¬ (9 : Int32) = 9 ∧ ¬ (9 : Int32) = 1 ∧ k = 0)
    rw [e2]
    by_cases c : k < 32
    · rw [ex_e i (by omega) k c, decide_eq_true_iff]
      exact ⟨fun z => Or.inl ⟨rfl, z⟩, fun z => z.elim (fun y => y.2) (fun z => z.elim (fun y => absurd y.1 (by decide)) (fun y => absurd rfl y.1))⟩
    · rw [gb_ge (by omega)]
      refine ⟨fun z => Bool.noConfusion z, fun z => ?_⟩
      rcases z with ⟨-, z⟩ | ⟨z, -⟩ | ⟨z, -⟩
      · omega
      · exact absurd z (by decide)
      · exact absurd rfl z
  · rw [cod_t0] at z
    rcases z with ⟨-, z⟩ | ⟨z, -⟩ | ⟨z, -⟩
    · have z : k = 2 + ixE sv (E.map Prod.snd) := z
      rw [e2] at z
      omega
    · exact absurd z (by show ¬ (9 : Int32) = 1; decide)
    · exact absurd rfl z
  · have z : m = -1 := z
    rw [z] at m0
    exact absurd m0 (show ¬ 0 ≤ (-1 : Int32).toInt by decide)
theorem cod_pau {ln : Int32} : cod (Tpau ln) S k ↔ k = 1 := by
  rw [cod_t0]
  show ((1 : Int32) = 9 ∧ _) ∨ ((1 : Int32) = 1 ∧ k = 1) ∨ (¬ (1 : Int32) = 9 ∧ ¬ (1 : Int32) = 1 ∧ k = 0) ↔ _
  exact ⟨fun z => z.elim (fun y => absurd y.1 (by decide)) (fun z => z.elim (fun y => y.2) (fun y => absurd rfl y.2.1)), fun z => Or.inr (Or.inl ⟨rfl, z⟩)⟩
theorem cod_seq {ln : Int32} : cod (Tseq ln T1 T2) S k ↔ xTh (cod T1 S) (cod T2 S) k := by
  rw [cod_t2]
  exact ⟨fun z => z.elim (fun y => y.2) (fun z => z.elim (fun y => absurd y.1 (by show ¬ (5 : Int32) = 7; decide)) (fun y => absurd rfl y.1)), fun z => Or.inl ⟨rfl, z⟩⟩
theorem cod_both {ln : Int32} : cod (Tboth ln T1 T2) S k ↔ xPa (cod T1 S) (cod T2 S) k := by
  rw [cod_t2]
  exact ⟨fun z => z.elim (fun y => absurd y.1 (by show ¬ (7 : Int32) = 5; decide)) (fun z => z.elim (fun y => y.2) (fun y => absurd rfl y.2.1)), fun z => Or.inr (Or.inl ⟨rfl, z⟩)⟩
theorem cod_pre {ln e : Int32} : cod (Tpre ln e T1 T2) S k ↔ cod T1 S k ∨ cod T2 S k := by
  rw [cod_t2]
  exact ⟨fun z => z.elim (fun y => absurd y.1 (by show ¬ (3 : Int32) = 5; decide)) (fun z => z.elim (fun y => absurd y.1 (by show ¬ (3 : Int32) = 7; decide)) (fun y => y.2.2)), fun z => Or.inr (Or.inr ⟨by show ¬ (3 : Int32) = 5; decide, by show ¬ (3 : Int32) = 7; decide, z⟩)⟩
theorem cod_loop {ln : Int32} : cod (Tloop ln T) S k ↔ cod T S k := by
  rw [cod_t1]
  exact ⟨fun z => z.elim (fun y => absurd y.1 (by show ¬ (6 : Int32) = 8; decide)) (fun y => y.2), fun z => Or.inr ⟨by show ¬ (6 : Int32) = 8; decide, z⟩⟩
theorem cod_wat {ln e sv : Int32} : cod (Twat ln e sv) S k ↔ k = 1 := by
  show cod (Tloop ln (Tseq ln (Tpau ln) (Tpre ln e (Tex ln sv) (Tnot ln)))) S k ↔ _
  rw [cod_loop, cod_seq]
  constructor
  · rintro (⟨z, -⟩ | ⟨-, z⟩)
    · exact absurd (cod_pau.mp z) (by decide)
    · exact cod_pau.mp z
  · intro z
    exact Or.inr ⟨fun y => absurd (cod_pau.mp y) (by decide), cod_pau.mpr z⟩
end ALT
