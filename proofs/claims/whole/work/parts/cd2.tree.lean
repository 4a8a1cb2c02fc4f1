/-! the nodes of a tree: parents, names, tests, sums -/
section UPT
variable {ND : Nat → ndT}
/-- c is below j -/
abbrev isC (ND : Nat → ndT) (j c : Nat) : Prop := (ND j).2.2.1 = some c ∨ (ND j).2.2.2.1 = some c
theorem up_T : ∀ (T : tT) (i : Nat) (I : List Nat), repC ND T i I → I.Nodup → (∀ j c, j ∈ I → isC ND j c → c ∈ I ∧ ¬ c = i) ∧ (∀ j j' c, j ∈ I → j' ∈ I → isC ND j c → isC ND j' c → j = j') ∧ ∀ j c, j ∈ I → (ND j).2.2.1 = some c → ¬ (ND j).2.2.2.1 = some c
  | .const x, i, I, ⟨h1, h2⟩, hn => by
    subst h1
    have no : ∀ j c, j ∈ [i] → ¬ isC ND j c := by
      intro j c hj
      rw [List.mem_singleton.mp hj]
      rintro (z | z) <;> (rw [h2] at z; cases z)
    exact ⟨fun j c hj z => absurd z (no j c hj), fun j j' c hj _ z _ => absurd z (no j c hj), fun j c hj z => absurd (Or.inl z) (no j c hj)⟩
  | .unary x a, i, I, ⟨i1, I1, h1, h2, h3⟩, hn => by
    subst h1
    obtain ⟨n1, n2⟩ := List.nodup_cons.mp hn
    obtain ⟨u1, u2, u3⟩ := up_T a i1 I1 h3 n2
    have m1 := repC_mem a i1 I1 h3
    have ci : ∀ c, isC ND i c → c = i1 := by
      rintro c (z | z)
      · rw [h2] at z; exact (Option.some.inj z).symm
      · rw [h2] at z; cases z
    refine ⟨fun j c hj z => ?_, fun j j' c hj hj' z z' => ?_, fun j c hj z => ?_⟩
    · rcases List.mem_cons.mp hj with y | y
      · subst y
        rw [ci c z]
        exact ⟨List.mem_cons_of_mem _ m1, fun e => n1 (by rw [← e]; exact m1)⟩
      · obtain ⟨v1, v2⟩ := u1 j c y z
        exact ⟨List.mem_cons_of_mem _ v1, fun e => n1 (by rw [← e]; exact v1)⟩
    · rcases List.mem_cons.mp hj with y | y <;> rcases List.mem_cons.mp hj' with y' | y'
      · rw [y, y']
      · subst y
        exact absurd (ci c z) (u1 j' c y' z').2
      · subst y'
        exact absurd (ci c z') (u1 j c y z).2
      · exact u2 j j' c y y' z z'
    · rcases List.mem_cons.mp hj with y | y
      · subst y
        rw [h2]
        intro e
        cases e
      · exact u3 j c y z
  | .binary x a b, i, I, ⟨i1, I1, i2, I2, h1, h2, h3, h4⟩, hn => by
    subst h1
    obtain ⟨n1, n2⟩ := List.nodup_cons.mp hn
    obtain ⟨na, nb, nd⟩ := List.nodup_append.mp n2
    obtain ⟨u1, u2, u3⟩ := up_T a i1 I1 h3 na
    obtain ⟨v1, v2, v3⟩ := up_T b i2 I2 h4 nb
    have m1 := repC_mem a i1 I1 h3
    have m2 := repC_mem b i2 I2 h4
    have dj : ∀ c, c ∈ I1 → c ∈ I2 → False := fun c a1 a2 => nd c a1 c a2 rfl
    have ci : ∀ c, isC ND i c → c = i1 ∨ c = i2 := by
      rintro c (z | z)
      · rw [h2] at z; exact Or.inl (Option.some.inj z).symm
      · rw [h2] at z; exact Or.inr (Option.some.inj z).symm
    have ni : ∀ c, c ∈ I1 ∨ c ∈ I2 → ¬ c = i := fun c hc e => n1 (by rw [← e]; exact List.mem_append.mpr hc)
    refine ⟨fun j c hj z => ?_, fun j j' c hj hj' z z' => ?_, fun j c hj z => ?_⟩
    · rcases List.mem_cons.mp hj with y | y
      · subst y
        rcases ci c z with e | e
        · rw [e]; exact ⟨List.mem_cons_of_mem _ (List.mem_append_left _ m1), ni _ (Or.inl m1)⟩
        · rw [e]; exact ⟨List.mem_cons_of_mem _ (List.mem_append_right _ m2), ni _ (Or.inr m2)⟩
      · rcases List.mem_append.mp y with y | y
        · have := (u1 j c y z).1
          exact ⟨List.mem_cons_of_mem _ (List.mem_append_left _ this), ni _ (Or.inl this)⟩
        · have := (v1 j c y z).1
          exact ⟨List.mem_cons_of_mem _ (List.mem_append_right _ this), ni _ (Or.inr this)⟩
    · have cas : ∀ j, j ∈ i :: (I1 ++ I2) → isC ND j c → (j = i ∧ (c = i1 ∨ c = i2)) ∨ (j ∈ I1 ∧ c ∈ I1 ∧ ¬ c = i1) ∨ (j ∈ I2 ∧ c ∈ I2 ∧ ¬ c = i2) := by
        intro j hj z
        rcases List.mem_cons.mp hj with y | y
        · subst y; exact Or.inl ⟨rfl, ci c z⟩
        · rcases List.mem_append.mp y with y | y
          · exact Or.inr (Or.inl ⟨y, u1 j c y z⟩)
          · exact Or.inr (Or.inr ⟨y, v1 j c y z⟩)
      rcases cas j hj z with ⟨e, s⟩ | ⟨e, s1, s2⟩ | ⟨e, s1, s2⟩ <;> rcases cas j' hj' z' with ⟨e', s'⟩ | ⟨e', s1', s2'⟩ | ⟨e', s1', s2'⟩
      · rw [e, e']
      · rcases s with s | s
        · exact absurd s s2'
        · rw [s] at s1'; exact (dj i2 s1' m2).elim
      · rcases s with s | s
        · rw [s] at s1'; exact (dj i1 m1 s1').elim
        · exact absurd s s2'
      · rcases s' with s' | s'
        · exact absurd s' s2
        · rw [s'] at s1; exact (dj i2 s1 m2).elim
      · exact u2 j j' c e e' z z'
      · exact (dj c s1 s1').elim
      · rcases s' with s' | s'
        · rw [s'] at s1; exact (dj i1 m1 s1).elim
        · exact absurd s' s2
      · exact (dj c s1' s1).elim
      · exact v2 j j' c e e' z z'
    · rcases List.mem_cons.mp hj with y | y
      · subst y
        rw [h2] at z ⊢
        intro e
        have a1 := Option.some.inj z
        have a2 := Option.some.inj e
        exact dj i1 m1 (by rw [a1, ← a2]; exact m2)
      · rcases List.mem_append.mp y with y | y
        · exact u3 j c y z
        · exact v3 j c y z
/-- names of traps -/
theorem tn_T {θ : (Int32 → Prop) → Int32 → Prop} : ∀ (T : tT) (V : Int32 → Prop) (i : Nat) (I : List Nat), okT θ V T → repC ND T i I → ((tpT T).map Prod.fst).Pairwise (fun x y => x = y → x = -1) → (∀ j, j ∈ I → (ND j).1 = 8 → (ND j).2.2.2.2.2.1 ∈ (tpT T).map Prod.fst) ∧ ∀ j j', j ∈ I → j' ∈ I → (ND j).1 = 8 → (ND j').1 = 8 → ¬ (ND j).2.2.2.2.2.1 = -1 → (ND j).2.2.2.2.2.1 = (ND j').2.2.2.2.2.1 → j = j'
  | .const x, V, i, I, hO, ⟨h1, h2⟩, hp => by
    subst h1
    have no : ∀ j, j ∈ [i] → ¬ (ND j).1 = 8 := by
      intro j hj
      rw [List.mem_singleton.mp hj, h2]
      intro z
      have z : (lT x).1 = 8 := z
      rcases hO.1 with (y | y | y) | ⟨y, -⟩ <;> (rw [y] at z; exact absurd z (by decide))
    exact ⟨fun j hj z => absurd z (no j hj), fun j j' hj _ z _ _ _ => absurd z (no j hj)⟩
  | .unary x a, V, i, I, hO, ⟨i1, I1, h1, h2, h3⟩, hp => by
    subst h1
    have ki : (ND i).1 = (lT x).1 ∧ (ND i).2.2.2.2.2.1 = (lT x).2.2.2.1 := by rw [h2]; exact ⟨rfl, rfl⟩
    by_cases k8 : (lT x).1 = 8
    · have et : tpT (.unary x a) = ((lT x).2.2.2.1, (lT x).2.2.2.2.1) :: tpT a := if_pos k8
      rw [et] at hp ⊢
      have hp : ((lT x).2.2.2.1 :: (tpT a).map Prod.fst).Pairwise (fun x y => x = y → x = -1) := hp
      obtain ⟨p1, p2⟩ := List.pairwise_cons.mp hp
      obtain ⟨u1, u2⟩ := tn_T a _ i1 I1 hO.2 h3 p2
      refine ⟨fun j hj z => ?_, fun j j' hj hj' z z' nm e => ?_⟩
      · show _ ∈ (lT x).2.2.2.1 :: (tpT a).map Prod.fst
        rcases List.mem_cons.mp hj with y | y
        · rw [y, ki.2]; exact List.mem_cons_self
        · exact List.mem_cons_of_mem _ (u1 j y z)
      · rcases List.mem_cons.mp hj with y | y <;> rcases List.mem_cons.mp hj' with y' | y'
        · rw [y, y']
        · subst y
          rw [ki.2] at e nm
          exact absurd (p1 _ (u1 j' y' z') e) nm
        · subst y'
          rw [ki.2] at e
          have := p1 _ (u1 j y z) e.symm
          rw [← e] at this
          exact absurd this nm
        · exact u2 j j' y y' z z' nm e
    · have et : tpT (.unary x a) = tpT a := if_neg k8
      rw [et] at hp ⊢
      obtain ⟨u1, u2⟩ := tn_T a _ i1 I1 hO.2 h3 hp
      have ni : ¬ (ND i).1 = 8 := by rw [ki.1]; exact k8
      refine ⟨fun j hj z => ?_, fun j j' hj hj' z z' nm e => ?_⟩
      · rcases List.mem_cons.mp hj with y | y
        · rw [y] at z; exact absurd z ni
        · exact u1 j y z
      · rcases List.mem_cons.mp hj with y | y
        · rw [y] at z; exact absurd z ni
        · rcases List.mem_cons.mp hj' with y' | y'
          · rw [y'] at z'; exact absurd z' ni
          · exact u2 j j' y y' z z' nm e
  | .binary x a b, V, i, I, hO, ⟨i1, I1, i2, I2, h1, h2, h3, h4⟩, hp => by
    subst h1
    have ki : (ND i).1 = (lT x).1 := by rw [h2]
    have ni : ¬ (ND i).1 = 8 := by
      rw [ki]
      rcases hO.1.1 with ⟨z, -⟩ | ⟨z | z, -⟩ <;> (rw [z]; decide)
    have et : tpT (.binary x a b) = tpT a ++ tpT b := rfl
    rw [et] at hp ⊢
    rw [List.map_append] at hp ⊢
    obtain ⟨p1, p2, p3⟩ := List.pairwise_append.mp hp
    obtain ⟨u1, u2⟩ := tn_T a _ i1 I1 hO.2.1 h3 p1
    obtain ⟨v1, v2⟩ := tn_T b _ i2 I2 hO.2.2 h4 p2
    refine ⟨fun j hj z => ?_, fun j j' hj hj' z z' nm e => ?_⟩
    · rcases List.mem_cons.mp hj with y | y
      · rw [y] at z; exact absurd z ni
      · rcases List.mem_append.mp y with y | y
        · exact List.mem_append_left _ (u1 j y z)
        · exact List.mem_append_right _ (v1 j y z)
    · rcases List.mem_cons.mp hj with y | y
      · rw [y] at z; exact absurd z ni
      · rcases List.mem_cons.mp hj' with y' | y'
        · rw [y'] at z'; exact absurd z' ni
        · rcases List.mem_append.mp y with y | y <;> rcases List.mem_append.mp y' with y' | y'
          · exact u2 j j' y y' z z' nm e
          · exact absurd (p3 _ (u1 j y z) _ (v1 j' y' z') e) nm
          · have := p3 _ (u1 j' y' z') _ (v1 j y z) e.symm
            rw [← e] at this
            exact absurd this nm
          · exact v2 j j' y y' z z' nm e
/-- a name that stands has its place -/
abbrev nmB (tm : Int) (x : Int32) : Prop := x = -1 ∨ (0 ≤ x.toInt ∧ x.toInt < tm)
theorem nb_T {θ : (Int32 → Prop) → Int32 → Prop} {tm : Int} : ∀ (T : tT) (V : Int32 → Prop) (E : List (Int32 × Int32)) (i : Nat) (I : List Nat), okT θ V T → wfT T E → repC ND T i I → (∀ x, x ∈ tpT T → nmB tm x.1) → (∀ x, x ∈ E → nmB tm x.1) → ∀ j, j ∈ I → nmB tm (ND j).2.2.2.2.2.1
  | .const x, V, E, i, I, hO, hw, ⟨h1, h2⟩, ht, hE, j, hj => by
    subst h1
    rw [List.mem_singleton.mp hj, h2]
    by_cases c : (lT x).2.2.2.1 = -1
    · exact Or.inl c
    · rcases hw (hO.2.2 c) with ⟨w1, -⟩ | ⟨-, w2⟩
      · exact absurd w1 c
      · exact hE ((lT x).2.2.2.1, (lT x).2.2.2.2.1) w2
  | .unary x a, V, E, i, I, hO, hw, ⟨i1, I1, h1, h2, h3⟩, ht, hE, j, hj => by
    subst h1
    by_cases k8 : (lT x).1 = 8
    · have et : tpT (.unary x a) = ((lT x).2.2.2.1, (lT x).2.2.2.2.1) :: tpT a := if_pos k8
      rw [et] at ht
      have hw : (if (lT x).1 = 8 then wfT a (((lT x).2.2.2.1, (lT x).2.2.2.2.1) :: E) else wfT a E) := hw
      rw [if_pos k8] at hw
      have hx := ht _ List.mem_cons_self
      rcases List.mem_cons.mp hj with y | y
      · rw [y, h2]; exact hx
      · refine nb_T a _ _ i1 I1 hO.2 hw h3 (fun z hz => ht z (List.mem_cons_of_mem _ hz)) (fun z hz => ?_) j y
        rcases List.mem_cons.mp hz with u | u
        · rw [u]; exact hx
        · exact hE z u
    · have et : tpT (.unary x a) = tpT a := if_neg k8
      rw [et] at ht
      have hw : (if (lT x).1 = 8 then wfT a (((lT x).2.2.2.1, (lT x).2.2.2.2.1) :: E) else wfT a E) := hw
      rw [if_neg k8] at hw
      rcases List.mem_cons.mp hj with y | y
      · rw [y, h2]
        by_cases c : (lT x).2.2.2.1 = -1
        · exact Or.inl c
        · exact absurd (hO.1.2.1 c) k8
      · exact nb_T a _ E i1 I1 hO.2 hw h3 ht hE j y
  | .binary x a b, V, E, i, I, hO, hw, ⟨i1, I1, i2, I2, h1, h2, h3, h4⟩, ht, hE, j, hj => by
    subst h1
    have et : tpT (.binary x a b) = tpT a ++ tpT b := rfl
    rw [et] at ht
    rcases List.mem_cons.mp hj with y | y
    · rw [y, h2]; exact Or.inl hO.1.2
    · rcases List.mem_append.mp y with y | y
      · exact nb_T a _ E i1 I1 hO.2.1 hw.1 h3 (fun z hz => ht z (List.mem_append_left _ hz)) hE j y
      · exact nb_T b _ E i2 I2 hO.2.2 hw.2 h4 (fun z hz => ht z (List.mem_append_right _ hz)) hE j y
/-- a test that stands has its place -/
theorem tb_T {kk ff xx : Nat → Int32} {lo hi : Int} : ∀ (T : tT) (V : Int32 → Prop) (i : Nat) (I : List Nat), okT (pOk kk ff xx lo hi) V T → repC ND T i I → ∀ j, j ∈ I → (ND j).2.2.2.2.2.2 = -1 ∨ (0 ≤ ((ND j).2.2.2.2.2.2).toInt ∧ ((ND j).2.2.2.2.2.2).toInt < hi ∧ 1 ≤ (xx ((ND j).2.2.2.2.2.2).toInt.toNat).toInt ∧ lo ≤ ((ND j).2.2.2.2.2.2).toInt - (xx ((ND j).2.2.2.2.2.2).toInt.toNat).toInt + 1)
  | .const x, V, i, I, hO, ⟨h1, h2⟩, j, hj => by
    subst h1
    rw [List.mem_singleton.mp hj, h2]
    exact Or.inl hO.2.1
  | .unary x a, V, i, I, hO, ⟨i1, I1, h1, h2, h3⟩, j, hj => by
    subst h1
    rcases List.mem_cons.mp hj with y | y
    · rw [y, h2]
      rcases hO.1.1 with ⟨-, z⟩ | ⟨-, z⟩
      · exact Or.inr z.1
      · exact Or.inl z
    · exact tb_T a _ i1 I1 hO.2 h3 j y
  | .binary x a b, V, i, I, hO, ⟨i1, I1, i2, I2, h1, h2, h3, h4⟩, j, hj => by
    subst h1
    rcases List.mem_cons.mp hj with y | y
    · rw [y, h2]
      rcases hO.1.1 with ⟨-, z⟩ | ⟨-, z⟩
      · exact Or.inr z.1
      · exact Or.inl z
    · rcases List.mem_append.mp y with y | y
      · exact tb_T a _ i1 I1 hO.2.1 h3 j y
      · exact tb_T b _ i2 I2 hO.2.2 h4 j y
/-- pauses and pieces, counted -/
theorem ps_T {xx : Nat → Int32} : ∀ (T : tT) (i : Nat) (I : List Nat), repC ND T i I → lsm (fun j => if (ND j).1 = 1 then 1 else 0) I = pas T ∧ lsm (fun j => txx xx (ND j).2.2.2.2.2.2) I = tsm xx T ∧ I.length = tsz T
  | .const x, i, I, ⟨h1, h2⟩ => by
    subst h1
    refine ⟨?_, ?_, rfl⟩
    · show (if (ND i).1 = 1 then (1 : Int) else 0) + 0 = (if (lT x).1 = 1 then 1 else 0)
      rw [h2, Int.add_zero]
    · show txx xx (ND i).2.2.2.2.2.2 + 0 = txx xx (lT x).2.2.2.2.2
      rw [h2, Int.add_zero]
  | .unary x a, i, I, ⟨i1, I1, h1, h2, h3⟩ => by
    subst h1
    obtain ⟨u1, u2, u3⟩ := ps_T (xx := xx) a i1 I1 h3
    refine ⟨?_, ?_, ?_⟩
    · show (if (ND i).1 = 1 then (1 : Int) else 0) + lsm _ I1 = (if (lT x).1 = 1 then 1 else 0) + pas a
      rw [u1, h2]
    · show txx xx (ND i).2.2.2.2.2.2 + lsm _ I1 = txx xx (lT x).2.2.2.2.2 + tsm xx a
      rw [u2, h2]
    · show I1.length + 1 = 1 + tsz a
      omega
  | .binary x a b, i, I, ⟨i1, I1, i2, I2, h1, h2, h3, h4⟩ => by
    subst h1
    obtain ⟨u1, u2, u3⟩ := ps_T (xx := xx) a i1 I1 h3
    obtain ⟨v1, v2, v3⟩ := ps_T (xx := xx) b i2 I2 h4
    refine ⟨?_, ?_, ?_⟩
    · show (if (ND i).1 = 1 then (1 : Int) else 0) + lsm _ (I1 ++ I2) = (if (lT x).1 = 1 then 1 else 0) + (pas a + pas b)
      rw [lsm_app, u1, v1, h2]
    · show txx xx (ND i).2.2.2.2.2.2 + lsm _ (I1 ++ I2) = txx xx (lT x).2.2.2.2.2 + (tsm xx a + tsm xx b)
      rw [lsm_app, u2, v2, h2]
    · show (I1 ++ I2).length + 1 = 1 + tsz a + tsz b
      rw [List.length_append]
      omega
end UPT
