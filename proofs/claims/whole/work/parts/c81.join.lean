/-! a node more, seen from the parser -/
def pU (P : Nat → Nat) (i x : Nat) : Nat → Nat := fun k => if k = i then x else P k
def nU (ND : Nat → ndT) (i : Nat) (x : ndT) : Nat → ndT := fun k => if k = i then x else ND k
section PVN
variable {G : hg_E} {sz t0 : Nat} {H0 : Nat → Option va_E} {K1 K2 n : Nat} {f : Nat → Int32} {S S' : hg_S} {A C : Nat → Nat} {B : Nat → Nat → Int32} {Q : Nat → Int32} {j : Nat} {el : Nat → Option Nat} {P : Nat → Nat} {ND : Nat → ndT} {M M' : md_S} {b u w : Int}
theorem map_pU {o : Option Nat} {i x : Nat} (h : ∀ c, o = some c → c < i) : o.map (pU P i x) = o.map P := by
  cases o with
  | none => rfl
  | some c =>
    have := h c rfl
    show some (pU P i x c) = some (P c)
    unfold pU
    rw [if_neg (by omega)]
theorem ndC_pU {y : ndT} {i x : Nat} (h : ∀ c, y.2.2.1 = some c ∨ y.2.2.2.1 = some c → c < i) : ndC (pU P i x) y = ndC P y := by
  unfold ndC
  rw [map_pU (fun c hc => h c (Or.inl hc)), map_pU (fun c hc => h c (Or.inr hc))]
set_option maxHeartbeats 1000000 in
theorem mk2 (h : PV G t0 H0 K1 K2 n f S A C B Q j el P ND) (s0 : 0 ≤ (Q 12).toInt) (s1 : (Q 12).toInt ≤ (C 3 : Int)) (hcap : C 3 ≤ 500000) {x : ndT} (hx : ∀ c, x.2.2.1 = some c ∨ x.2.2.2.1 = some c → c < (Q 12).toInt.toNat) {S2 : hg_S} (w2 : hw S2) (z2 : S2.2 = (S.2.1 + 1, S.2.2.1 - 1, S.2.2.2 - 13)) (v2 : hg_at S2.1 S.2.1 = some (.inr (8, ndC P x))) (f2 : ∀ b, b ≠ S.2.1 → hg_at S2.1 b = hg_at S.1 b) (hc : 2 ≤ S.2.2.1) (hs : C 3 + C 3 / 2 + 23 ≤ S.2.2.2) : dc_wp (hm_AL_add_L G S2 (A 7) (some S.2.1)) (fun q => ∃ e c el', PV G t0 H0 K1 K2 n f q.1 (c1 A 19 e) (c1 C 3 c) B (q1 (q1 Q 12 (Q 12 + 1)) 13 (Q 13 + 1)) j el' (pU P (Q 12).toInt.toNat S.2.1) (nU ND (Q 12).toInt.toNat x) ∧ (Q 12).toInt < (c : Int) ∧ (c = C 3 ∨ (C 3 = 0 ∧ c = 10) ∨ (10 ≤ C 3 ∧ (Q 12).toInt = (C 3 : Int) ∧ c = C 3 + C 3 / 2))) := by
  have lt := h.lt
  have t1 : S2.2.1 = S.2.1 + 1 := by rw [z2]
  have t2 : S2.2.2.1 = S.2.2.1 - 1 := by rw [z2]
  have t3 : S2.2.2.2 = S.2.2.2 - 13 := by rw [z2]
  have hE := h.st.2.2.2.2.1
  have hT := h.st.2.2.2.2.2
  have l19 : ¬ A 19 = G.2.2.1 → A 19 < S.2.1 := by
    intro z
    rcases h.al.2 with ⟨y, -⟩ | ⟨-, -, y⟩
    · exact absurd y z
    · exact h.st.1.lt y
  have al2 : alv G S2 (A 7) (A 19) (C 3) el (Q 12) (Q 13) := h.al.fr (f2 _ (by have := lt 7 (by omega); omega)) (fun z => f2 _ (by have := l19 z; omega))
  have ad : (Q 12 + 1).toInt = (Q 12).toInt + 1 := by rw [i_addS (by rw [il_1]; omega), il_1]
  have adn : (Q 12 + 1).toInt.toNat = (Q 12).toInt.toNat + 1 := by omega
  refine dc_mono (al_add al2 w2 (by omega) s0 s1 hcap (fun i hi => ?_) v2 (by omega) (by omega)) ?_
  · obtain ⟨y1, -, y3, -⟩ := h.nd i hi
    exact ⟨P i, _, y1, (f2 _ (by have := h.st.1.lt y3; omega)).trans y3⟩
  · rintro q ⟨e, c, el', g1, g2, g3, g4, g5, g6, g7⟩
    have e_lt : e = A 19 ∧ ¬ A 19 = G.2.2.1 ∨ e = S.2.1 + 1 := by
      rcases g6 with ⟨z, z2, -⟩ | ⟨z, -⟩
      · exact Or.inl ⟨z, z2⟩
      · exact Or.inr (z.trans t1)
    -- what is neither the list nor its array
    have fr : ∀ b, b < S.2.1 → b ≠ A 7 → (¬ A 19 = G.2.2.1 → b ≠ A 19) → hg_at q.1.1 b = hg_at S.1 b := by
      intro b b1 b2 b3
      have ke : b ≠ e := by
        rcases e_lt with ⟨z, z2⟩ | z
        · rw [z]; exact b3 z2
        · omega
      rw [g7 b b2 ke, f2 b (by omega)]
    have fo : ∀ {k : Nat} {y : va_E}, k < 19 → ¬ k = 7 → hg_at S.1 (A k) = some y → (∀ c m g, ¬ y = .inl (c, m, .inr g)) → hg_at q.1.1 (A k) = hg_at S.1 (A k) := fun {k y} hk d hy dy => fr _ (lt k hk) (h.st.2.1.ne hk (by omega) d) (fun z => (h.el_ne z hy dy).symm)
    have tp : q.1.2.1 = S.2.1 + 1 ∨ q.1.2.1 = S.2.1 + 2 := by
      rcases g6 with ⟨-, -, -, z⟩ | ⟨-, z, -⟩
      · left; rw [z]; exact t1
      · right; rw [z, t1]
    have ndl : ∀ i, i < (Q 12).toInt.toNat → hg_at q.1.1 (P i) = hg_at S.1 (P i) := fun i hi => by
      have y := (h.nd i hi).2.2.1
      have yt := (h.nd i hi).2.1
      exact fr _ (h.st.1.lt y) (at_ne y h.al.1 (fun z => by cases z)) (fun z => (h.el_ne z y (fun _ _ _ z => by cases z)).symm)
    have new : hg_at q.1.1 S.2.1 = some (.inr (8, ndC P x)) := by
      have k19 : S.2.1 ≠ A 19 := by
        by_cases z : A 19 = G.2.2.1
        · rw [z]; omega
        · have := l19 z; omega
      have ke : S.2.1 ≠ e := by
        rcases e_lt with ⟨z, -⟩ | z
        · rw [z]; exact k19
        · omega
      rw [g7 _ (by have := lt 7 (by omega); omega) ke]
      exact v2
    refine ⟨e, c, el', ⟨⟨g2, ?_, ?_, ?_, hE, by omega⟩, (fo (by omega) (by omega) h.pa (fun _ _ _ z => by cases z)).trans h.pa, ?_, ?_, ?_, (fo (by omega) (by omega) h.dr (fun _ _ _ z => by cases z)).trans h.dr, ?_, ⟨g1, ?_⟩, ?_, ?_⟩, g5, ?_⟩
    · intro i hi k hk ee
      have x1 : c1 A 19 e i = A i := if_neg (by omega)
      have x2 : c1 A 19 e k = A k := if_neg (by omega)
      rw [x1, x2] at ee
      exact h.st.2.1 i hi k hk ee
    · intro i hi
      have x1 : c1 A 19 e i = A i := if_neg (by omega)
      rw [x1]
      exact h.st.2.2.1 i hi
    · intro b hb
      refine (fr b (by omega) ?_ ?_).trans (h.st.2.2.2.1 b hb)
      · have := h.st.2.2.1 7 (by omega); omega
      · intro z
        have := h.a19 z
        omega
    · exact h.lx.fr (fo (by omega) (by omega) h.lx.1 (fun _ _ _ z => by cases z)) (fo (by omega) (by omega) h.lx.2.1 (fun _ _ _ z => by cases z))
    · exact h.sn.fr (fo (by omega) (by omega) h.sn.1 (fun _ _ _ z => by cases z)) (fo (by omega) (by omega) h.sn.2.1 (fun _ _ _ z => by cases z)) (fo (by omega) (by omega) h.sn.2.2.1 (fun _ _ _ z => by cases z)) (fo (by omega) (by omega) h.sn.2.2.2 (fun _ _ _ z => by cases z))
    · exact h.tn.fr (fo (by omega) (by omega) h.tn.1 (fun _ _ _ z => by cases z)) (fo (by omega) (by omega) h.tn.2.1 (fun _ _ _ z => by cases z)) (fo (by omega) (by omega) h.tn.2.2.1 (fun _ _ _ z => by cases z)) (fo (by omega) (by omega) h.tn.2.2.2 (fun _ _ _ z => by cases z))
    · exact h.pi.fr (fo (by omega) (by omega) h.pi.1 (fun _ _ _ z => by cases z)) (fo (by omega) (by omega) h.pi.2.1 (fun _ _ _ z => by cases z)) (fo (by omega) (by omega) h.pi.2.2.1 (fun _ _ _ z => by cases z)) (fo (by omega) (by omega) h.pi.2.2.2.1 (fun _ _ _ z => by cases z)) (fo (by omega) (by omega) h.pi.2.2.2.2.1 (fun _ _ _ z => by cases z)) (fo (by omega) (by omega) h.pi.2.2.2.2.2 (fun _ _ _ z => by cases z))
    · intro _
      show t0 ≤ e
      rcases e_lt with ⟨z, z2⟩ | z
      · rw [z]; exact h.a19 z2
      · omega
    · show ndv q.1 el' (pU P (Q 12).toInt.toNat S.2.1) (nU ND (Q 12).toInt.toNat x) (Q 12 + 1).toInt.toNat t0
      rw [adn]
      intro i hi
      have pu : ∀ k, ¬ k = (Q 12).toInt.toNat → pU P (Q 12).toInt.toNat S.2.1 k = P k := fun k hk => if_neg hk
      by_cases ei : i = (Q 12).toInt.toNat
      · have p1 : pU P (Q 12).toInt.toNat S.2.1 i = S.2.1 := if_pos ei
        have p2 : nU ND (Q 12).toInt.toNat x i = x := if_pos ei
        rw [p1, p2, ndC_pU hx]
        refine ⟨by rw [ei]; exact g4, by omega, new, fun i' hi' => ?_, fun c hc => by rw [ei]; exact hx c hc⟩
        rw [pu i' (by omega)]
        exact h.st.1.lt (h.nd i' (by omega)).2.2.1
      · have p2 : nU ND (Q 12).toInt.toNat x i = ND i := if_neg ei
        obtain ⟨y1, y2, y3, y4, y5⟩ := h.nd i (by omega)
        rw [pu i ei, p2, ndC_pU (fun c hc => by have := y5 c hc; omega)]
        refine ⟨(g3 i (by omega)).trans y1, y2, (ndl i (by omega)).trans y3, fun i' hi' => ?_, y5⟩
        rw [pu i' (by omega)]
        exact y4 i' hi'
    · have rm := h.rm
      show K1 ≤ q.1.2.2.1 + (Q 12 + 1).toInt.toNat + 3 * C 0 + 3 * C 1 + 5 * C 2 + c ∧ K2 ≤ q.1.2.2.2 + 13 * (Q 12 + 1).toInt.toNat + 6 * C 0 + 6 * C 1 + 10 * C 2 + 4 * c
      rw [adn]
      rcases g6 with ⟨-, -, z1, z⟩ | ⟨-, z, z1⟩
      · rw [z, t2, t3, z1]; omega
      · rw [z, t2, t3]
        show K1 ≤ S.2.2.1 - 1 - 1 + ((Q 12).toInt.toNat + 1) + 3 * C 0 + 3 * C 1 + 5 * C 2 + c ∧ K2 ≤ S.2.2.2 - 13 - c + 13 * ((Q 12).toInt.toNat + 1) + 6 * C 0 + 6 * C 1 + 10 * C 2 + 4 * c
        rcases z1 with ⟨z1, z2⟩ | ⟨z1, -, z2⟩
        · omega
        · omega
    · rcases g6 with ⟨-, -, z1, z⟩ | ⟨-, -, z1⟩
      · exact Or.inl z1
      · exact Or.inr z1
end PVN
