/-! judge: what the class says of a program that was read -/
theorem rl_le {g : Nat → Int} {m : Nat} (hg : ∀ k, k < m → 0 ≤ g k) : ∀ n : Nat, n ≤ m → ∀ d : Nat, d ≤ n → lsm g (rl m d) ≤ lsm g (rl m n)
  | 0, _, d, hd => by
    have : d = 0 := by omega
    subst this
    exact Int.le_refl _
  | n + 1, hn, d, hd => by
    by_cases c : d = n + 1
    · subst c; exact Int.le_refl _
    · have a := rl_le hg n (by omega) d (by omega)
      have b := hg (m - (n + 1)) (by omega)
      show _ ≤ g (m - (n + 1)) + lsm g (rl m n)
      omega
theorem sd_t {g : Nat → Int32} {m : Nat} (hg : ∀ k, k < m → 0 ≤ (g k).toInt) (hb : lsm (fun k => (g k).toInt) (rl m m) ≤ 2000000000) : ∀ n : Nat, n ≤ m → (sd g m n).toInt = lsm (fun k => (g k).toInt) (rl m n) ∧ 0 ≤ (sd g m n).toInt
  | 0, _ => ⟨rfl, by show 0 ≤ (0 : Int32).toInt; decide⟩
  | n + 1, hn => by
    obtain ⟨h1, h2⟩ := sd_t hg hb n (by omega)
    have hk := hg (m - (n + 1)) (by omega)
    have le := rl_le (g := fun k => (g k).toInt) hg m (Nat.le_refl _) (n + 1) hn
    have le : (g (m - (n + 1))).toInt + lsm (fun k => (g k).toInt) (rl m n) ≤ lsm (fun k => (g k).toInt) (rl m m) := le
    have ad : (sd g m n + g (m - (n + 1))).toInt = (sd g m n).toInt + (g (m - (n + 1))).toInt := i_addS (by omega)
    refine ⟨?_, ?_⟩
    · show (sd g m n + g (m - (n + 1))).toInt = (g (m - (n + 1))).toInt + lsm _ (rl m n)
      rw [ad, h1]
      omega
    · show 0 ≤ (sd g m n + g (m - (n + 1))).toInt
      omega
theorem lsm_le {g : Nat → Int} {c : Int} : ∀ l : List Nat, (∀ k, k ∈ l → g k ≤ c) → lsm g l ≤ (l.length : Int) * c
  | [], _ => by
    show 0 ≤ ((0 : Nat) : Int) * c
    omega
  | a :: l, h => by
    have h1 := h a List.mem_cons_self
    have h2 := lsm_le l (fun k hk => h k (List.mem_cons_of_mem _ hk))
    show g a + lsm g l ≤ ((l.length + 1 : Nat) : Int) * c
    rw [Int.natCast_add, Int.add_mul]
    omega
/-- what settle has found out of a tree -/
def sTo (ND : Nat → ndT) (xx : Nat → Int32) (m : Nat) (T : tT) (i : Nat) (I : List Nat) (F : Nat → Nat → Int32) (D : Nat → Int32) : Prop :=
  STD m (fun i => (ND i).2.2.1) (fun i => (ND i).2.2.2.1) xx (fun i => nF (ND i)) F D ∧ CF ND F m ∧ ((F i 8).toInt = 0 ∧ F i 9 = -1 ∧ (F i 10).toInt = 0 ∧ (F i 11).toInt = 1) ∧ plO F T I 0 0 1 ∧ cdO F T I i [] ∧ (D 2).toInt = wsm T 1 ∧ (D 3).toInt = pas T ∧ (D 4).toInt = tsm xx T ∧ (D 5).toInt = dmx T 0
section JDG
variable {G : hg_E} {sz t0' : Nat} {H0 : Nat → Option va_E} {K1 K2 n : Nat} {f : Nat → Int32} {S : hg_S} {A C : Nat → Nat} {B : Nat → Nat → Int32} {Q : Nat → Int32} {j : Nat} {el : Nat → Option Nat} {P : Nat → Nat} {ND : Nat → ndT} {M : md_S} {b u w p0 : Int} {T : tT} {i : Nat} {I : List Nat} {V : Int32 → Prop} {c l0 s' tm' a' l' : Int32} {t a m0 m1 p1 : Int}
theorem PV_DV (v : PV G t0' H0 K1 K2 n f S A C B Q j el P ND) (r : RM M C B n f Q j b u w) (hi : i + 1 = (Q 12).toInt.toNat) : DV G S (A 5) (A 6) (A 7) P (Q 12).toInt.toNat (fun i => (ND i).2.2.1) (fun i => (ND i).2.2.2.1) (A 17) (C 2) (B 9) (fun i => nF (ND i)) (fun _ => 0) := by
  have hn : (n : Int) ≤ 32768 := by have := r.1.1; omega
  have pp := r.2.2.2.2.1.1
  have bb := r.2.2.2.2.2.2.2.2.2.1.2.1
  have cc := r.2.2.2.2.2.2.2.2.2.2.2.2.2
  have eQ : Q 12 = Int32.ofNat (Q 12).toInt.toNat := by
    refine i_eq.mpr ?_
    rw [Int32.toInt_ofNat_of_lt (by omega)]
    omega
  refine ⟨⟨v.st.1, by omega⟩, v.dr, ⟨_, _, _, _, _, v.pi.1⟩, v.pi.2.2.2.2.1, ?_, ?_⟩
  · rcases v.al.2 with ⟨-, c0⟩ | ⟨-, c1, c2⟩
    · rw [c0] at cc
      omega
    · have al := v.al.1
      rw [eQ] at al
      exact ⟨A 19, Q 13, C 3, el, al, c2, by omega, fun k hk => (v.nd k hk).1⟩
  · intro k hk
    obtain ⟨y1, y2, y3, y4, y5⟩ := v.nd k hk
    exact ⟨y3, y4, y5⟩
theorem settle_t (v : PV G t0' H0 K1 K2 n f S A C B Q j el P ND) (r : RM M C B n f Q j b u w) (hK : 40 * n + 70 ≤ K1 ∧ 200 * n + 400 ≤ K2) (hi : i + 1 = (Q 12).toInt.toNat) (hT : repC ND T i I) (cv : cov I 0 (Q 12).toInt.toNat) (fg : FG (pOk (B 6) (B 7) (B 9) 0 (Q 11).toInt) (B 9) V T 80026 (Q 11).toInt m0 m1) (bu : BU [] 0 0 32768 l0 p0 T c s' (Q 9) a' l' p1) : dc_wp (hm_DR_settle G S (A 5) (Q 9)) (fun S' => ∃ F D, DV G S' (A 5) (A 6) (A 7) P (Q 12).toInt.toNat (fun i => (ND i).2.2.1) (fun i => (ND i).2.2.2.1) (A 17) (C 2) (B 9) F D ∧ frS P (Q 12).toInt.toNat (A 5) S S' (Q 9).toInt.toNat ∧ sTo ND (B 9) (Q 12).toInt.toNat T i I F D) := by
  have hn : (n : Int) ≤ 32768 := by have := r.1.1; omega
  have us := RM.use v r
  have pp := r.2.2.2.2.1.1
  have bb := r.2.2.2.2.2.2.2.2.2.1
  have tr := r.2.2.2.2.2.2.1.2.1
  have pi := r.2.2.2.2.2.2.2.2.1
  have d := PV_DV v r hi
  obtain ⟨t, L, ⟨o1, ⟨o2, o2'⟩, o3, o4⟩, f2, f3, f4⟩ := fg
  obtain ⟨b1, b2, b3, b4, b5, b6, b7⟩ := bu
  have z0 : (0 : Int32).toInt = 0 := il_0
  have cI : ∀ k, k ∈ I → k < (Q 12).toInt.toNat := fun k hk => ((cv.1 k).mp hk).2
  have cI' : ∀ k, k < (Q 12).toInt.toNat → k ∈ I := fun k hk => (cv.1 k).mpr ⟨by omega, hk⟩
  obtain ⟨u1, u2, u3⟩ := up_T T i I hT cv.2
  obtain ⟨n1, n2⟩ := tn_T T V i I o1 hT b6
  have nb := nb_T (tm := (Q 9).toInt) T V [] i I o1 b7 hT (fun x hx => by
    rcases (b4 x hx).2 with z | z
    · exact Or.inl z
    · exact Or.inr ⟨by omega, z.2⟩) (fun x hx => absurd hx List.not_mem_nil)
  have tb := tb_T T V i I o1 hT
  have F0 : ∀ k, nF (ND k) 0 = (ND k).1 ∧ nF (ND k) 1 = (ND k).2.1 ∧ nF (ND k) 4 = (ND k).2.2.2.2.1 ∧ nF (ND k) 5 = (ND k).2.2.2.2.2.1 ∧ nF (ND k) 6 = (ND k).2.2.2.2.2.2 := fun k => ⟨rfl, rfl, rfl, rfl, rfl⟩
  have hTr : trN (Q 12).toInt.toNat (Q 9).toInt.toNat (C 2) (fun i => (ND i).2.2.1) (fun i => (ND i).2.2.2.1) (fun i => nF (ND i)) := by
    refine ⟨fun x x' c h1 h2 h3 h4 => u2 x x' c (cI' x h1) (cI' x' h2) h3 h4, fun x c h1 h2 => u3 x c (cI' x h1) h2, fun x x' h1 h2 h3 h4 h5 h6 => n2 x x' (cI' x h1) (cI' x' h2) h3 h4 h5 h6, fun x h1 h2 => ?_, fun x h1 h2 => ?_⟩
    · rcases nb x (cI' x h1) with z | z
      · exact absurd z h2
      · have z : 0 ≤ (nF (ND x) 5).toInt ∧ (nF (ND x) 5).toInt < (Q 9).toInt := z
        show 0 ≤ (nF (ND x) 5).toInt ∧ (nF (ND x) 5).toInt < (((Q 9).toInt.toNat : Nat) : Int)
        exact ⟨z.1, by omega⟩
    · rcases tb x (cI' x h1) with z | z
      · exact absurd z h2
      · have z : 0 ≤ (nF (ND x) 6).toInt ∧ (nF (ND x) 6).toInt < (Q 11).toInt ∧ _ := z
        have := pi.1.2
        show 0 ≤ (nF (ND x) 6).toInt ∧ (nF (ND x) 6).toInt < (C 2 : Int)
        exact ⟨z.1, by omega⟩
  refine dc_mono (settle_w d ⟨rfl, rfl, rfl, rfl⟩ (tm := (Q 9).toInt.toNat) hTr (by omega) (by omega) (by omega) (by omega)) ?_
  rintro S' ⟨F, D, w1, fr, st⟩
  refine ⟨F, D, w1, fr, ?_⟩
  have st0 := st
  obtain ⟨s1, s2, s3, s4, s5, s6, s7, s8⟩ := st
  have k0 : ∀ x, F x 0 = (ND x).1 := fun x => (s1 x 0 (Or.inl rfl)).trans (F0 x).1
  have mi : (Q 12).toInt.toNat - 1 = i := by omega
  have i8 : F i 8 = 0 := by have := s4 8 (by omega) (by omega); rw [mi] at this; exact this
  have i9 : F i 9 = -1 := by have := s4 9 (by omega) (by omega); rw [mi] at this; exact this
  have i10 : F i 10 = 0 := by have := s4 10 (by omega) (by omega); rw [mi] at this; exact this
  have i11 : F i 11 = 1 := by have := s4 11 (by omega) (by omega); rw [mi] at this; exact this
  have len : I.length = (Q 12).toInt.toNat := by
    have e := (cov_rl cv).length_eq
    have rlen : ∀ k, (rl (Q 12).toInt.toNat k).length = k := by
      intro k
      induction k with
      | zero => rfl
      | succ k ih => show (rl (Q 12).toInt.toNat k).length + 1 = k + 1; rw [ih]
    rw [e, rlen]
  obtain ⟨q1', q2', q3'⟩ := ps_T (xx := B 9) T i I hT
  have ts : tsz T = (Q 12).toInt.toNat := by rw [← q3', len]
  have cf : CF ND F (Q 12).toInt.toNat := by
    refine ⟨k0, fun x => (s1 x 1 (Or.inr (Or.inl rfl))).trans (F0 x).2.1, fun x hx c hc => (v.nd x hx).2.2.2.2 c hc, s3, fun x hx => (s5 x hx).trans (F0 x).2.2.1, fun x x2 h1 h2 h3 h4 h5 h6 => s6 x x2 h1 h2 h3 h4 h5 h6, s8⟩
  have P1 := pl_T s2 s3 k0 T V i I 0 0 1 o1 hT cI (by rw [i8, il_0]) (by rw [i10, il_0]) (by rw [i11, il_1]) (by omega) (by omega) (by omega) (by omega) (by omega) (by omega)
  have P2 := cd_T s2 cf T V [] i I 0 1 o1 b7 hT cI (fun k nm sv e => by cases e) (by rw [List.map_nil, List.append_nil]; exact b5) (by show 0 + tdp T ≤ 26; omega) (by rw [i8, il_0]) (by rw [i10, il_0]; rfl) (by rw [i11, il_1]) (by omega) (by omega) (by omega) (by omega)
  have pm := cov_rl cv
  refine ⟨st0, cf, ⟨by rw [i8, il_0], i9, by rw [i10, il_0], by rw [i11, il_1]⟩, P1, P2, ?_, ?_, ?_, ?_⟩
  · have e := P1.2.2.1
    rw [lsm_perm pm] at e
    have le := lsm_le (g := fun k => (F k 11).toInt) (c := 801) (rl (Q 12).toInt.toNat (Q 12).toInt.toNat) (fun k hk => by
      have hk' := (rl_mem _ (Nat.le_refl _)).mp hk
      have := (P1.2.2.2.2.1 k (cI' k hk'.2)).2
      omega)
    rw [← pm.length_eq, len] at le
    have := sd_t (g := fun k => F k 11) (m := (Q 12).toInt.toNat) (fun k hk => by have := (P1.2.2.2.2.1 k (cI' k hk)).1; omega) (by omega) (Q 12).toInt.toNat (Nat.le_refl _)
    rw [s7.1, this.1, e]
  · have e := q1'
    rw [lsm_perm pm] at e
    have ge : ∀ k, ((if nF (ND k) 0 = 1 then (1 : Int32) else 0) : Int32).toInt = (if (ND k).1 = 1 then 1 else 0) := by
      intro k
      rw [(F0 k).1]
      by_cases z : (ND k).1 = 1
      · rw [if_pos z, if_pos z, il_1]
      · rw [if_neg z, if_neg z, il_0]
    have gl : ∀ l, lsm (fun k => ((if nF (ND k) 0 = 1 then (1 : Int32) else 0) : Int32).toInt) l = lsm (fun k => if (ND k).1 = 1 then 1 else 0) l := fun l => lsm_cg l (fun k _ => ge k)
    have le := lsm_le (g := fun k => ((if nF (ND k) 0 = 1 then (1 : Int32) else 0) : Int32).toInt) (c := 1) (rl (Q 12).toInt.toNat (Q 12).toInt.toNat) (fun k _ => by
      show ((if nF (ND k) 0 = 1 then (1 : Int32) else 0) : Int32).toInt ≤ 1
      rw [ge]
      by_cases z : (ND k).1 = 1
      · rw [if_pos z]; omega
      · rw [if_neg z]; omega)
    rw [← pm.length_eq, len] at le
    have := sd_t (g := fun k => if nF (ND k) 0 = 1 then (1 : Int32) else 0) (m := (Q 12).toInt.toNat) (fun k _ => by
      rw [ge]
      by_cases z : (ND k).1 = 1
      · rw [if_pos z]; omega
      · rw [if_neg z]; omega) (by omega) (Q 12).toInt.toNat (Nat.le_refl _)
    rw [s7.2.1, this.1, gl, e]
  · have e := q2'
    rw [lsm_perm pm] at e
    have ge : ∀ k, ((if nF (ND k) 6 = -1 then (0 : Int32) else B 9 (nF (ND k) 6).toInt.toNat) : Int32).toInt = txx (B 9) (ND k).2.2.2.2.2.2 := by
      intro k
      rw [(F0 k).2.2.2.2]
      unfold txx
      by_cases z : (ND k).2.2.2.2.2.2 = -1
      · rw [if_pos z, if_pos z, il_0]
      · rw [if_neg z, if_neg z]
    have gl : ∀ l, lsm (fun k => ((if nF (ND k) 6 = -1 then (0 : Int32) else B 9 (nF (ND k) 6).toInt.toNat) : Int32).toInt) l = lsm (fun k => txx (B 9) (ND k).2.2.2.2.2.2) l := fun l => lsm_cg l (fun k _ => ge k)
    have := sd_t (g := fun k => if nF (ND k) 6 = -1 then (0 : Int32) else B 9 (nF (ND k) 6).toInt.toNat) (m := (Q 12).toInt.toNat) (fun k hk => by
      rw [ge]
      unfold txx
      rcases tb k (cI' k hk) with z | z
      · rw [if_pos z]; omega
      · by_cases y : (ND k).2.2.2.2.2.2 = -1
        · rw [if_pos y]; omega
        · rw [if_neg y]
          have := z.2.2.1
          omega) (by rw [gl, e, o3]; omega) (Q 12).toInt.toNat (Nat.le_refl _)
    rw [s7.2.2.1, this.1, gl, e]
  · have e := P1.2.2.2.1
    rw [lmx_perm pm] at e
    rw [s7.2.2.2, sx_l _ (Nat.le_refl _) (fun k hk => by have := (P1.2.2.2.2.2 k (cI' k hk)).1; omega), e]
end JDG
