/-! size in step -/
section SZR
variable {M : md_S} {n F cap made k0 : Nat} {p : rsT} {ph : Nat → Nat}
def szF (M Y : md_S) : Prop := Y.1 106 = M.1 106 ∧ ∀ i, ¬ i = 105 → Y.2.1 i = M.2.1 i
theorem szF_a {Y : md_S} {i : Nat} {v : Int32} (h : szF M Y) : szF M (md_a Y 105 i v) := ⟨h.1, fun j hj => by rw [md_a2, if_neg hj]; exact h.2 j hj⟩
def szI (M : md_S) (p : rsT) (ph : Nat → Nat) (n made k0 : Nat) (y : md_S × Int32 × Int32) : Prop := ∃ t c, y.2.1 = Int32.ofNat c ∧ y.2.2 = Int32.ofNat t + (-1) ∧ t ≤ n ∧ szF M y.1 ∧ (∀ k, 2 ≤ k → k < made → (¬ y.1.2.1 105 (ph k) = 0 ↔ (k = k0 ∨ ∃ j, rcC p made k0 j ∧ chN p made j k ∧ t ≤ ph j))) ∧ c + ctP (fun m => ∃ k, (2 ≤ k ∧ k < made) ∧ ph k = m ∧ rcC p made k0 k) t = ctP (fun m => ∃ k, (2 ≤ k ∧ k < made) ∧ ph k = m ∧ rcC p made k0 k) n
theorem szr_s (hL : LYn M n F) (hI : ncI p M n made ph cap) (hR : ntR p M n made ph F) : ∀ y, szI M p ph n made k0 y → dc_pw (mm_size_s77 y) (Sum.elim (szI M p ph n made k0) (fun z => z.2 = Int32.ofNat (ctP (fun m => ∃ k, (2 ≤ k ∧ k < made) ∧ ph k = m ∧ rcC p made k0 k) n))) := by
  rintro ⟨Y, y2, y3⟩ ⟨t, c, e2, e3, tn, hY, hm, ht⟩
  have f2 : y2 = Int32.ofNat c := e2
  have f3 : y3 = Int32.ofNat t + (-1) := e3
  subst f2
  clear e2 e3
  have hY : szF M Y := hY
  have n24 := hL.1.2
  have cl := ctP_le (P := fun m => ∃ k, (2 ≤ k ∧ k < made) ∧ ph k = m ∧ rcC p made k0 k) n
  have mc := hI.1.2.2
  obtain ⟨g, hg⟩ := sur_w hL hI hR
  show dc_pw (mm_size_b77 Y (Int32.ofNat c) y3) _
  delta mm_size_b77
  cases t with
  | zero =>
    have e : y3 = -1 := by rw [f3]; decide
    rw [e, if_pos (by decide)]
    refine pw_some ?_
    show Int32.ofNat c = _
    have z : ctP (fun m => ∃ k, (2 ≤ k ∧ k < made) ∧ ph k = m ∧ rcC p made k0 k) 0 = 0 := rfl
    rw [z] at ht
    rw [← ht]; rfl
  | succ i =>
    have e : y3 = Int32.ofNat i := by rw [f3]; exact ofN_d i
    rw [e]
    have ti : (Int32.ofNat i).toInt = (i : Int) := Int32.toInt_ofNat_of_lt (by omega)
    have tin : (Int32.ofNat i).toInt.toNat = i := by omega
    rw [if_neg (by rw [i_lt, ti, il_0]; omega)]
    obtain ⟨g1, g2, g3⟩ := hg i (by omega)
    have rk : ¬ Y.2.1 105 i = 0 ↔ rcC p made k0 (g i) := by
      have h := hm (g i) g1 g2
      rw [g3] at h
      rw [show Y.2.1 105 i = (Y, Int32.ofNat c, y3).1.2.1 105 i from rfl, h, rcC_iff (k := g i)]
      constructor
      · rintro (h | ⟨j, h1, h2, -⟩)
        · exact Or.inl h
        · exact Or.inr ⟨j, h1, h2⟩
      · rintro (h | ⟨j, h1, h2⟩)
        · exact Or.inl h
        · refine Or.inr ⟨j, h1, h2, ?_⟩
          have := ch_ph hI n24 hL.2.1.2 g1 h2
          omega
    have uq : ∀ j, 2 ≤ j → j < made → ph j = i → j = g i := fun j j2 jm e => hI.2.2.1 j (g i) j2 jm g1 g2 (by rw [e, g3])
    refine pw_ix (fun _ _ => ?_)
    rw [tin]
    refine pw_ifc (fun b => ?_) (fun b => ?_)
    · have hR' : ¬ rcC p made k0 (g i) := fun z => (rk.mpr z) b
      delta mm_size_L138
      refine pw_some ⟨i, c, rfl, rfl, by omega, hY, fun k k2 km => ?_, ?_⟩
      · rw [hm k k2 km]
        constructor
        · rintro (h | ⟨j, h1, h2, h3⟩)
          · exact Or.inl h
          · exact Or.inr ⟨j, h1, h2, by omega⟩
        · rintro (h | ⟨j, h1, h2, h3⟩)
          · exact Or.inl h
          · by_cases ej : ph j = i
            · rw [uq j h2.1.1 h2.1.2.1 ej] at h1; exact absurd h1 hR'
            · exact Or.inr ⟨j, h1, h2, by omega⟩
      · rw [ctP_n (P := fun m => ∃ k, (2 ≤ k ∧ k < made) ∧ ph k = m ∧ rcC p made k0 k) (n := i) (fun ⟨k, kk, ek, hk⟩ => hR' (by rw [← uq k kk.1 kk.2 ek]; exact hk))] at ht
        exact ht
    · have hR' := rk.mp b
      obtain ⟨p1, l, x, z, l1, l2, l3, l4, l5, l6, l7, l8, l9⟩ := hI.2.1 (g i) g1 g2
      rw [g3] at l5 l7 l9 p1
      have r2 : Y.2.1 102 i = nvC ph x := by rw [hY.2 102 (by decide)]; exact l7
      have r3 : ∀ Z : md_S, szF M Z → Z.2.1 103 i = nvC ph z := fun Z hZ => by rw [hZ.2 103 (by decide)]; exact l9
      have nvn : ∀ k, k < made → ¬ nvC ph k < 0 → 2 ≤ k ∧ (nvC ph k).toInt.toNat = ph k := fun k km hk => by
        unfold nvC at hk ⊢
        by_cases c0 : k = 0
        · rw [if_pos c0] at hk; exact absurd (by decide) hk
        · rw [if_neg c0] at hk ⊢
          by_cases c1 : k = 1
          · rw [if_pos c1] at hk; exact absurd (by decide) hk
          · rw [if_neg c1]
            have := (hI.2.1 k (by omega) km).1
            rw [Int32.toInt_ofNat_of_lt (by omega)]
            exact ⟨by omega, by omega⟩
      have nvl : ∀ k, k < made → nvC ph k < 0 → k < 2 := fun k km hk => by
        unfold nvC at hk
        by_cases c0 : k = 0
        · omega
        · rw [if_neg c0] at hk
          by_cases c1 : k = 1
          · omega
          · rw [if_neg c1] at hk
            have := (hI.2.1 k (by omega) km).1
            have hk := i_lt.mp hk
            rw [Int32.toInt_ofNat_of_lt (by omega), il_0] at hk
            omega
      have cx : ∀ k, 2 ≤ k → k < made → (chN p made (g i) k ↔ (k = x ∨ k = z)) := fun k k2 km => by
        constructor
        · rintro ⟨-, e | e⟩
          · rw [l6] at e
            exact Or.inl (ofN_j (by omega) (by omega) e).symm
          · rw [l8] at e
            exact Or.inr (ofN_j (by omega) (by omega) e).symm
        · rintro (e | e)
          · exact ⟨⟨g1, g2, km⟩, Or.inl (by rw [e]; exact l6)⟩
          · exact ⟨⟨g1, g2, km⟩, Or.inr (by rw [e]; exact l8)⟩
      have up : ∀ k, 2 ≤ k → k < made → ((k = k0 ∨ ∃ j, rcC p made k0 j ∧ chN p made j k ∧ i ≤ ph j) ↔ ((k = k0 ∨ ∃ j, rcC p made k0 j ∧ chN p made j k ∧ i + 1 ≤ ph j) ∨ (k = x ∨ k = z))) := fun k k2 km => by
        rw [← cx k k2 km]
        constructor
        · rintro (h | ⟨j, h1, h2, h3⟩)
          · exact Or.inl (Or.inl h)
          · by_cases ej : ph j = i
            · rw [uq j h2.1.1 h2.1.2.1 ej] at h2; exact Or.inr h2
            · exact Or.inl (Or.inr ⟨j, h1, h2, by omega⟩)
        · rintro ((h | ⟨j, h1, h2, h3⟩) | h)
          · exact Or.inl h
          · exact Or.inr ⟨j, h1, h2, by omega⟩
          · exact Or.inr ⟨g i, hR', h, by omega⟩
      have one : ¬ (1 : Int32) = 0 := by decide
      -- a mark more
      have mk : ∀ (Z : md_S) (P : Nat → Prop) (w : Nat), w < made → (∀ k, 2 ≤ k → k < made → (¬ Z.2.1 105 (ph k) = 0 ↔ P k)) → ∀ v : Nat, (2 ≤ w → v = ph w) → 2 ≤ w → ∀ k, 2 ≤ k → k < made → (¬ (md_a Z 105 v 1).2.1 105 (ph k) = 0 ↔ (P k ∨ k = w)) := fun Z P w wm hZ v hv w2 k k2 km => by
        rw [md_a2, if_pos rfl, hv w2]
        by_cases ek : k = w
        · rw [ek, upd_s]; exact ⟨fun _ => Or.inr rfl, fun _ => one⟩
        · rw [upd_n (fun e => ek (hI.2.2.1 k w k2 km w2 wm e)), hZ k k2 km]
          exact ⟨Or.inl, fun h => h.elim id (fun h => absurd h ek)⟩
      have fin : ∀ Z : md_S, szF M Z → (∀ k, 2 ≤ k → k < made → (¬ Z.2.1 105 (ph k) = 0 ↔ ((k = k0 ∨ ∃ j, rcC p made k0 j ∧ chN p made j k ∧ i + 1 ≤ ph j) ∨ k = x))) → dc_pw (mm_size_L117 Z (Int32.ofNat c + 1) (Int32.ofNat i)) (Sum.elim (szI M p ph n made k0) (fun z => z.2 = Int32.ofNat (ctP (fun m => ∃ k, (2 ≤ k ∧ k < made) ∧ ph k = m ∧ rcC p made k0 k) n))) := fun Z hZ hz => by
        have cc : c + 1 + ctP (fun m => ∃ k, (2 ≤ k ∧ k < made) ∧ ph k = m ∧ rcC p made k0 k) i = ctP (fun m => ∃ k, (2 ≤ k ∧ k < made) ∧ ph k = m ∧ rcC p made k0 k) n := by
          rw [ctP_y (P := fun m => ∃ k, (2 ≤ k ∧ k < made) ∧ ph k = m ∧ rcC p made k0 k) (n := i) ⟨g i, ⟨g1, g2⟩, g3, hR'⟩] at ht
          omega
        delta mm_size_L117
        refine pw_ix (fun _ _ => ?_)
        rw [tin]
        refine pw_ifc (fun d => ?_) (fun d => ?_)
        · rw [r3 Z hZ] at d
          have z2 := nvl z (by omega) d
          delta mm_size_L138
          refine pw_some ⟨i, c + 1, ad_m (by omega), rfl, by omega, hZ, fun k k2 km => ?_, cc⟩
          rw [hz k k2 km, up k k2 km]
          exact ⟨fun h => h.elim Or.inl (fun h => Or.inr (Or.inl h)), fun h => h.elim Or.inl (fun h => h.elim Or.inr (fun h => by omega))⟩
        · rw [r3 Z hZ] at d
          obtain ⟨z2, zt⟩ := nvn z (by omega) d
          refine pw_ix (fun _ _ => ?_)
          rw [tin, r3 Z hZ]
          refine pw_ix (fun _ _ => ?_)
          rw [zt]
          show dc_pw (mm_size_L138 (md_a Z 105 (ph z) 1) (Int32.ofNat c + 1) (Int32.ofNat i)) _
          delta mm_size_L138
          refine pw_some ⟨i, c + 1, ad_m (by omega), rfl, by omega, szF_a hZ, fun k k2 km => ?_, cc⟩
          rw [mk Z _ z (by omega) hz (ph z) (fun _ => rfl) z2 k k2 km, up k k2 km, or_assoc]
      refine pw_ix (fun _ _ => ?_)
      rw [tin, r2]
      refine pw_ifc (fun d => ?_) (fun d => ?_)
      · have x2 := nvl x (by omega) d
        refine fin Y hY (fun k k2 km => ?_)
        rw [hm k k2 km]
        exact ⟨Or.inl, fun h => h.elim id (fun h => by omega)⟩
      · obtain ⟨x2, xt⟩ := nvn x (by omega) d
        refine pw_ix (fun _ _ => ?_)
        rw [tin, r2]
        refine pw_ix (fun _ _ => ?_)
        rw [xt]
        refine fin (md_a Y 105 (ph x) 1) (szF_a hY) (fun k k2 km => ?_)
        rw [mk Y _ x (by omega) hm (ph x) (fun _ => rfl) x2 k k2 km]
/-- the reference's size -/
theorem szr_w (hL : LYn M n F) (hI : ncI p M n made ph cap) (hR : ntR p M n made ph F) (hk : k0 < made) {x1 : Int32} (hr : M.2.1 100 x1.toInt.toNat = nvC ph k0) {Y : md_S} (hY : szF M Y) : dc_pw (mm_size_L33 Y x1 0) (fun z => z.2 = Int32.ofNat (ctP (fun m => ∃ k, (2 ≤ k ∧ k < made) ∧ ph k = m ∧ rcC p made k0 k) n)) := by
  have n24 := hL.1.2
  have tn : (Int32.ofNat n).toInt = (n : Int) := Int32.toInt_ofNat_of_lt (by omega)
  delta mm_size_L33
  refine pw_loop (fun (y : md_S × Int32) => ∃ k, y.2 = Int32.ofNat k ∧ k ≤ n ∧ szF M y.1 ∧ ∀ m, m < k → y.1.2.1 105 m = if Int32.ofNat m = nvC ph k0 then 1 else 0) (fun z => szF M z ∧ ∀ m, m < n → z.2.1 105 m = if Int32.ofNat m = nvC ph k0 then 1 else 0) ⟨0, rfl, by omega, hY, fun m hm => absurd hm (by omega)⟩ ?_ ?_
  · rintro ⟨Y1, y2⟩ ⟨k, e, k1, h1, h2⟩
    have e2 : y2 = Int32.ofNat k := e
    subst e2
    have h1 : szF M Y1 := h1
    have tk : (Int32.ofNat k).toInt = (k : Int) := Int32.toInt_ofNat_of_lt (by omega)
    have tkn : (Int32.ofNat k).toInt.toNat = k := by omega
    show dc_pw (mm_size_b33 Y1 x1 (Int32.ofNat k)) _
    delta mm_size_b33
    rw [show Y1.1 106 = Int32.ofNat n from h1.1.trans hL.1.1]
    have go : ∀ v : Int32, v = (if Int32.ofNat k = nvC ph k0 then 1 else 0) → k < n → dc_pw (mm_size_L61 Y1 x1 (Int32.ofNat k) v (Int32.ofNat k)) (Sum.elim (fun (y : md_S × Int32) => ∃ k, y.2 = Int32.ofNat k ∧ k ≤ n ∧ szF M y.1 ∧ ∀ m, m < k → y.1.2.1 105 m = if Int32.ofNat m = nvC ph k0 then 1 else 0) (fun z => szF M z ∧ ∀ m, m < n → z.2.1 105 m = if Int32.ofNat m = nvC ph k0 then 1 else 0)) := fun v hv kn => by
      delta mm_size_L61
      refine pw_bind (P := fun _ => True) (fun _ _ => trivial) (fun _ _ => ?_)
      refine pw_ix (fun _ _ => ?_)
      rw [tkn]
      refine pw_some ⟨k + 1, ad_m (by omega), by omega, szF_a h1, fun m hm => ?_⟩
      show (md_a Y1 105 k v).2.1 105 m = _
      rw [md_a2, if_pos rfl]
      by_cases em : m = k
      · rw [em, upd_s, hv]
      · rw [upd_n em]; exact h2 m (by omega)
    refine pw_ifc (fun c => ?_) (fun c => ?_)
    · have c := i_lt.mp c
      rw [tk, tn] at c
      refine pw_ix (fun _ _ => ?_)
      rw [h1.2 100 (by decide), hr]
      refine pw_ifc (fun d => go 1 (by rw [if_pos d]) (by omega)) (fun d => go 0 (by rw [if_neg d]) (by omega))
    · have c : ¬ (Int32.ofNat k).toInt < (Int32.ofNat n).toInt := fun z => c (i_lt.mpr z)
      rw [tk, tn] at c
      have ek : k = n := by omega
      refine pw_some ⟨h1, fun m hm => h2 m (by omega)⟩
  · rintro Z ⟨h1, h2⟩
    show dc_pw (mm_size_L77 Z 0 (Z.1 106 - 1)) _
    delta mm_size_L77
    refine pw_loop (szI M p ph n made k0) _ ⟨n, 0, rfl, by rw [← Int32.sub_eq_add_neg]; show Z.1 106 - 1 = _; rw [h1.1, hL.1.1], Nat.le_refl _, h1, fun k k2 km => ?_, by omega⟩ (szr_s hL hI hR) (fun z hz => by delta mm_size_L144; exact pw_some hz)
    have pk := (hI.2.1 k k2 km).1
    show ¬ Z.2.1 105 (ph k) = 0 ↔ _
    rw [h2 (ph k) pk]
    have nv : nvC ph k = Int32.ofNat (ph k) := by
      unfold nvC
      rw [if_neg (by omega), if_neg (by omega)]
    by_cases e : k = k0
    · rw [if_pos (by rw [← nv, e])]
      exact ⟨fun _ => Or.inl e, fun _ => by decide⟩
    · rw [if_neg (fun z => e (nvC_i hI n24 km hk (by rw [nv]; exact z)))]
      refine ⟨fun z => absurd rfl z, ?_⟩
      rintro (h | ⟨j, -, h2, h3⟩)
      · exact absurd h e
      · have := (hI.2.1 j h2.1.1 h2.1.2.1).1
        omega
end SZR
section SZW
variable {G : hg_E} {S : hg_S} {M : md_S} {oN n cap out pa : Nat} {bN : Nat → Nat} {q : rsT} {o t : Nat} {nn f st en rn ex p1 : Int32} {ta rc hd sh pg : Value}
/-- the net speaks of the reference's rows 101 to 103 and its table alone -/
theorem NLa_r {r r' : md_S} {F : Nat} (h : NLa G S r oN bN cap q n F) (h1 : r'.2.1 101 = r.2.1 101) (h2 : r'.2.1 102 = r.2.1 102) (h3 : r'.2.1 103 = r.2.1 103) (h4 : r'.2.2.2 = r.2.2.2) : NLa G S r' oN bN cap q n F := by
  obtain ⟨a1, a2, a3, a4, made, ph, hI, hR⟩ := h
  have g : mxG r r' n n := ⟨Nat.le_refl _, fun m _ => ⟨by rw [h1], by rw [h2], by rw [h3]⟩⟩
  have et : ∀ j, tbv r' j = tbv r j := fun j => by funext k; unfold tbv; rw [h4]
  refine ⟨a1, a2, a3, a4, made, ph, ⟨hI.1, fun k k2 km => ?_, hI.2.2⟩, fun j hj => ?_⟩
  · rw [h1, h2, h3]; exact hI.2.1 k k2 km
  · obtain ⟨k, k1, k2, k3⟩ := hR j hj
    exact ⟨k, k1, k2, by rw [et]; exact vr_m g _ _ _ k3⟩
theorem LYn_r {r r' : md_S} {F : Nat} (h : LYn r n F) (h0 : r'.2.1 100 = r.2.1 100) (h1 : r'.2.1 101 = r.2.1 101) (h2 : r'.2.1 102 = r.2.1 102) (h3 : r'.2.1 103 = r.2.1 103) (h4 : r'.2.2.2 = r.2.2.2) (h5 : r'.1 106 = r.1 106) : LYn r' n F := by
  obtain ⟨a1, ⟨a2, a3⟩, a4, a5⟩ := h
  have g : mxG r r' n n := ⟨Nat.le_refl _, fun m _ => ⟨by rw [h1], by rw [h2], by rw [h3]⟩⟩
  have et : ∀ j, tbv r' j = tbv r j := fun j => by funext k; unfold tbv; rw [h4]
  refine ⟨by rw [h5]; exact a1, ⟨fun m m' => by rw [h1, h2, h3]; exact a2 m m', fun m hm => ?_⟩, fun m hm => ?_, fun j hj => ?_⟩
  · obtain ⟨l, l1, l2, l3, l4, l5⟩ := a3 m hm
    have vv : ∀ x, vl r m (12 - l) x → vl r' m (12 - l) x := fun x hx => by unfold vl at hx ⊢; rw [h1]; exact hx
    exact ⟨l, l1, by rw [h1]; exact l2, by rw [h2]; exact vv _ l3, by rw [h3]; exact vv _ l4, by rw [h2, h3]; exact l5⟩
  · obtain ⟨j, d, c, j1, j2, j3, j4, j5⟩ := a4 m hm
    exact ⟨j, d, c, j1, j2, j3, by rw [et]; exact vr_m g _ _ _ j4, by rw [h1]; exact j5⟩
  · rw [et, h0]
    exact vr_m g _ _ _ (a5 j hj)
/-- size -/
theorem xl_size (he : hg_at S.1 o = some (.inr (0, enL t nn f pg rc hd sh st en rn ta (.ref oN) ex 1))) (h0 : hw S) (h : NLa G S M oN bN cap q n (out + pa + 1)) (hL : LYn M n (out + pa + 1)) (h86 : M.1 86 = 1) (h46 : M.1 46 = Int32.ofNat out) (h47 : M.1 47 = Int32.ofNat pa) {L : Nat} (hl : q.2 14 = Int32.ofNat L) (hl1 : L + 1 ≤ 100000) {r : md_S × Int32} (hq : mm_size M p1 = some r) : dc_wp (hm_SE_size G S o p1) (fun z => z.2 = r.2 ∧ hw z.1 ∧ z.1.2 = S.2 ∧ (∀ e, e < S.2.1 → e ≠ oN → (∀ i, i < 9 → e ≠ bN i) → hg_at z.1.1 e = hg_at S.1 e) ∧ ∃ q', NLa G z.1 r.1 oN bN cap q' n (out + pa + 1) ∧ (q'.2 14 = Int32.ofNat L ∨ q'.2 14 = Int32.ofNat (L + 1))) ∧ LYn r.1 n (out + pa + 1) := by
  have fr := mm_size_fr M p1 r hq
  have f1 : ∀ i, ¬ i = 105 → r.1.2.1 i = M.2.1 i := fun i hi => fr.2.1 i (by simp [hi])
  have f2 : ∀ i, ¬ i = 0 → r.1.1 i = M.1 i := fun i hi => fr.1 i (by simp [hi])
  have f3 : r.1.2.2.2 = M.2.2.2 := fr.2.2.2 rfl
  refine ⟨?_, LYn_r hL (f1 100 (by decide)) (f1 101 (by decide)) (f1 102 (by decide)) (f1 103 (by decide)) f3 (f2 106 (by decide))⟩
  have hN0 := NLa_r h (f1 101 (by decide)) (f1 102 (by decide)) (f1 103 (by decide)) f3
  obtain ⟨⟨hv, hinj⟩, hcap, ⟨h13, hF⟩, ⟨L', hL14, hLb, hb⟩, made, ph, hI, hR⟩ := id h
  have tF : (Int32.ofNat (out + pa + 1)).toInt = ((out + pa + 1 : Nat) : Int) := Int32.toInt_ofNat_of_lt (by omega)
  have tO : (Int32.ofNat out + Int32.ofNat pa).toInt = ((out + pa : Nat) : Int) := by
    rw [← Int32.ofNat_add]
    exact Int32.toInt_ofNat_of_lt (by omega)
  have eL : L' = L := ofN_j (by omega) (by omega) (by rw [← hL14, hl])
  subst eL
  have mi : ∀ i, ¬ i = 0 → (md_i M 0 0).1 i = M.1 i := fun i hi => by rw [md_i1, if_neg hi]
  delta mm_size dc_let at hq
  dsimp only at hq
  rw [if_neg (by rw [mi 86 (by decide), h86]; decide), mi 46 (by decide), mi 47 (by decide), h46, h47] at hq
  have same : r.2 = -1 → dc_wp (hm_SE_size_L33 G S o) (fun z => z.2 = r.2 ∧ hw z.1 ∧ z.1.2 = S.2 ∧ (∀ e, e < S.2.1 → e ≠ oN → (∀ i, i < 9 → e ≠ bN i) → hg_at z.1.1 e = hg_at S.1 e) ∧ ∃ q', NLa G z.1 r.1 oN bN cap q' n (out + pa + 1) ∧ (q'.2 14 = Int32.ofNat L' ∨ q'.2 14 = Int32.ofNat (L' + 1))) := fun e => by
    delta hm_SE_size_L33 hm_SE_size_L34
    exact ⟨_, rfl, e.symm, h0, rfl, fun _ _ _ _ => rfl, q, hN0, Or.inl hl⟩
  delta hm_SE_size
  refine wq_gi (x := 1) he rfl ?_
  rw [if_neg (by decide)]
  refine wq_if (fun a => ?_) (fun a => ?_)
  · rw [if_pos a] at hq
    delta mm_size_L29 at hq
    exact same (by rw [← Option.some.inj hq])
  · rw [if_neg a] at hq
    have a : ¬ p1.toInt < (0 : Int32).toInt := fun z => a (i_lt.mpr z)
    rw [il_0] at a
    refine wq_gr (x := some oN) he rfl ?_
    refine wq_gi (x := q.2 13) hv.1 rfl ?_
    rw [h13]
    refine wq_if (fun b => ?_) (fun b => ?_)
    · have b := i_lt.mp b
      rw [tF] at b
      rw [if_neg (by rw [i_lt, tO]; omega)] at hq
      obtain ⟨k0, k1, k2, k3⟩ := hR p1.toInt.toNat (by omega)
      have er := szr_w hL hI hR k1 (x1 := p1) (vr_u hL.2.1.1 _ _ _ _ (hL.2.2.2 p1.toInt.toNat (by omega)) k3) (Y := md_i M 0 0) ⟨mi 106 (by decide), fun _ _ => rfl⟩ r hq
      have ec := cnt_rc hL hI hR k1
      have er' : r.2 = Int32.ofNat (ctP (fun k => 2 ≤ k ∧ rcC (fX q 8 (fun _ => 0)) made k0 k) (k0 + 1)) := by rw [ec]; exact er
      refine wq_gr (x := some oN) he rfl ?_
      refine wq_chk hv.1 ?_
      have hN : NW G (S, oN, bN, cap) S bN cap q := ⟨⟨h0, hinj⟩, hv, fun _ _ _ _ => rfl, ⟨fun i hi => Or.inl rfl, fun i hi => rfl⟩, 0, by simp, by simp⟩
      have mc := hI.1.2.2
      have k2' : q.1 3 p1.toInt.toNat = Int32.ofNat k0 := k2
      have tk : (Int32.ofNat k0).toInt = (k0 : Int) := Int32.toInt_ofNat_of_lt (by omega)
      have tL : (Int32.ofNat (L' + 1)).toInt = ((L' + 1 : Nat) : Int) := Int32.toInt_ofNat_of_lt (by omega)
      refine wq_call (P := fun z => ∃ q', z.2 = Int32.ofNat (ctP (fun k => 2 ≤ k ∧ rcC (fX q 8 (fun _ => 0)) made k0 k) (k0 + 1)) ∧ NW G (S, oN, bN, cap) z.1 bN cap q' ∧ (∀ i, ¬ i = 8 → q'.1 i = q.1 i) ∧ q'.2 = (uC q 14 (Int32.ofNat (L' + 1))).2 ∧ ∀ k, k < cap → 0 ≤ (q'.1 8 k).toInt ∧ (q'.1 8 k).toInt ≤ ((L' + 1 : Nat) : Int)) ?_ ?_
      · delta hm_NT_multiplexersOf
        refine nw_i hN (i := 14) (by decide) (by decide) ?_
        refine nw_f hN (j := 14) (by decide) (by decide) (fun S1 N1 => ?_)
        rw [hl, ad_m (by omega)] at N1
        refine nw_g N1 (i := 8) (by decide) ?_
        refine nw_g N1 (i := 3) (by decide) ?_
        refine nw_l N1 (i := 3) (by decide) (by omega) (by show p1.toInt < ((64 : Nat) : Int); omega) ?_
        rw [show (uC q 14 (Int32.ofNat (L' + 1))).1 3 p1.toInt.toNat = Int32.ofNat k0 from k2']
        refine nw_i N1 (i := 14) (by decide) (by decide) ?_
        rw [uC_s]
        refine nw_s N1 (i := 8) (by decide) (by omega) (by show (Int32.ofNat k0).toInt < (cap : Int); omega) (fun S2 N2 => ?_)
        rw [show (Int32.ofNat k0).toInt.toNat = k0 by omega] at N2
        refine nw_g N2 (i := 3) (by decide) ?_
        refine nw_l N2 (i := 3) (by decide) (by omega) (by show p1.toInt < ((64 : Nat) : Int); omega) ?_
        rw [show (uX (uC q 14 (Int32.ofNat (L' + 1))) 8 k0 (Int32.ofNat (L' + 1))).1 3 p1.toInt.toNat = Int32.ofNat k0 from k2']
        delta hm_NT_multiplexersOf_L34
        have e8 : ∀ k, (uX (uC q 14 (Int32.ofNat (L' + 1))) 8 k0 (Int32.ofNat (L' + 1))).1 8 k = if k = k0 then Int32.ofNat (L' + 1) else q.1 8 k := fun k => by
          rw [uX_s]
          by_cases c : k = k0
          · rw [if_pos c, c, upd_s]
          · rw [if_neg c, upd_n c]; rfl
        refine wq_call (dc_itK _ (sz_s (q := q) (p := fX q 8 (fun _ => 0)) (L := L') hI (fun i hi => fX_n hi) k1 hl1) k0 (S2, 0, Int32.ofNat k0) ⟨k0, 0, _, rfl, rfl, rfl, Nat.le_refl _, N2, fun i hi => ?_, rfl, fun k hk => ?_, fun k kk2 kkm => ?_, by omega⟩) (fun z hz => by delta hm_NT_multiplexersOf_L91; exact ⟨_, rfl, hz⟩)
        · rw [uX_n hi]; rfl
        · rw [e8]
          by_cases c : k = k0
          · rw [if_pos c, tL]; omega
          · rw [if_neg c]
            have := hb k hk
            omega
        · rw [e8]
          by_cases c : k = k0
          · rw [if_pos c]; exact ⟨fun _ => Or.inl c, fun _ => rfl⟩
          · rw [if_neg c]
            constructor
            · intro z
              have z := i_eq.mp z
              rw [tL] at z
              have := hb k (by omega)
              omega
            · rintro (z | ⟨j, ⟨s, hs⟩, -, z⟩)
              · exact absurd z c
              · have := rcC_le hI s j hs
                omega
      · rintro ⟨S', v⟩ ⟨q', ev, hN', h8, hc, hb'⟩
        delta hm_SE_size_L34
        have hN' : NW G (S, oN, bN, cap) S' bN cap q' := hN'
        have e2 : S'.2 = S.2 := by
          obtain ⟨j, j1, j2⟩ := hN'.2.2.2.2
          have j1 : cap = cap * 2 ^ j := j1
          have cp : 0 < cap := by omega
          have : j = 0 := by
            cases j with
            | zero => rfl
            | succ j =>
              rw [Nat.pow_succ] at j1
              have := Nat.pow_pos (n := j) (show 0 < 2 by decide)
              have h2 : cap * 2 ≤ cap * (2 ^ j * 2) := Nat.mul_le_mul_left _ (by omega)
              omega
          subst this
          rw [j2]
          show (S.2.1 + 5 * 0, S.2.2.1 - 5 * 0, S.2.2.2 - 10 * (cap - cap)) = S.2
          rw [Nat.sub_self]
          rfl
        have ex8 : ∀ i, (fX q' 8 (fun _ => 0)).1 i = (fX q 8 (fun _ => 0)).1 i := fun i => by
          by_cases c : i = 8
          · rw [c, fX_s, fX_s]
          · rw [fX_n c, fX_n c]; exact h8 i c
        have ex1 : (fX q' 8 (fun _ => 0)).1 = (fX q 8 (fun _ => 0)).1 := funext ex8
        have c9 : ∀ i, ¬ i = 14 → q'.2 i = q.2 i := fun i hi => by rw [hc]; exact uC_n hi
        have nla : NLa G S' M oN bN cap q' n (out + pa + 1) := by
          refine ⟨⟨hN'.2.1, hinj⟩, hcap, ⟨by rw [c9 13 (by decide)]; exact h13, hF⟩, ⟨L' + 1, by rw [hc]; exact uC_s, hl1, hb'⟩, made, ph, ?_, ?_⟩
          · unfold ncI onC at hI ⊢
            rw [ex1, show (fX q' 8 (fun _ => 0)).2 9 = q.2 9 from c9 9 (by decide)]
            exact hI
          · unfold ntR at hR ⊢
            rw [h8 3 (by decide)]
            exact hR
        exact ⟨_, rfl, by rw [er']; exact ev, hN'.1.1, e2, fun e e1 e2 e3 => hN'.2.2.1 e e1 e2 e3, q', NLa_r nla (f1 101 (by decide)) (f1 102 (by decide)) (f1 103 (by decide)) f3, Or.inr (by rw [hc]; exact uC_s)⟩
    · have b : ¬ p1.toInt < (Int32.ofNat (out + pa + 1)).toInt := fun z => b (i_lt.mpr z)
      rw [tF] at b
      rw [if_pos (by rw [i_lt, tO]; omega)] at hq
      delta mm_size_L29 at hq
      exact same (by rw [← Option.some.inj hq])
end SZW
