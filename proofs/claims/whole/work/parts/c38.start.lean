/-! words that the walks use, each by its place; written by wip/gen -/
theorem w_34 : Cond.classLink "SignalEngineLaw" 8 "SignalEngine" ∈ tt := tt_of 34 (by decide +kernel) rfl
theorem w_35 : Cond.instantiable "SignalEngine" 14 ∈ tt := tt_of 35 (by decide +kernel) rfl
theorem w_36 : Cond.methodLink "SignalEngineLaw" 45 ⟨"SignalEngine", "<init>", "()V"⟩ ∈ tt := tt_of 36 (by decide +kernel) rfl
theorem w_37 : Cond.instanceMethod ⟨"SignalEngine", "<init>", "()V"⟩ ∈ tt := tt_of 37 (by decide +kernel) rfl
set_option maxRecDepth 100000 in
theorem w_38 : Cond.code ⟨"SignalEngine", "<init>", "()V"⟩ prog_1_method_1_code 1 (Option.none : Option Jvm.ClassFile.FieldType) ∈ tt := tt_of 38 rfl rfl
theorem w_1552 : Cond.classLink "SignalEngineLaw" 46 "SignalEngineModel" ∈ tt := tt_of 1552 (by decide +kernel) rfl
theorem w_1553 : Cond.instantiable "SignalEngineModel" 107 ∈ tt := tt_of 1553 (by decide +kernel) rfl
theorem w_1554 : Cond.methodLink "SignalEngineLaw" 48 ⟨"SignalEngineModel", "<init>", "()V"⟩ ∈ tt := tt_of 1554 (by decide +kernel) rfl
theorem w_1555 : Cond.instanceMethod ⟨"SignalEngineModel", "<init>", "()V"⟩ ∈ tt := tt_of 1555 (by decide +kernel) rfl
set_option maxRecDepth 100000 in
theorem w_1556 : Cond.code ⟨"SignalEngineModel", "<init>", "()V"⟩ prog_15_method_1_code 1 (Option.none : Option Jvm.ClassFile.FieldType) ∈ tt := tt_of 1556 rfl rfl
theorem nwl_8 : hg_NW "SignalEngineLaw" 8 0 14 z_SE := ⟨R_SE, F_SE, t_SE, rfl, i_SE, t_SE_ok, w_34, w_35, w_1, z_SE_ok⟩
theorem nwl_46 : hg_NW "SignalEngineLaw" 46 1 107 z_MD := ⟨R_MD, F_MD, t_MD, rfl, i_MD, t_MD_ok, w_1552, w_1553, w_2, z_MD_ok⟩
theorem cwl_45 : hg_IW "SignalEngineLaw" 45 ⟨"SignalEngine", "<init>", "()V"⟩ prog_1_method_1_code 1 0 := ⟨w_38, w_1, w_36, w_37, rfl, by decide +kernel, by decide +kernel, by decide +kernel⟩
theorem cwl_48 : hg_IW "SignalEngineLaw" 48 ⟨"SignalEngineModel", "<init>", "()V"⟩ prog_15_method_1_code 1 0 := ⟨w_1556, w_2, w_1554, w_1555, rfl, by decide +kernel, by decide +kernel, by decide +kernel⟩
/-! the law's beginning and end; the claim out of one statement on told programs -/
theorem hl_pf {wl wr : va_W} {o ci k : Nat} {fs : List Value} {v : Value} {S2 : Nat × Nat × Nat} (h1 : ∀ q ∈ wl, q.1 ≠ o) (h2 : ∀ q ∈ wr, q.1 ≠ o) (hk : k < fs.length) : hg_pf (wl ++ (o, .inr (ci, fs)) :: wr, S2) (some o) ci k v = some (wl ++ (o, .inr (ci, fs.set k v)) :: wr, S2) := by
  have ha : hg_at (wl ++ (o, (.inr (ci, fs) : va_E)) :: wr) o = some (.inr (ci, fs)) := by
    unfold hg_at
    have h3 : wl.find? (fun q => q.1 == o) = none := List.find?_eq_none.mpr (fun q hq => by simpa using h1 q hq)
    rw [List.find?_append, h3]
    simp
  have e1 : ∀ (w : va_W) (e : va_E), (∀ q ∈ w, q.1 ≠ o) → w.map (fun q => if q.1 = o then (o, e) else q) = w := by
    intro w e hw
    induction w with
    | nil => rfl
    | cons x r ih => rw [List.map_cons, if_neg (hw x List.mem_cons_self), ih (fun q hq => hw q (List.mem_cons_of_mem _ hq))]
  have hu : hg_upd (wl ++ (o, (.inr (ci, fs) : va_E)) :: wr) o (.inr (ci, fs.set k v)) = wl ++ (o, .inr (ci, fs.set k v)) :: wr := by
    unfold hg_upd
    rw [List.map_append, List.map_cons, e1 wl _ h1, e1 wr _ h2, if_pos rfl]
  unfold hg_pf
  dsimp only
  rw [ha]
  dsimp only
  rw [if_pos ⟨rfl, hk⟩, hu]
def ml_new (G : hg_E) (S : hg_S) (b : Bool) (t : Nat) (n : Int32) : Option hg_S := match b with
  | true => hg_newl G S n
  | false => hg_newa G S t n
def ml_cell (b : Bool) (c : ClassId) (N : Nat) : va_E := match b with
  | true => .inl (c, N, .inr (.inl (fun _ => 0)))
  | false => .inl (c, N, .inl (fun _ => 0))
def ml_run (G : hg_E) (o : Nat) : List (Nat × Bool × Nat × Int32 × Nat) → hg_S → Option hg_S
  | [], S => some S
  | (k, b, t, n, _) :: r, S => (ml_new G S b t n).bind fun S1 => (hg_pf S1 (some o) 1 k (va_rf (some S.2.1))).bind fun S2 => ml_run G o r S2
def ml_as (a : Nat → Nat) (ca : Nat → ClassId) : List (Nat × Bool × Nat × Int32 × Nat) → va_W
  | [] => []
  | (k, b, _, _, N) :: r => (a k, ml_cell b (ca k) N) :: ml_as a ca r
def ml_fs (a : Nat → Nat) : List (Nat × Bool × Nat × Int32 × Nat) → List Value → List Value
  | [], fs => fs
  | (k, _, _, _, _) :: r, fs => ml_fs a r (fs.set k (.ref (a k)))
def ml_sum : List (Nat × Bool × Nat × Int32 × Nat) → Nat
  | [] => 0
  | (_, _, _, _, N) :: r => N + ml_sum r
def ml_ad (a : Nat → Nat) (ca : Nat → ClassId) (G : hg_E) (o : Nat) : Nat → List (Nat × Bool × Nat × Int32 × Nat) → Prop
  | _, [] => True
  | i, (k, b, t, _, _) :: r => (a k = o + i ∧ ca k = G.1 t ∧ (b = true → t = 4)) ∧ ml_ad a ca G o (i + 1) r
theorem ml_run_eq (G : hg_E) (o : Nat) (a : Nat → Nat) (ca : Nat → ClassId) : ∀ (L : List (Nat × Bool × Nat × Int32 × Nat)) (i : Nat) (fs : List Value) (as wl : va_W) (c t : Nat), 1 ≤ i → (∀ q ∈ wl, q.1 ≠ o) → (∀ q ∈ as, q.1 ≠ o) → (∀ x ∈ L, x.1 < fs.length ∧ ¬ x.2.2.2.1 < 0 ∧ x.2.2.2.1.toNatClampNeg = x.2.2.2.2 ∧ x.2.2.2.2 * 8 ≤ 536870912) → ml_ad a ca G o i L → L.length ≤ c → ml_sum L ≤ t →
    ml_run G o L (wl ++ (o, .inr (1, fs)) :: as, o + i, c, t) = some (wl ++ (o, .inr (1, ml_fs a L fs)) :: (as ++ ml_as a ca L), o + i + L.length, c - L.length, t - ml_sum L) := by
  intro L
  induction L with
  | nil =>
    intro i fs as wl c t _ _ _ _ _ _ _
    simp [ml_run, ml_fs, ml_as, ml_sum]
  | cons x r ih =>
    intro i fs as wl c t hi h1 h2 h3 had h4 h5
    obtain ⟨k, b, ty, n, N⟩ := x
    have h6 := h3 _ List.mem_cons_self
    have hk : k < fs.length := h6.1
    have hn : ¬ n < 0 := h6.2.1
    have hN : n.toNatClampNeg = N := h6.2.2.1
    have hm : N * 8 ≤ 536870912 := h6.2.2.2
    have had : (a k = o + i ∧ ca k = G.1 ty ∧ (b = true → ty = 4)) ∧ ml_ad a ca G o (i + 1) r := had
    obtain ⟨⟨g1, g2, g3⟩, g4⟩ := had
    have h4 : r.length + 1 ≤ c := h4
    have h5 : N + ml_sum r ≤ t := h5
    have hnew : ml_new G (wl ++ (o, .inr (1, fs)) :: as, o + i, c, t) b ty n = some ((wl ++ (o, .inr (1, fs)) :: as) ++ [(o + i, ml_cell b (ca k) N)], o + i + 1, c - 1, t - N) := by
      cases b
      · show hg_newa _ _ _ _ = _
        unfold hg_newa
        rw [hN, if_pos ⟨hn, (by show 1 ≤ c; omega), (by show N ≤ t; omega), by omega⟩, g2]
        rfl
      · show hg_newl _ _ _ = _
        unfold hg_newl
        rw [hN, if_pos ⟨hn, (by show 1 ≤ c; omega), (by show N ≤ t; omega), hm⟩, g2, g3 rfl]
        rfl
    have hass : (wl ++ (o, (.inr (1, fs) : va_E)) :: as) ++ [(o + i, ml_cell b (ca k) N)] = wl ++ (o, .inr (1, fs)) :: (as ++ [(o + i, ml_cell b (ca k) N)]) := by simp
    have h7 : ∀ q ∈ as ++ [(o + i, ml_cell b (ca k) N)], q.1 ≠ o := by
      intro q hq
      rcases List.mem_append.mp hq with h | h
      · exact h2 q h
      · rw [List.mem_singleton.mp h]
        show o + i ≠ o
        omega
    have h8 := ih (i + 1) (fs.set k (.ref (o + i))) (as ++ [(o + i, ml_cell b (ca k) N)]) wl (c - 1) (t - N) (by omega) h1 h7 (fun x hx => by rw [List.length_set]; exact h3 x (List.mem_cons_of_mem _ hx)) g4 (by omega) (by omega)
    show (ml_new G (wl ++ (o, .inr (1, fs)) :: as, o + i, c, t) b ty n).bind (fun S1 => (hg_pf S1 (some o) 1 k (va_rf (some (o + i)))).bind fun S2 => ml_run G o r S2) = _
    rw [hnew, Option.bind_some, hass, hl_pf h1 h7 hk, Option.bind_some]
    refine (show ml_run G o r _ = _ from h8).trans ?_
    show some (wl ++ (o, .inr (1, ml_fs a r (fs.set k (.ref (o + i))))) :: ((as ++ [(o + i, ml_cell b (ca k) N)]) ++ ml_as a ca r), o + (i + 1) + r.length, c - 1 - r.length, t - N - ml_sum r) = some (wl ++ (o, .inr (1, ml_fs a r (fs.set k (.ref (a k))))) :: (as ++ (a k, ml_cell b (ca k) N) :: ml_as a ca r), o + i + (r.length + 1), c - (r.length + 1), t - (N + ml_sum r))
    rw [g1, show (as ++ [(o + i, ml_cell b (ca k) N)]) ++ ml_as a ca r = as ++ (o + i, ml_cell b (ca k) N) :: ml_as a ca r by simp, show o + (i + 1) + r.length = o + i + (r.length + 1) by omega, show c - 1 - r.length = c - (r.length + 1) by omega, show t - N - ml_sum r = t - (N + ml_sum r) by omega]
def ml_L : List (Nat × Bool × Nat × Int32 × Nat) := [(1, false, 1, 32768, 32768), (21, false, 0, 16400, 16400), (22, false, 0, 16400, 16400), (23, false, 0, 16400, 16400), (24, false, 0, 32, 32), (25, false, 0, 32, 32), (26, false, 0, 32, 32), (30, false, 0, 1200, 1200), (31, false, 0, 1200, 1200), (32, false, 0, 1200, 1200), (33, false, 0, 1200, 1200), (34, false, 0, 1200, 1200), (35, false, 0, 1200, 1200), (36, false, 0, 1000, 1000), (37, false, 0, 1000, 1000), (38, false, 0, 1000, 1000), (39, false, 0, 1208, 1208), (40, false, 0, 1208, 1208), (51, false, 0, 1200, 1200), (52, false, 0, 1200, 1200), (53, false, 0, 1200, 1200), (54, false, 0, 1200, 1200), (55, false, 0, 1200, 1200), (56, false, 0, 1200, 1200), (57, false, 0, 1200, 1200), (58, false, 0, 1200, 1200), (59, false, 0, 1200, 1200), (60, false, 0, 1200, 1200), (61, false, 0, 1200, 1200), (62, false, 0, 1201, 1201), (63, false, 0, 1000, 1000), (64, false, 0, 1000, 1000), (65, false, 0, 1000, 1000), (66, false, 0, 1000, 1000), (67, false, 0, 1000, 1000), (68, false, 1, 12400, 12400), (69, false, 0, 400, 400), (70, false, 0, 1662, 1662), (71, false, 2, 1662, 1662), (72, false, 2, 1662, 1662), (73, false, 0, 400, 400), (74, false, 2, 200, 200), (75, false, 2, 200, 200), (76, false, 0, 201, 201), (84, false, 0, 62, 62), (88, false, 0, 257, 257), (89, false, 0, 257, 257), (90, false, 0, 257, 257), (91, false, 0, 257, 257), (92, false, 0, 4112, 4112), (93, false, 0, 4112, 4112), (94, false, 2, 66049, 66049), (95, false, 0, 33000, 33000), (96, false, 0, 4112, 4112), (97, false, 0, 4112, 4112), (98, true, 4, 8192, 8192), (99, false, 0, 8192, 8192), (100, false, 0, 40, 40), (101, false, 0, 24000, 24000), (102, false, 0, 24000, 24000), (103, false, 0, 24000, 24000), (104, false, 0, 65536, 65536), (105, false, 2, 24000, 24000)]
def lw_pl : List Nat := [0, 1, 0, 0, 0, 0, 0, 0, 0, 0, 0, 0, 0, 0, 0, 0, 0, 0, 0, 0, 0, 2, 3, 4, 5, 6, 7, 0, 0, 0, 8, 9, 10, 11, 12, 13, 14, 15, 16, 17, 18, 0, 0, 0, 0, 0, 0, 0, 0, 0, 0, 19, 20, 21, 22, 23, 24, 25, 26, 27, 28, 29, 30, 31, 32, 33, 34, 35, 36, 37, 38, 39, 40, 41, 42, 43, 44, 0, 0, 0, 0, 0, 0, 0, 45, 0, 0, 0, 46, 47, 48, 49, 50, 51, 52, 53, 54, 55, 56, 57, 58, 59, 60, 61, 62, 63, 0]
def lw_tl : List Nat := [0, 1, 0, 0, 0, 0, 0, 0, 0, 0, 0, 0, 0, 0, 0, 0, 0, 0, 0, 0, 0, 0, 0, 0, 0, 0, 0, 0, 0, 0, 0, 0, 0, 0, 0, 0, 0, 0, 0, 0, 0, 0, 0, 0, 0, 0, 0, 0, 0, 0, 0, 0, 0, 0, 0, 0, 0, 0, 0, 0, 0, 0, 0, 0, 0, 0, 0, 0, 1, 0, 0, 2, 2, 0, 2, 2, 0, 0, 0, 0, 0, 0, 0, 0, 0, 0, 0, 0, 0, 0, 0, 0, 0, 0, 2, 0, 0, 0, 4, 0, 0, 0, 0, 0, 0, 2, 0]
def lw_a (o : Nat) : Nat → Nat := fun k => o + lw_pl.getD k 0
def lw_ca (g : Nat → ClassId) : Nat → ClassId := fun k => g (lw_tl.getD k 0)
def lw_M0 : md_S := (fun _ => 0, fun _ _ => 0, 0, fun _ => 0)
theorem lw_KM {D : va_G} {g : Nat → ClassId} {s : State} (h : va_K D cl (hg_T g) s) : va_K D cl (md_T (lw_ca g)) s := by
  have m_0 : ((g 0, .int) : ClassId × FieldType) ∈ hg_T g := by simp [hg_T]
  have m_1 : ((g 1, .byte) : ClassId × FieldType) ∈ hg_T g := by simp [hg_T]
  have m_2 : ((g 2, .boolean) : ClassId × FieldType) ∈ hg_T g := by simp [hg_T]
  have m_4 : ((g 4, .long) : ClassId × FieldType) ∈ hg_T g := by simp [hg_T]
  have hm : ∀ q ∈ md_T (lw_ca g), q ∈ hg_T g := List.forall_mem_cons.mpr ⟨m_1, List.forall_mem_cons.mpr ⟨m_0, List.forall_mem_cons.mpr ⟨m_0, List.forall_mem_cons.mpr ⟨m_0, List.forall_mem_cons.mpr ⟨m_0, List.forall_mem_cons.mpr ⟨m_0, List.forall_mem_cons.mpr ⟨m_0, List.forall_mem_cons.mpr ⟨m_0, List.forall_mem_cons.mpr ⟨m_0, List.forall_mem_cons.mpr ⟨m_0, List.forall_mem_cons.mpr ⟨m_0, List.forall_mem_cons.mpr ⟨m_0, List.forall_mem_cons.mpr ⟨m_0, List.forall_mem_cons.mpr ⟨m_0, List.forall_mem_cons.mpr ⟨m_0, List.forall_mem_cons.mpr ⟨m_0, List.forall_mem_cons.mpr ⟨m_0, List.forall_mem_cons.mpr ⟨m_0, List.forall_mem_cons.mpr ⟨m_0, List.forall_mem_cons.mpr ⟨m_0, List.forall_mem_cons.mpr ⟨m_0, List.forall_mem_cons.mpr ⟨m_0, List.forall_mem_cons.mpr ⟨m_0, List.forall_mem_cons.mpr ⟨m_0, List.forall_mem_cons.mpr ⟨m_0, List.forall_mem_cons.mpr ⟨m_0, List.forall_mem_cons.mpr ⟨m_0, List.forall_mem_cons.mpr ⟨m_0, List.forall_mem_cons.mpr ⟨m_0, List.forall_mem_cons.mpr ⟨m_0, List.forall_mem_cons.mpr ⟨m_0, List.forall_mem_cons.mpr ⟨m_0, List.forall_mem_cons.mpr ⟨m_0, List.forall_mem_cons.mpr ⟨m_0, List.forall_mem_cons.mpr ⟨m_0, List.forall_mem_cons.mpr ⟨m_1, List.forall_mem_cons.mpr ⟨m_0, List.forall_mem_cons.mpr ⟨m_0, List.forall_mem_cons.mpr ⟨m_2, List.forall_mem_cons.mpr ⟨m_2, List.forall_mem_cons.mpr ⟨m_0, List.forall_mem_cons.mpr ⟨m_2, List.forall_mem_cons.mpr ⟨m_2, List.forall_mem_cons.mpr ⟨m_0, List.forall_mem_cons.mpr ⟨m_0, List.forall_mem_cons.mpr ⟨m_0, List.forall_mem_cons.mpr ⟨m_0, List.forall_mem_cons.mpr ⟨m_0, List.forall_mem_cons.mpr ⟨m_0, List.forall_mem_cons.mpr ⟨m_0, List.forall_mem_cons.mpr ⟨m_0, List.forall_mem_cons.mpr ⟨m_2, List.forall_mem_cons.mpr ⟨m_0, List.forall_mem_cons.mpr ⟨m_0, List.forall_mem_cons.mpr ⟨m_0, List.forall_mem_cons.mpr ⟨m_4, List.forall_mem_cons.mpr ⟨m_0, List.forall_mem_cons.mpr ⟨m_0, List.forall_mem_cons.mpr ⟨m_0, List.forall_mem_cons.mpr ⟨m_0, List.forall_mem_cons.mpr ⟨m_0, List.forall_mem_cons.mpr ⟨m_0, List.forall_mem_cons.mpr ⟨m_2, fun _ h => absurd h List.not_mem_nil⟩⟩⟩⟩⟩⟩⟩⟩⟩⟩⟩⟩⟩⟩⟩⟩⟩⟩⟩⟩⟩⟩⟩⟩⟩⟩⟩⟩⟩⟩⟩⟩⟩⟩⟩⟩⟩⟩⟩⟩⟩⟩⟩⟩⟩⟩⟩⟩⟩⟩⟩⟩⟩⟩⟩⟩⟩⟩⟩⟩⟩⟩⟩
  refine ⟨h.1, fun k q hq => ?_⟩
  obtain ⟨k2, hk2⟩ := List.mem_iff_getElem?.mp (hm q (List.mem_of_getElem? hq))
  exact h.2 k2 q hk2
set_option maxRecDepth 100000 in
theorem ml_init (G : hg_E) (S : hg_S) (o : Nat) : hm_MD_init G S o = ml_run G o ml_L S := rfl
set_option maxRecDepth 100000 in
theorem ml_ok : ∀ x ∈ ml_L, x.1 < z_MD.length ∧ ¬ x.2.2.2.1 < 0 ∧ x.2.2.2.1.toNatClampNeg = x.2.2.2.2 ∧ x.2.2.2.2 * 8 ≤ 536870912 := by decide +kernel
def ml_pb : Nat → List (Nat × Bool × Nat × Int32 × Nat) → Bool
  | _, [] => true
  | i, (k, b, t, _, _) :: r => (lw_pl.getD k 0 == i && (lw_tl.getD k 0 == t && (!b || t == 4))) && ml_pb (i + 1) r
theorem ml_pb_ad (G : hg_E) (o : Nat) : ∀ (L : List (Nat × Bool × Nat × Int32 × Nat)) (i : Nat), ml_pb i L = true → ml_ad (lw_a o) (lw_ca G.1) G o i L
  | [], _, _ => trivial
  | (k, b, t, n, N) :: r, i, h => by
    have h : ((lw_pl.getD k 0 == i && (lw_tl.getD k 0 == t && (!b || t == 4))) && ml_pb (i + 1) r) = true := h
    simp only [Bool.and_eq_true, Bool.or_eq_true, beq_iff_eq, Bool.not_eq_true'] at h
    obtain ⟨⟨h1, h2, h3⟩, h4⟩ := h
    refine ⟨⟨?_, ?_, fun hb => ?_⟩, ml_pb_ad G o r (i + 1) h4⟩
    · show o + lw_pl.getD k 0 = o + i
      rw [h1]
    · show G.1 (lw_tl.getD k 0) = G.1 t
      rw [h2]
    · rcases h3 with h3 | h3
      · rw [hb] at h3; cases h3
      · exact h3
set_option maxRecDepth 100000 in
theorem ml_pb_ok : ml_pb 1 ml_L = true := by decide +kernel
set_option maxRecDepth 100000 in
theorem ml_tot : ml_sum ml_L = 427415 ∧ ml_L.length = 63 := by decide +kernel
set_option maxRecDepth 100000 in
theorem ml_W1 : ml_fs id ml_L z_MD = md_fs id lw_M0 := by decide +kernel
def ml_ren (a : Nat → Nat) : Value → Value
  | .ref k => .ref (a k)
  | v => v
theorem ml_fs_ren (a : Nat → Nat) : ∀ (L : List (Nat × Bool × Nat × Int32 × Nat)) (fs : List Value), ml_fs a L (fs.map (ml_ren a)) = (ml_fs id L fs).map (ml_ren a)
  | [], fs => rfl
  | (k, b, t, n, N) :: r, fs => by
    show ml_fs a r ((fs.map (ml_ren a)).set k (.ref (a k))) = (ml_fs id r (fs.set k (.ref k))).map (ml_ren a)
    rw [← ml_fs_ren a r, List.map_set]
    rfl
theorem ml_z (a : Nat → Nat) : z_MD.map (ml_ren a) = z_MD := rfl
theorem ml_m (a : Nat → Nat) : (md_fs id lw_M0).map (ml_ren a) = md_fs a lw_M0 := rfl
theorem ml_W2 (a : Nat → Nat) : ml_fs a ml_L z_MD = md_fs a lw_M0 := by
  rw [← ml_m a, ← ml_W1, ← ml_fs_ren, ml_z]
set_option maxRecDepth 100000 in
theorem ml_W3 (o : Nat) (a : Nat → Nat) (ca : Nat → ClassId) : (o, .inr (1, md_fs a lw_M0)) :: ml_as a ca ml_L = md_W o a ca lw_M0 := rfl
theorem ml_W (o : Nat) (a : Nat → Nat) (ca : Nat → ClassId) : ((o, .inr (1, ml_fs a ml_L z_MD)) :: ml_as a ca ml_L : va_W) = md_W o a ca lw_M0 := by
  rw [ml_W2]
  exact ml_W3 o a ca
def lw_w0 (G : hg_E) (sz : Nat) : va_W := [(sz, .inr (0, z_SE.set 0 (.ref (sz + 1)))), (sz + 1, .inl (G.1 1, 80, .inl (fun _ => 0)))]
def lw_S0 (G : hg_E) (sz : Nat) : hg_S := (lw_w0 G sz, sz + 67, 600957, 6865417)
noncomputable def lw_begin (G : hg_E) (sz : Nat) : Option (Nat × Nat × hg_S) :=
  (hg_new ([], sz, 601024, 7293034) 0 14 z_SE).bind fun S1 => (hm_SE_init G S1 sz).bind fun S2 => (hg_new S2 1 107 z_MD).bind fun S3 => (hm_MD_init G S3 S2.2.1).bind fun S4 => (hg_newl G S4 1).bind fun S5 => some (S2.2.1, S4.2.1, S5)
set_option maxRecDepth 100000 in
theorem lw_begin_eq (G : hg_E) (sz : Nat) : lw_begin G sz = some (sz + 2, sz + 66, ((lw_w0 G sz ++ md_W (sz + 2) (lw_a (sz + 2)) (lw_ca G.1) lw_M0) ++ [lw_o G (sz + 66) 0], (lw_S0 G sz).2)) := by
  have e1 : hg_new ([], sz, 601024, 7293034) 0 14 z_SE = some ([(sz, .inr (0, z_SE))], sz + 1, 601024 - 1, 7293034 - 14) := by
    unfold hg_new
    rw [if_pos (show 1 ≤ 601024 ∧ 14 ≤ 7293034 by decide)]
    rfl
  have e2 : hg_newa G ([(sz, .inr (0, z_SE))], sz + 1, 601024 - 1, 7293034 - 14) 1 80 = some ([] ++ (sz, .inr (0, z_SE)) :: [(sz + 1, .inl (G.1 1, 80, .inl (fun _ => 0)))], sz + 2, 601024 - 2, 7293034 - 94) := by
    unfold hg_newa
    rw [if_pos ⟨by decide +kernel, (show 1 ≤ 601024 - 1 by decide), (show (80 : Int32).toNatClampNeg ≤ 7293034 - 14 by decide +kernel), by decide +kernel⟩]
    rfl
  have e3 : hg_pf ([] ++ (sz, .inr (0, z_SE)) :: [(sz + 1, .inl (G.1 1, 80, .inl (fun _ => 0)))], sz + 2, 601024 - 2, 7293034 - 94) (some sz) 0 0 (.ref (sz + 1)) = some ([] ++ (sz, .inr (0, z_SE.set 0 (.ref (sz + 1)))) :: [(sz + 1, .inl (G.1 1, 80, .inl (fun _ => 0)))], sz + 2, 601024 - 2, 7293034 - 94) := hl_pf (fun q hq => absurd hq List.not_mem_nil) (fun q hq => by rw [List.mem_singleton.mp hq]; show sz + 1 ≠ sz; omega) (by decide)
  have e4 : hm_SE_init G ([(sz, .inr (0, z_SE))], sz + 1, 601024 - 1, 7293034 - 14) sz = some (lw_w0 G sz, sz + 2, 601024 - 2, 7293034 - 94) := by
    unfold hm_SE_init
    rw [e2, Option.bind_some]
    exact (congrArg (fun z => Option.bind z (fun S2 => some S2)) e3)
  have e5 : hg_new (lw_w0 G sz, sz + 2, 601024 - 2, 7293034 - 94) 1 107 z_MD = some (lw_w0 G sz ++ (sz + 2, .inr (1, z_MD)) :: [], sz + 2 + 1, 601024 - 3, 7293034 - 201) := by
    unfold hg_new
    rw [if_pos (show 1 ≤ 601024 - 2 ∧ 107 ≤ 7293034 - 94 by decide)]
    rfl
  have e6 : hm_MD_init G (lw_w0 G sz ++ (sz + 2, .inr (1, z_MD)) :: [], sz + 2 + 1, 601024 - 3, 7293034 - 201) (sz + 2) = some (lw_w0 G sz ++ md_W (sz + 2) (lw_a (sz + 2)) (lw_ca G.1) lw_M0, sz + 66, 601024 - 66, 7293034 - 427616) := by
    rw [ml_init, ml_run_eq G (sz + 2) (lw_a (sz + 2)) (lw_ca G.1) ml_L 1 z_MD [] (lw_w0 G sz) _ _ (Nat.le_refl 1) (fun q hq => ?_) (fun q hq => absurd hq List.not_mem_nil) ml_ok (ml_pb_ad G (sz + 2) ml_L 1 ml_pb_ok) (by rw [ml_tot.2]; decide) (by rw [ml_tot.1]; decide), ml_tot.1, ml_tot.2]
    · show some (lw_w0 G sz ++ ((sz + 2, .inr (1, ml_fs (lw_a (sz + 2)) ml_L z_MD)) :: ml_as (lw_a (sz + 2)) (lw_ca G.1) ml_L : va_W), sz + 2 + 1 + 63, 601024 - 3 - 63, 7293034 - 201 - 427415) = _
      rw [ml_W]
    · rcases List.mem_cons.mp hq with h | h
      · rw [h]; show sz ≠ sz + 2; omega
      · rw [List.mem_singleton.mp h]; show sz + 1 ≠ sz + 2; omega
  have e7 : hg_newl G (lw_w0 G sz ++ md_W (sz + 2) (lw_a (sz + 2)) (lw_ca G.1) lw_M0, sz + 66, 601024 - 66, 7293034 - 427616) 1 = some ((lw_w0 G sz ++ md_W (sz + 2) (lw_a (sz + 2)) (lw_ca G.1) lw_M0) ++ [lw_o G (sz + 66) 0], (lw_S0 G sz).2) := by
    unfold hg_newl
    rw [if_pos ⟨by decide +kernel, (show 1 ≤ 601024 - 66 by decide), (show (1 : Int32).toNatClampNeg ≤ 7293034 - 427616 by decide +kernel), by decide +kernel⟩]
    rfl
  unfold lw_begin
  rw [e1, Option.bind_some, e4, Option.bind_some, e5, Option.bind_some]
  show (hm_MD_init G _ (sz + 2)).bind _ = _
  rw [e6, Option.bind_some, e7, Option.bind_some]
section LWS
variable {X : dc_X} {l : Launch} {D : va_G} {G : hg_E}
theorem hl_swap {R : Room} {nL pc : Nat} {lv : List (Nat × Value)} {st : List Value} {a b c : va_W} {S2 : Nat × Nat × Nat} (kk : hg_G X l R D nL ((a ++ c) ++ b, S2) pc lv st) : hg_G X l R D nL ((a ++ b) ++ c, S2) pc lv st := by
  obtain ⟨p, e, s, m, args, below, meth, c, Q, A⟩ := X
  intro H locs ls hh hl
  obtain ⟨h1, h2, h3⟩ := hh
  exact kk H locs ls ⟨va_P.swap h1, va_D.swap h2, h3⟩ hl
set_option maxHeartbeats 4000000 in
set_option maxRecDepth 100000 in
theorem lw_start {sz sb : Nat} (hC : hg_K X D G code 8 "SignalEngineLaw") (kk : hg_G X l room_1 D 8 (lw_W G (sz + 66) (sz + 2) (lw_a (sz + 2)) (lw_ca G.1) (lw_S0 G sz) 0 lw_M0) 23 [(0, va_rf (some sb)), (1, va_rf (some sz)), (2, va_rf (some (sz + 2))), (3, va_rf (some (sz + 66))), (4, .int 0)] []) : hg_G X l room_1 D 8 ([], sz, 601024, 7293034) 0 [(0, va_rf (some sb))] [] := by
  have h : dc_wp (lw_begin G sz) (fun q => q = (sz + 2, sz + 66, ((lw_w0 G sz ++ md_W (sz + 2) (lw_a (sz + 2)) (lw_ca G.1) lw_M0) ++ [lw_o G (sz + 66) 0], (lw_S0 G sz).2))) := ⟨_, lw_begin_eq G sz, rfl⟩
  delta lw_begin at h
  refine hg_rnew (pc := 0) hC nwl_8 (show decode code 0 = .ok (.new 8, 3) by decide +kernel) h ?_
  intro S1 h
  refine hg_dup (pc := 3) hC (show decode code 3 = .ok (.dup, 1) by decide +kernel) rfl ?_
  refine hg_kIv (pc := 4) (b := sz) (r := some sz) (As := []) (rest := [va_rf (some sz)]) (so := fun q => q) hC cwl_45 (fun q hq => hm_SE_init_ok l D G S1 sz q hq) (Nat.le_of_ble_eq_true rfl) (Nat.le_of_ble_eq_true rfl) rfl rfl (Nat.le_of_ble_eq_true rfl) (show decode code 4 = .ok (.invokespecial 45, 3) by decide +kernel) h ?_
  intro S2 h
  refine hg_astoren (pc := 7) (j := 1) (i := 1) (r := some sz) (lv' := [(1, va_rf (some sz)), (0, va_rf (some sb))]) hC rfl (Nat.le_of_ble_eq_true rfl) rfl (show decode code 7 = .ok (.astore_n 1, 1) by decide +kernel) ?_
  refine hg_rnew (pc := 8) hC nwl_46 (show decode code 8 = .ok (.new 46, 3) by decide +kernel) h ?_
  intro S3 h
  refine hg_dup (pc := 11) hC (show decode code 11 = .ok (.dup, 1) by decide +kernel) rfl ?_
  refine hg_kIv (pc := 12) (b := S2.2.1) (r := some S2.2.1) (As := []) (rest := [va_rf (some S2.2.1)]) (so := fun q => q) hC cwl_48 (fun q hq => hm_MD_init_ok l D G S3 S2.2.1 q hq) (Nat.le_of_ble_eq_true rfl) (Nat.le_of_ble_eq_true rfl) rfl rfl (Nat.le_of_ble_eq_true rfl) (show decode code 12 = .ok (.invokespecial 48, 3) by decide +kernel) h ?_
  intro S4 h
  refine hg_astoren (pc := 15) (j := 2) (i := 2) (r := some S2.2.1) (lv' := [(2, va_rf (some S2.2.1)), (1, va_rf (some sz)), (0, va_rf (some sb))]) hC rfl (Nat.le_of_ble_eq_true rfl) rfl (show decode code 15 = .ok (.astore_n 2, 1) by decide +kernel) ?_
  refine hg_iconst (pc := 16) (v := 1) hC (show decode code 16 = .ok (.iconst 1, 1) by decide +kernel) (by decide +kernel) ?_
  refine hg_rnewl (pc := 17) hC w_1884 (show decode code 17 = .ok (.newarray .long, 2) by decide +kernel) h ?_
  intro S5 h
  refine hg_astoren (pc := 19) (j := 3) (i := 3) (r := some S4.2.1) (lv' := [(3, va_rf (some S4.2.1)), (2, va_rf (some S2.2.1)), (1, va_rf (some sz)), (0, va_rf (some sb))]) hC rfl (Nat.le_of_ble_eq_true rfl) rfl (show decode code 19 = .ok (.astore_n 3, 1) by decide +kernel) ?_
  refine hg_iconst (pc := 20) (v := 0) hC (show decode code 20 = .ok (.iconst 0, 1) by decide +kernel) (by decide +kernel) ?_
  refine hg_istore (pc := 21) (i := 4) (lv' := [(4, .int 0), (3, va_rf (some S4.2.1)), (2, va_rf (some S2.2.1)), (1, va_rf (some sz)), (0, va_rf (some sb))]) hC (Nat.le_of_ble_eq_true rfl) rfl (show decode code 21 = .ok (.istore 4, 2) by decide +kernel) ?_
  have h := dc_some h
  injection h with h1 h
  injection h with h2 h3
  rw [h1, h2, h3]
  refine hg_sub [4, 3, 2, 1, 0] rfl (hl_swap ?_)
  have e : (((lw_w0 G sz ++ [lw_o G (sz + 66) 0]) ++ md_W (sz + 2) (lw_a (sz + 2)) (lw_ca G.1) lw_M0, (lw_S0 G sz).2) : hg_S) = lw_W G (sz + 66) (sz + 2) (lw_a (sz + 2)) (lw_ca G.1) (lw_S0 G sz) 0 lw_M0 := by
    show _ = (((lw_S0 G sz).1 ++ (lw_o G (sz + 66) 0 :: md_W (sz + 2) (lw_a (sz + 2)) (lw_ca G.1) lw_M0), (lw_S0 G sz).2) : hg_S)
    rw [List.append_assoc]
    rfl
  exact hl_w e kk
end LWS
/-- where the constants lie -/
def lw_ok (G : hg_E) (sz : Nat) : Prop := (∀ i j, i < 33 → j < 33 → G.2.1 i = G.2.1 j → i = j) ∧ (∀ i, i < 33 → G.2.1 i < sz) ∧ G.2.2.1 < sz ∧ (∀ j, j < 5 → G.2.2.2 j < sz) ∧ (∀ j, j < 33 → G.2.2.2 (10 + j) < sz ∧ G.2.2.2 (50 + j) < sz) ∧ (∀ i j, i < 33 → j < 33 → G.2.2.2 (10 + i) = G.2.2.2 (10 + j) → G.2.2.2 (50 + i) = G.2.2.2 (50 + j)) ∧ ∀ i j, i < 33 → j < 33 → G.2.2.2 (50 + i) = G.2.2.2 (50 + j) → hk_tx.getD i [] = hk_tx.getD j []
theorem lw_okE {G : hg_E} {s : State} (h : hg_env G (fun q : Nat => s.heap.size ≤ q) s s.heap) : lw_ok G s.heap.size := by
  obtain ⟨⟨-, -, ⟨h1, h2⟩, h3⟩, k1, ⟨-, k2⟩, ⟨-, -, k3, -⟩, k4⟩ := h
  have lt : ∀ {ty : FieldType} {t N : Nat} {f : Nat → Value}, va_T ty t N f (fun q : Nat => s.heap.size ≤ q) s s.heap → t < s.heap.size := by
    intro ty t N f h
    obtain ⟨cell, -, -, -, -, -, -, h7⟩ := h
    exact Nat.not_le.mp h7
  have lo : ∀ {E : String} {t : Nat}, va_O E t (fun q : Nat => s.heap.size ≤ q) s s.heap → t < s.heap.size := by
    intro E t h
    obtain ⟨cell, -, -, -, h7⟩ := h
    exact Nat.not_le.mp h7
  refine ⟨h2, fun i hi => lo (h1 i hi).2.1, lt k3, fun j hj => ?_, fun j hj => ⟨lo (k4 j hj).2.1, lt (k4 j hj).2.2.2.2⟩, fun i j hi hj e => ?_, fun i j hi hj e => ?_⟩
  by_cases h4 : j < 4
  · exact lt (k1 j h4).2
  · have : j = 4 := by omega
    subst this
    exact lt k2
  · obtain ⟨cf, k, fi, f, cell, h1, h2, h3, h4, h5, h6⟩ := (k4 i hi).2.2.1
    obtain ⟨cf', k', fi', f', cell', h1', h2', h3', h4', h5', h6'⟩ := (k4 j hj).2.2.1
    cases h1.symm.trans h1'
    rw [← e] at h3'
    cases h3.symm.trans h3'
    have h7 := h5.symm.trans h5'
    injection h7 with h8
    injection h8
  · obtain ⟨c1, a1, -, -, a4, a5, a6, -⟩ := (k4 i hi).2.2.2.2
    obtain ⟨c2, b1, -, -, b4, b5, b6, -⟩ := (k4 j hj).2.2.2.2
    rw [← e] at b1
    cases a1.symm.trans b1
    have hl : (hk_tx.getD i []).length = (hk_tx.getD j []).length := by
      have h7 := congrArg Int32.toInt (a5.symm.trans b5)
      rw [Int32.toInt_ofNat_of_lt (hk_tx_lt i hi), Int32.toInt_ofNat_of_lt (hk_tx_lt j hj)] at h7
      omega
    apply List.ext_getElem?
    intro m
    by_cases hm : m < (hk_tx.getD i []).length
    · have hm2 : m < (hk_tx.getD j []).length := by omega
      have h7 := (a6 m hm).symm.trans (b6 m hm2)
      injection h7 with h8
      injection h8 with h9
      have y1 : ∀ (l : List Int32) (m : Nat) (hm : m < l.length), l.getD m 0 = l[m] := fun l m hm => by
        show (l[m]?).getD 0 = l[m]
        rw [List.getElem?_eq_getElem hm]; rfl
      rw [y1 _ _ hm, y1 _ _ hm2] at h9
      rw [List.getElem?_eq_getElem hm, List.getElem?_eq_getElem hm2, h9]
    · rw [List.getElem?_eq_none (by omega), List.getElem?_eq_none (by omega)]
/-- what is left to show: the class's told programs and the reference's come to their ends in the law's loop, with the same answers -/
def lw_goal : Prop := ∀ (G : hg_E) (sz L : Nat) (xs : Nat → Int32), lw_ok G sz → L ≤ 3072 → dc_wp (dc_it (lw_lp G xs L sz) (lw_S0 G sz, 0, lw_M0, 0)) (fun _ => True)
set_option maxHeartbeats 4000000 in
set_option maxRecDepth 100000 in
/-- the law, from its entry -/
theorem lw_enter (goal : lw_goal) {p : Program} {e : Env} {s : State} {m : MethodId} {below : List Frame} {meth : Method} {c : Code} (l : Launch) (hlt : l.stackTraces = false) {b L : Nat} {xs : Nat → Int32} (hL : L ≤ 3072) (C0 : lw_At p s m meth c b L xs) : W p l e room_1 s m #[Value.ref b] below meth c s.heap [] 0 0 (lw_Z below #[Value.ref b] s) (entryFrame m ([Value.ref b] : List Value).toArray 8) := by
  obtain ⟨hx, hb, hr, hml, hown, hts0, hX, hbl, hlocks, hgv⟩ := id C0
  have hts : ∀ w ∈ tt, w.before #[Value.ref b] s = true := fun w h => hts0 w (tt_tbl w h)
  have hown : s.vm.findClass "SignalEngineLaw" = some m.cls := hown
  have hA : ∀ q : Nat, s.heap.size ≤ q → (fun q : Nat => s.heap.size ≤ q) q := fun _ h => h
  have hbA : ¬ (fun q : Nat => s.heap.size ≤ q) b := Nat.not_le.mpr hbl
  obtain ⟨c0, iS0, hKn0⟩ := u_known (C := R_SE) (T := F_SE) (N := 14) (n := 14) hts i_SE (hts _ w_35)
  obtain ⟨c1, iS1, hKn1⟩ := u_known (C := R_MD) (T := F_MD) (N := 107) (n := 107) hts i_MD (hts _ w_1553)
  obtain ⟨c2, iS2, hKn2⟩ := u_known (C := R_LX) (T := F_LX) (N := 6) (n := 6) hts i_LX (hts _ w_225)
  obtain ⟨c3, iS3, hKn3⟩ := u_known (C := R_NM) (T := F_NM) (N := 6) (n := 6) hts i_NM (hts _ w_258)
  obtain ⟨c4, iS4, hKn4⟩ := u_known (C := R_PA) (T := F_PA) (N := 7) (n := 7) hts i_PA (hts _ w_124)
  obtain ⟨c5, iS5, hKn5⟩ := u_known (C := R_PI) (T := F_PI) (N := 6) (n := 6) hts i_PI (hts _ w_162)
  obtain ⟨c6, iS6, hKn6⟩ := u_known (C := R_DR) (T := F_DR) (N := 6) (n := 6) hts i_DR (hts _ w_130)
  obtain ⟨c7, iS7, hKn7⟩ := u_known (C := R_AL) (T := F_AL) (N := 3) (n := 3) hts i_AL (hts _ w_136)
  obtain ⟨c8, iS8, hKn8⟩ := u_known (C := R_ND) (T := F_ND) (N := 13) (n := 13) hts i_ND (hts _ w_547)
  obtain ⟨c9, iS9, hKn9⟩ := u_known (C := R_PG) (T := F_PG) (N := 17) (n := 17) hts i_PG (hts _ w_860)
  obtain ⟨c10, iS10, hKn10⟩ := u_known (C := R_RE) (T := F_RE) (N := 18) (n := 18) hts i_RE (hts _ w_975)
  obtain ⟨c11, iS11, hKn11⟩ := u_known (C := R_AT) (T := F_AT) (N := 15) (n := 15) hts i_AT (hts _ w_1315)
  obtain ⟨c12, iS12, hKn12⟩ := u_known (C := R_NT) (T := F_NT) (N := 15) (n := 15) hts i_NT (hts _ w_1453)
  obtain ⟨D, hKc⟩ : ∃ D : va_G, ∀ (k : Nat) (q : vw_C), cl[k]? = some q → u_Kn s q.1 q.2.1 q.2.2 (D.1 k) (D.2 k) := by
    refine ⟨(fun k => if k = 0 then c0 else if k = 1 then c1 else if k = 2 then c2 else if k = 3 then c3 else if k = 4 then c4 else if k = 5 then c5 else if k = 6 then c6 else if k = 7 then c7 else if k = 8 then c8 else if k = 9 then c9 else if k = 10 then c10 else if k = 11 then c11 else c12, fun k => if k = 0 then iS0 else if k = 1 then iS1 else if k = 2 then iS2 else if k = 3 then iS3 else if k = 4 then iS4 else if k = 5 then iS5 else if k = 6 then iS6 else if k = 7 then iS7 else if k = 8 then iS8 else if k = 9 then iS9 else if k = 10 then iS10 else if k = 11 then iS11 else iS12), ?_⟩
    intro k q hq
    match k, hq with
    | 0, hq => cases hq; exact hKn0
    | 1, hq => cases hq; exact hKn1
    | 2, hq => cases hq; exact hKn2
    | 3, hq => cases hq; exact hKn3
    | 4, hq => cases hq; exact hKn4
    | 5, hq => cases hq; exact hKn5
    | 6, hq => cases hq; exact hKn6
    | 7, hq => cases hq; exact hKn7
    | 8, hq => cases hq; exact hKn8
    | 9, hq => cases hq; exact hKn9
    | 10, hq => cases hq; exact hKn10
    | 11, hq => cases hq; exact hKn11
    | 12, hq => cases hq; exact hKn12
    | k + 13, hq => simp [cl] at hq
  obtain ⟨g0, g0a, g0b⟩ := xl_arr (hts _ w_197) (fun _ => rfl)
  obtain ⟨g1, g1a, g1b⟩ := xl_arr (hts _ w_85) (fun _ => rfl)
  obtain ⟨g2, g2a, g2b⟩ := xl_arr (hts _ w_1043) (fun _ => rfl)
  obtain ⟨g4, g4a, g4b⟩ := xl_arr (hts _ w_1884) (fun _ => rfl)
  obtain ⟨comp, g3, k3, o1, o2, o3, o4, o5⟩ := Cond.arrayOver_spec (hts0 _ (List.mem_append_right _ fl_cw5))
  have g3a : ArrOfT s g3 (.object "java/lang/Object") := fun n z => ⟨fun k h => (by cases h), k3, o3, comp, o4⟩
  have g3b : va_RA s g3 (.object "java/lang/Object") := ⟨k3, comp, o3, o4, o1, o5⟩
  obtain ⟨g, hg⟩ : ∃ g : Nat → ClassId, g = fun k => if k = 0 then g0 else if k = 1 then g1 else if k = 2 then g2 else if k = 3 then g3 else g4 := ⟨_, rfl⟩
  have hK : va_K D cl (hg_T g) s := by
    subst hg
    refine ⟨hKc, fun k q hq => ?_⟩
    match k, hq with
    | 0, hq => cases hq; exact ⟨g0a, g0b⟩
    | 1, hq => cases hq; exact ⟨g1a, g1b⟩
    | 2, hq => cases hq; exact ⟨g2a, g2b⟩
    | 3, hq => cases hq; exact ⟨g3a, g3b⟩
    | 4, hq => cases hq; exact ⟨g4a, g4b⟩
    | k + 5, hq => simp [hg_T] at hq
  obtain ⟨ad, de, ga, hE⟩ := xl_hk (A := fun q : Nat => s.heap.size ≤ q) hts0 hgv (fun q h => Nat.not_le.mpr h) g
  have hN : va_Nc "java/lang/IllegalArgumentException" "java/lang/IllegalStateException" s := va_Nc.of (lw_fa_of hgv _ fl_nc)
  have hwp := goal (g, ad, de, ga) s.heap.size L xs (lw_okE hE) hL
  have hC : hg_K (p, e, s, m, #[Value.ref b], below, meth, c, lw_Z below #[Value.ref b] s, fun q : Nat => s.heap.size ≤ q) D (g, ad, de, ga) code 8 "SignalEngineLaw" := ⟨hx, hb, hml, hown, hts, hK, hE, hA⟩
  have hend : ∀ (S : hg_S) (i : Int32), hg_G (p, e, s, m, #[Value.ref b], below, meth, c, lw_Z below #[Value.ref b] s, fun q : Nat => s.heap.size ≤ q) l room_1 D 8 S 1146 [(0, va_rf (some b)), (1, va_rf (some s.heap.size)), (2, va_rf (some (s.heap.size + 2))), (3, va_rf (some (s.heap.size + 66))), (4, .int i)] [] := by
    intro S i H locs ls hh hl
    refine lv_iconst (v := 1) hx hb (show decode code 1146 = .ok (.iconst 1, 1) by decide +kernel) (by decide +kernel) ?_
    refine va_forget (fun q hq => hh.2.2.1.2.2 q hq) ?_
    refine W.widen (k := 601024) (n := 7293034) (Nat.sub_le _ _) (Nat.sub_le _ _) ?_
    exact lw_ret hx hb hr hlocks (show decode code 1147 = .ok (.ireturn, 1) by decide +kernel)
  have hloop := lw_loop (l := l) hlt (D := D) (G := (g, ad, de, ga)) (w := s.heap.size + 66) (o := s.heap.size + 2) (ox := s.heap.size) (sb := b) (L := L) (a := lw_a (s.heap.size + 2)) (ca := lw_ca g) (xs := xs) hC (lw_KM hK) ⟨hX, hbl, hbA⟩ hN hend _ hwp
  have hl := lv_entry ([.ref b]) (n := 8) (Nat.le_of_ble_eq_true rfl)
  rw [lg_entry_eq]
  have hb2 := lw_start (sz := s.heap.size) (sb := b) hC hloop s.heap [] _ ⟨fun k q h => by simp at h, ⟨fun i j p q h => by simp at h, fun k q h => by simp at h⟩, va_S.rf, rfl, (show s.heap.size + 601024 = s.heap.size + room_1.cells from congrArg (fun z => s.heap.size + z) (by decide +kernel : (601024 : Nat) = room_1.cells)), (show 601024 ≤ room_1.cells by decide +kernel), (show 7293034 ≤ room_1.slots by decide +kernel)⟩ hl
  have e1 : room_1.cells - (([], s.heap.size, 601024, 7293034) : hg_S).2.2.1 = 0 := (by decide +kernel : room_1.cells - 601024 = 0)
  have e2 : room_1.slots - (([], s.heap.size, 601024, 7293034) : hg_S).2.2.2 = 0 := (by decide +kernel : room_1.slots - 7293034 = 0)
  rw [e1, e2] at hb2
  exact hb2
