/-! a walk's context in one thing; programs that may stop (Option) told by what they come to; a row for each instruction over both -/
abbrev dc_X : Type := Program × Env × State × MethodId × Array Value × List Frame × Method × Code × (State → Prop) × (Nat → Prop)
def dc_G (X : dc_X) (l : Launch) (R : Room) (D : va_G) (nL k n : Nat) (ws : va_W) (pc : Nat) (lv : List (Nat × Value)) (st : List Value) : Prop :=
  match X with
  | (p, e, s, m, args, below, meth, c, Q, A) => ∀ (H : Heap) (locs : List Loc) (ls : Array Slot), va_P D cl ws H → va_D A ws → va_S A s.heap H locs → lv_has ls nL lv → W p l e R s m args below meth c H locs k n Q (F0 m pc ls st)
def dc_K (X : dc_X) (D : va_G) (tys : List (ClassId × FieldType)) (ad : Nat → Nat) (de : Nat) (cc : ByteArray) (nL : Nat) (own : String) : Prop :=
  match X with
  | (p, _, s, m, args, _, _, c, _, A) => p.tables.exec = Jvm.exec ∧ c.code = cc ∧ c.maxLocals = nL ∧ s.vm.findClass own = some m.cls ∧ (∀ w ∈ tt, w.before args s = true) ∧ va_K D cl tys s ∧ xe ad de A s s.heap ∧ ∀ q, s.heap.size ≤ q → A q
def dc_Ri (X : dc_X) (D : va_G) (tys : List (ClassId × FieldType)) (ret : Option FieldType) (Kp : Int32 → va_W → Prop) (mc ms : Nat) : Prop :=
  match X with
  | (_, _, s, _, args, below, meth, _, Q, A) => meth.sig.returnType = ret ∧ meth.locks = false ∧ Q = MQ below (va_Qi Kp (fun u t => xq D A u tys t) A) args s mc ms A
def dc_Rl (X : dc_X) (D : va_G) (tys : List (ClassId × FieldType)) (ret : Option FieldType) (Kp : Int64 → va_W → Prop) (mc ms : Nat) : Prop :=
  match X with
  | (_, _, s, _, args, below, meth, _, Q, A) => meth.sig.returnType = ret ∧ meth.locks = false ∧ Q = MQ below (va_Ql Kp (fun u t => xq D A u tys t) A) args s mc ms A
def dc_Rv (X : dc_X) (D : va_G) (tys : List (ClassId × FieldType)) (ret : Option FieldType) (Kp : va_W → Prop) (mc ms : Nat) : Prop :=
  match X with
  | (_, _, s, _, args, below, meth, _, Q, A) => meth.sig.returnType = ret ∧ meth.locks = false ∧ Q = MQ below (va_Qv Kp (fun u t => xq D A u tys t) A) args s mc ms A
/-- a method's contract on its whole world -/
def dc_Ci (l : Launch) (y : MethodName) (cc : ByteArray) (nL : Nat) (ret : Option FieldType) (fr lo : Nat) (D : va_G) (tys : List (ClassId × FieldType)) (ad : Nat → Nat) (de : Nat) (av : List Value) (ws : va_W) (Kp : Int32 → va_W → Prop) (mc ms : Nat) : Prop :=
  ∀ sz : Nat, Met l y (tw y cc nL ret) { frames := fr, cells := mc, slots := ms, locals := lo } (va_Pc av (xp ad de D ws tys sz)) (va_Qi Kp (fun u t => xq D (va_A ws sz) u tys t) (va_A ws sz)) mc ms (va_A ws sz)
def dc_Cl (l : Launch) (y : MethodName) (cc : ByteArray) (nL : Nat) (ret : Option FieldType) (fr lo : Nat) (D : va_G) (tys : List (ClassId × FieldType)) (ad : Nat → Nat) (de : Nat) (av : List Value) (ws : va_W) (Kp : Int64 → va_W → Prop) (mc ms : Nat) : Prop :=
  ∀ sz : Nat, Met l y (tw y cc nL ret) { frames := fr, cells := mc, slots := ms, locals := lo } (va_Pc av (xp ad de D ws tys sz)) (va_Ql Kp (fun u t => xq D (va_A ws sz) u tys t) (va_A ws sz)) mc ms (va_A ws sz)
def dc_Cv (l : Launch) (y : MethodName) (cc : ByteArray) (nL : Nat) (ret : Option FieldType) (fr lo : Nat) (D : va_G) (tys : List (ClassId × FieldType)) (ad : Nat → Nat) (de : Nat) (av : List Value) (ws : va_W) (Kp : va_W → Prop) (mc ms : Nat) : Prop :=
  ∀ sz : Nat, Met l y (tw y cc nL ret) { frames := fr, cells := mc, slots := ms, locals := lo } (va_Pc av (xp ad de D ws tys sz)) (va_Qv Kp (fun u t => xq D (va_A ws sz) u tys t) (va_A ws sz)) mc ms (va_A ws sz)
def dc_wp {τ : Type} (E : Option τ) (F : τ → Prop) : Prop := ∃ q, E = some q ∧ F q
theorem dc_some {τ : Type} {q : τ} {F : τ → Prop} (h : dc_wp (some q) F) : F q := by
  obtain ⟨q', e, hf⟩ := h
  cases e
  exact hf
theorem dc_ret {τ : Type} {q : τ} {F : τ → Prop} (h : F q) : dc_wp (some q) F := ⟨q, rfl, h⟩
theorem dc_bind {τ ρ : Type} {E : Option τ} {f : τ → Option ρ} {F : ρ → Prop} (h : dc_wp (E.bind f) F) : dc_wp E (fun v => dc_wp (f v) F) := by
  obtain ⟨q, e, hf⟩ := h
  cases E with
  | none => cases e
  | some v => exact ⟨v, rfl, q, e, hf⟩
theorem dc_bindI {τ ρ : Type} {E : Option τ} {f : τ → Option ρ} {F : ρ → Prop} (h : dc_wp E (fun v => dc_wp (f v) F)) : dc_wp (E.bind f) F := by
  obtain ⟨v, e, q, e2, hf⟩ := h
  exact ⟨q, by rw [e]; exact e2, hf⟩
theorem dc_mono {τ : Type} {E : Option τ} {F G : τ → Prop} (h : dc_wp E F) (hm : ∀ q, F q → G q) : dc_wp E G := by
  obtain ⟨q, e, hf⟩ := h
  exact ⟨q, e, hm q hf⟩
theorem dc_not {τ : Type} {F : τ → Prop} (h : dc_wp none F) : False := by
  obtain ⟨q, e, _⟩ := h
  cases e
/-- a loop: its round goes on (left) or has ended (right) -/
def dc_itN {α β : Type} (step : α → Option (α ⊕ β)) : Nat → α → Option β
  | 0, _ => none
  | n + 1, x => match step x with
    | none => none
    | some (.inl y) => dc_itN step n y
    | some (.inr z) => some z
noncomputable def dc_it {α β : Type} (step : α → Option (α ⊕ β)) (x : α) : Option β := by
  classical
  exact if h : ∃ n b, dc_itN step n x = some b then some (Classical.choose (Classical.choose_spec h)) else none
theorem dc_itN_mono {α β : Type} {step : α → Option (α ⊕ β)} {b : β} : ∀ {n k : Nat} {x : α}, dc_itN step n x = some b → dc_itN step (n + k) x = some b := by
  intro n
  induction n with
  | zero => intro k x h; cases h
  | succ n ih =>
    intro k x h
    rw [show n + 1 + k = (n + k) + 1 from by omega]
    unfold dc_itN at h ⊢
    revert h
    cases hs : step x with
    | none => intro h; cases h
    | some q =>
      cases q with
      | inl y => intro h; exact ih h
      | inr z => intro h; exact h
theorem dc_it_iff {α β : Type} {step : α → Option (α ⊕ β)} {x : α} {b : β} : dc_it step x = some b ↔ ∃ n, dc_itN step n x = some b := by
  classical
  unfold dc_it
  constructor
  · intro h
    split at h
    · rename_i hx
      cases h
      exact ⟨_, Classical.choose_spec (Classical.choose_spec hx)⟩
    · cases h
  · rintro ⟨n, h⟩
    have hx : ∃ n b, dc_itN step n x = some b := ⟨n, b, h⟩
    rw [dif_pos hx]
    have h2 := Classical.choose_spec (Classical.choose_spec hx)
    have h3 := dc_itN_mono (k := n) h2
    have h4 := dc_itN_mono (k := Classical.choose hx) h
    rw [Nat.add_comm] at h4
    exact h3.symm.trans h4
theorem dc_it_eq {α β : Type} (step : α → Option (α ⊕ β)) (x : α) : dc_it step x = (step x).bind (fun q => match q with | .inl y => dc_it step y | .inr z => some z) := by
  apply Option.ext
  intro b
  rw [dc_it_iff]
  constructor
  · rintro ⟨n, h⟩
    cases n with
    | zero => cases h
    | succ n =>
      unfold dc_itN at h
      revert h
      cases hs : step x with
      | none => intro h; cases h
      | some q =>
        cases q with
        | inl y => intro h; exact dc_it_iff.mpr ⟨n, h⟩
        | inr z => intro h; exact h
  · intro h
    cases hs : step x with
    | none => rw [hs] at h; cases h
    | some q =>
      rw [hs] at h
      cases q with
      | inl y =>
        obtain ⟨n, hn⟩ := dc_it_iff.mp h
        exact ⟨n + 1, by unfold dc_itN; rw [hs]; exact hn⟩
      | inr z => exact ⟨1, by unfold dc_itN; rw [hs]; exact h⟩
theorem dc_loop {α β : Type} {step : α → Option (α ⊕ β)} {P : α → Prop} {F : β → Prop} (hs : ∀ x, dc_wp (step x) (Sum.elim P F) → P x) : ∀ x, dc_wp (dc_it step x) F → P x := by
  intro x h
  obtain ⟨b, e, hf⟩ := h
  obtain ⟨n, hn⟩ := dc_it_iff.mp e
  clear e
  revert x
  induction n with
  | zero => intro x h; cases h
  | succ n ih =>
    intro x h
    unfold dc_itN at h
    revert h
    cases hq : step x with
    | none => intro h; cases h
    | some q =>
      cases q with
      | inl y => intro h; exact hs x ⟨_, hq, ih y h⟩
      | inr z => intro h; cases h; exact hs x ⟨_, hq, hf⟩
/-- how a loop is shown to end: a measure, and what holds at its head -/
theorem dc_itI {α β : Type} {step : α → Option (α ⊕ β)} (I : α → Prop) (μ : α → Nat) {F : β → Prop} (hs : ∀ x, I x → dc_wp (step x) (Sum.elim (fun y => I y ∧ μ y < μ x) F)) : ∀ x, I x → dc_wp (dc_it step x) F := by
  have key : ∀ (n : Nat) (x : α), μ x < n → I x → dc_wp (dc_it step x) F := by
    intro n
    induction n with
    | zero => intro x h; omega
    | succ n ih =>
      intro x hx hI
      obtain ⟨q, e, hf⟩ := hs x hI
      rw [dc_it_eq, e]
      cases q with
      | inl y => exact ih y (by have := hf.2; omega) hf.1
      | inr z => exact ⟨z, rfl, hf⟩
  exact fun x hI => key (μ x + 1) x (by omega) hI
def dc_ix (i : Int32) (n : Nat) : Option Nat := if i < 0 ∨ n ≤ i.toNatClampNeg then none else some i.toNatClampNeg
theorem dc_ix_wp {i : Int32} {n : Nat} {F : Nat → Prop} (h : dc_wp (dc_ix i n) F) : vp_in i n ∧ F i.toNatClampNeg := by
  obtain ⟨q, e, hf⟩ := h
  unfold dc_ix at e
  split at e
  · cases e
  · rename_i hn
    cases e
    exact ⟨hn, hf⟩
def dc_zb (v : Int32) : Option Unit := if v = 0 ∨ v = 1 then some () else none
theorem dc_zb_wp {v : Int32} {F : Unit → Prop} (h : dc_wp (dc_zb v) F) : (v = 0 ∨ v = 1) ∧ F () := by
  obtain ⟨q, e, hf⟩ := h
  unfold dc_zb at e
  split at e
  · rename_i hv
    exact ⟨hv, hf⟩
  · cases e
theorem dc_nar {v : Int32} (h : v = 0 ∨ v = 1) : vp_nar .boolean v = v ∧ narrow .boolean (.int v) = .int v ∧ fits .boolean (.int v) = true := by
  rcases h with h | h <;> subst h <;> decide +kernel
section DCR
variable {X : dc_X} {l : Launch} {R : Room} {D : va_G} {tys : List (ClassId × FieldType)} {ad : Nat → Nat} {de : Nat} {cc : ByteArray} {nL k n pc : Nat} {own : String} {ws : va_W} {lv : List (Nat × Value)} {st : List Value}
/-- fewer locals -/
theorem dc_sub {lv' : List (Nat × Value)} (ks : List Nat) (hl : lv_pick lv ks = lv') (kk : dc_G X l R D nL k n ws pc lv' st) : dc_G X l R D nL k n ws pc lv st := by
  obtain ⟨p, e, s, m, args, below, meth, c, Q, A⟩ := X
  exact fun H locs ls hP hD hS h => kk H locs ls hP hD hS (lv_sub h ks hl)
theorem dc_eqw {ws' : va_W} (hw : ws = ws') (kk : dc_G X l R D nL k n ws' pc lv st) : dc_G X l R D nL k n ws pc lv st := by
  subst hw; exact kk
theorem dc_wid {k' n' : Nat} (hk : k ≤ k') (hn : n ≤ n') (kk : dc_G X l R D nL k' n' ws pc lv st) : dc_G X l R D nL k n ws pc lv st := by
  obtain ⟨p, e, s, m, args, below, meth, c, Q, A⟩ := X
  exact fun H locs ls hP hD hS h => W.widen hk hn (kk H locs ls hP hD hS h)
theorem dc_iadd (hC : dc_K X D tys ad de cc nL own) {x y : Int32} (d : decode cc pc = .ok (.iadd, 1)) (kk : dc_G X l R D nL k n ws (pc + 1) lv (.int (x + y) :: st)) : dc_G X l R D nL k n ws pc lv (.int y :: .int x :: st) := by
  obtain ⟨p, e, s, m, args, below, meth, c, Q, A⟩ := X
  obtain ⟨hx, hb, hml, hown, hts, hK, hE, hA⟩ := hC
  exact fun H locs ls hP hD hS hl => lv_iadd hx hb d (kk H locs ls hP hD hS hl)
theorem dc_isub (hC : dc_K X D tys ad de cc nL own) {x y : Int32} (d : decode cc pc = .ok (.isub, 1)) (kk : dc_G X l R D nL k n ws (pc + 1) lv (.int (x - y) :: st)) : dc_G X l R D nL k n ws pc lv (.int y :: .int x :: st) := by
  obtain ⟨p, e, s, m, args, below, meth, c, Q, A⟩ := X
  obtain ⟨hx, hb, hml, hown, hts, hK, hE, hA⟩ := hC
  exact fun H locs ls hP hD hS hl => lv_isub hx hb d (kk H locs ls hP hD hS hl)
theorem dc_imul (hC : dc_K X D tys ad de cc nL own) {x y : Int32} (d : decode cc pc = .ok (.imul, 1)) (kk : dc_G X l R D nL k n ws (pc + 1) lv (.int (x * y) :: st)) : dc_G X l R D nL k n ws pc lv (.int y :: .int x :: st) := by
  obtain ⟨p, e, s, m, args, below, meth, c, Q, A⟩ := X
  obtain ⟨hx, hb, hml, hown, hts, hK, hE, hA⟩ := hC
  exact fun H locs ls hP hD hS hl => lv_imul hx hb d (kk H locs ls hP hD hS hl)
theorem dc_iand (hC : dc_K X D tys ad de cc nL own) {x y : Int32} (d : decode cc pc = .ok (.iand, 1)) (kk : dc_G X l R D nL k n ws (pc + 1) lv (.int (x &&& y) :: st)) : dc_G X l R D nL k n ws pc lv (.int y :: .int x :: st) := by
  obtain ⟨p, e, s, m, args, below, meth, c, Q, A⟩ := X
  obtain ⟨hx, hb, hml, hown, hts, hK, hE, hA⟩ := hC
  exact fun H locs ls hP hD hS hl => lv_iand hx hb d (kk H locs ls hP hD hS hl)
theorem dc_ior (hC : dc_K X D tys ad de cc nL own) {x y : Int32} (d : decode cc pc = .ok (.ior, 1)) (kk : dc_G X l R D nL k n ws (pc + 1) lv (.int (x ||| y) :: st)) : dc_G X l R D nL k n ws pc lv (.int y :: .int x :: st) := by
  obtain ⟨p, e, s, m, args, below, meth, c, Q, A⟩ := X
  obtain ⟨hx, hb, hml, hown, hts, hK, hE, hA⟩ := hC
  exact fun H locs ls hP hD hS hl => lv_ior hx hb d (kk H locs ls hP hD hS hl)
theorem dc_ixor (hC : dc_K X D tys ad de cc nL own) {x y : Int32} (d : decode cc pc = .ok (.ixor, 1)) (kk : dc_G X l R D nL k n ws (pc + 1) lv (.int (x ^^^ y) :: st)) : dc_G X l R D nL k n ws pc lv (.int y :: .int x :: st) := by
  obtain ⟨p, e, s, m, args, below, meth, c, Q, A⟩ := X
  obtain ⟨hx, hb, hml, hown, hts, hK, hE, hA⟩ := hC
  exact fun H locs ls hP hD hS hl => lv_ixor hx hb d (kk H locs ls hP hD hS hl)
theorem dc_ishl (hC : dc_K X D tys ad de cc nL own) {x y : Int32} (d : decode cc pc = .ok (.ishl, 1)) (kk : dc_G X l R D nL k n ws (pc + 1) lv (.int (x <<< (y &&& 31)) :: st)) : dc_G X l R D nL k n ws pc lv (.int y :: .int x :: st) := by
  obtain ⟨p, e, s, m, args, below, meth, c, Q, A⟩ := X
  obtain ⟨hx, hb, hml, hown, hts, hK, hE, hA⟩ := hC
  exact fun H locs ls hP hD hS hl => lv_ishl hx hb d (kk H locs ls hP hD hS hl)
theorem dc_ishr (hC : dc_K X D tys ad de cc nL own) {x y : Int32} (d : decode cc pc = .ok (.ishr, 1)) (kk : dc_G X l R D nL k n ws (pc + 1) lv (.int (x >>> (y &&& 31)) :: st)) : dc_G X l R D nL k n ws pc lv (.int y :: .int x :: st) := by
  obtain ⟨p, e, s, m, args, below, meth, c, Q, A⟩ := X
  obtain ⟨hx, hb, hml, hown, hts, hK, hE, hA⟩ := hC
  exact fun H locs ls hP hD hS hl => lv_ishr hx hb d (kk H locs ls hP hD hS hl)
theorem dc_land (hC : dc_K X D tys ad de cc nL own) {x y : Int64} (d : decode cc pc = .ok (.land, 1)) (kk : dc_G X l R D nL k n ws (pc + 1) lv (.long (x &&& y) :: st)) : dc_G X l R D nL k n ws pc lv (.long y :: .long x :: st) := by
  obtain ⟨p, e, s, m, args, below, meth, c, Q, A⟩ := X
  obtain ⟨hx, hb, hml, hown, hts, hK, hE, hA⟩ := hC
  exact fun H locs ls hP hD hS hl => lv_land hx hb d (kk H locs ls hP hD hS hl)
theorem dc_lor (hC : dc_K X D tys ad de cc nL own) {x y : Int64} (d : decode cc pc = .ok (.lor, 1)) (kk : dc_G X l R D nL k n ws (pc + 1) lv (.long (x ||| y) :: st)) : dc_G X l R D nL k n ws pc lv (.long y :: .long x :: st) := by
  obtain ⟨p, e, s, m, args, below, meth, c, Q, A⟩ := X
  obtain ⟨hx, hb, hml, hown, hts, hK, hE, hA⟩ := hC
  exact fun H locs ls hP hD hS hl => lv_lor hx hb d (kk H locs ls hP hD hS hl)
theorem dc_ineg (hC : dc_K X D tys ad de cc nL own) {x : Int32} (d : decode cc pc = .ok (.ineg, 1)) (kk : dc_G X l R D nL k n ws (pc + 1) lv (.int (-x) :: st)) : dc_G X l R D nL k n ws pc lv (.int x :: st) := by
  obtain ⟨p, e, s, m, args, below, meth, c, Q, A⟩ := X
  obtain ⟨hx, hb, hml, hown, hts, hK, hE, hA⟩ := hC
  exact fun H locs ls hP hD hS hl => lv_ineg hx hb d (kk H locs ls hP hD hS hl)
theorem dc_idiv (hC : dc_K X D tys ad de cc nL own) {x y : Int32} (d : decode cc pc = .ok (.idiv, 1)) (hne : ¬ y = 0) (kk : dc_G X l R D nL k n ws (pc + 1) lv (.int (x / y) :: st)) : dc_G X l R D nL k n ws pc lv (.int y :: .int x :: st) := by
  obtain ⟨p, e, s, m, args, below, meth, c, Q, A⟩ := X
  obtain ⟨hx, hb, hml, hown, hts, hK, hE, hA⟩ := hC
  exact fun H locs ls hP hD hS hl => lv_idiv hx hb d hne (kk H locs ls hP hD hS hl)
theorem dc_irem (hC : dc_K X D tys ad de cc nL own) {x y : Int32} (d : decode cc pc = .ok (.irem, 1)) (hne : ¬ y = 0) (kk : dc_G X l R D nL k n ws (pc + 1) lv (.int (x - x / y * y) :: st)) : dc_G X l R D nL k n ws pc lv (.int y :: .int x :: st) := by
  obtain ⟨p, e, s, m, args, below, meth, c, Q, A⟩ := X
  obtain ⟨hx, hb, hml, hown, hts, hK, hE, hA⟩ := hC
  exact fun H locs ls hP hD hS hl => lv_irem hx hb d hne (kk H locs ls hP hD hS hl)
theorem dc_iushr (hC : dc_K X D tys ad de cc nL own) {x y : Int32} (d : decode cc pc = .ok (.iushr, 1)) (kk : dc_G X l R D nL k n ws (pc + 1) lv (.int ((x.toUInt32 >>> (y.toUInt32 &&& Int32.toUInt32 31)).toInt32) :: st)) : dc_G X l R D nL k n ws pc lv (.int y :: .int x :: st) := by
  obtain ⟨p, e, s, m, args, below, meth, c, Q, A⟩ := X
  obtain ⟨hx, hb, hml, hown, hts, hK, hE, hA⟩ := hC
  exact fun H locs ls hP hD hS hl => lv_iushr hx hb d rfl (kk H locs ls hP hD hS hl)
theorem dc_lshl (hC : dc_K X D tys ad de cc nL own) {x : Int64} {y : Int32} (d : decode cc pc = .ok (.lshl, 1)) (kk : dc_G X l R D nL k n ws (pc + 1) lv (.long (x <<< (y.toInt64 &&& 63)) :: st)) : dc_G X l R D nL k n ws pc lv (.int y :: .long x :: st) := by
  obtain ⟨p, e, s, m, args, below, meth, c, Q, A⟩ := X
  obtain ⟨hx, hb, hml, hown, hts, hK, hE, hA⟩ := hC
  exact fun H locs ls hP hD hS hl => lv_lshl hx hb d rfl (kk H locs ls hP hD hS hl)
theorem dc_lshr (hC : dc_K X D tys ad de cc nL own) {x : Int64} {y : Int32} (d : decode cc pc = .ok (.lshr, 1)) (kk : dc_G X l R D nL k n ws (pc + 1) lv (.long (x >>> (y.toInt64 &&& 63)) :: st)) : dc_G X l R D nL k n ws pc lv (.int y :: .long x :: st) := by
  obtain ⟨p, e, s, m, args, below, meth, c, Q, A⟩ := X
  obtain ⟨hx, hb, hml, hown, hts, hK, hE, hA⟩ := hC
  exact fun H locs ls hP hD hS hl => lv_lshr hx hb d rfl (kk H locs ls hP hD hS hl)
theorem dc_i2l (hC : dc_K X D tys ad de cc nL own) {x : Int32} (d : decode cc pc = .ok (.i2l, 1)) (kk : dc_G X l R D nL k n ws (pc + 1) lv (.long x.toInt64 :: st)) : dc_G X l R D nL k n ws pc lv (.int x :: st) := by
  obtain ⟨p, e, s, m, args, below, meth, c, Q, A⟩ := X
  obtain ⟨hx, hb, hml, hown, hts, hK, hE, hA⟩ := hC
  exact fun H locs ls hP hD hS hl => lv_i2l hx hb d rfl (kk H locs ls hP hD hS hl)
theorem dc_i2b (hC : dc_K X D tys ad de cc nL own) {x : Int32} (d : decode cc pc = .ok (.i2b, 1)) (kk : dc_G X l R D nL k n ws (pc + 1) lv (.int x.toInt8.toInt32 :: st)) : dc_G X l R D nL k n ws pc lv (.int x :: st) := by
  obtain ⟨p, e, s, m, args, below, meth, c, Q, A⟩ := X
  obtain ⟨hx, hb, hml, hown, hts, hK, hE, hA⟩ := hC
  exact fun H locs ls hP hD hS hl => lv_i2b hx hb d rfl (kk H locs ls hP hD hS hl)
def dc_cmp (x y : Int64) : Int32 := if x < y then -1 else if x = y then 0 else 1
theorem dc_iconst (hC : dc_K X D tys ad de cc nL own) {i : Int} {v : Int32} (d : decode cc pc = .ok (.iconst i, 1)) (hv : Int32.ofInt i = v) (kk : dc_G X l R D nL k n ws (pc + 1) lv (.int v :: st)) : dc_G X l R D nL k n ws pc lv st := by
  obtain ⟨p, e, s, m, args, below, meth, c, Q, A⟩ := X
  obtain ⟨hx, hb, hml, hown, hts, hK, hE, hA⟩ := hC
  exact fun H locs ls hP hD hS hl => lv_iconst hx hb d hv (kk H locs ls hP hD hS hl)
theorem dc_bipush (hC : dc_K X D tys ad de cc nL own) {i : Int} {v : Int32} (d : decode cc pc = .ok (.bipush i, 2)) (hv : (Int8.ofInt i).toInt32 = v) (kk : dc_G X l R D nL k n ws (pc + 2) lv (.int v :: st)) : dc_G X l R D nL k n ws pc lv st := by
  obtain ⟨p, e, s, m, args, below, meth, c, Q, A⟩ := X
  obtain ⟨hx, hb, hml, hown, hts, hK, hE, hA⟩ := hC
  exact fun H locs ls hP hD hS hl => lv_bipush hx hb d hv (kk H locs ls hP hD hS hl)
theorem dc_sipush (hC : dc_K X D tys ad de cc nL own) {i : Int} {v : Int32} (d : decode cc pc = .ok (.sipush i, 3)) (hv : (Int16.ofInt i).toInt32 = v) (kk : dc_G X l R D nL k n ws (pc + 3) lv (.int v :: st)) : dc_G X l R D nL k n ws pc lv st := by
  obtain ⟨p, e, s, m, args, below, meth, c, Q, A⟩ := X
  obtain ⟨hx, hb, hml, hown, hts, hK, hE, hA⟩ := hC
  exact fun H locs ls hP hD hS hl => lv_sipush hx hb d hv (kk H locs ls hP hD hS hl)
theorem dc_lconst (hC : dc_K X D tys ad de cc nL own) {i : Fin 2} {v : Int64} (d : decode cc pc = .ok (.lconst i, 1)) (hv : Int64.ofNat (i : Nat) = v) (kk : dc_G X l R D nL k n ws (pc + 1) lv (.long v :: st)) : dc_G X l R D nL k n ws pc lv st := by
  obtain ⟨p, e, s, m, args, below, meth, c, Q, A⟩ := X
  obtain ⟨hx, hb, hml, hown, hts, hK, hE, hA⟩ := hC
  exact fun H locs ls hP hD hS hl => lv_lconst hx hb d hv (kk H locs ls hP hD hS hl)
theorem dc_ldc (hC : dc_K X D tys ad de cc nL own) {index : Nat} {v : Int32} (w : Cond.constant own index v ∈ tt) (d : decode cc pc = .ok (.ldc index, 2)) (kk : dc_G X l R D nL k n ws (pc + 2) lv (.int v :: st)) : dc_G X l R D nL k n ws pc lv st := by
  obtain ⟨p, e, s, m, args, below, meth, c, Q, A⟩ := X
  obtain ⟨hx, hb, hml, hown, hts, hK, hE, hA⟩ := hC
  exact fun H locs ls hP hD hS hl => lv_ldc hx hb hown (hts _ w) d (kk H locs ls hP hD hS hl)
theorem dc_ldcw (hC : dc_K X D tys ad de cc nL own) {index : Nat} {v : Int32} (w : Cond.constant own index v ∈ tt) (d : decode cc pc = .ok (.ldc_w index, 3)) (kk : dc_G X l R D nL k n ws (pc + 3) lv (.int v :: st)) : dc_G X l R D nL k n ws pc lv st := by
  obtain ⟨p, e, s, m, args, below, meth, c, Q, A⟩ := X
  obtain ⟨hx, hb, hml, hown, hts, hK, hE, hA⟩ := hC
  exact fun H locs ls hP hD hS hl => lv_ldcw hx hb hown (hts _ w) d (kk H locs ls hP hD hS hl)
theorem dc_ldc2 (hC : dc_K X D tys ad de cc nL own) {index : Nat} {v : Int64} (w : Cond.constantLong own index v ∈ tt) (d : decode cc pc = .ok (.ldc2_w index, 3)) (kk : dc_G X l R D nL k n ws (pc + 3) lv (.long v :: st)) : dc_G X l R D nL k n ws pc lv st := by
  obtain ⟨p, e, s, m, args, below, meth, c, Q, A⟩ := X
  obtain ⟨hx, hb, hml, hown, hts, hK, hE, hA⟩ := hC
  exact fun H locs ls hP hD hS hl => lv_ldc2 hx hb hown (hts _ w) d (kk H locs ls hP hD hS hl)
theorem dc_dup (hC : dc_K X D tys ad de cc nL own) {v : Value} (d : decode cc pc = .ok (.dup, 1)) (h1 : v.category = 1) (kk : dc_G X l R D nL k n ws (pc + 1) lv (v :: v :: st)) : dc_G X l R D nL k n ws pc lv (v :: st) := by
  obtain ⟨p, e, s, m, args, below, meth, c, Q, A⟩ := X
  obtain ⟨hx, hb, hml, hown, hts, hK, hE, hA⟩ := hC
  exact fun H locs ls hP hD hS hl => lv_dup hx hb d h1 (kk H locs ls hP hD hS hl)
theorem dc_pop (hC : dc_K X D tys ad de cc nL own) {v : Value} (d : decode cc pc = .ok (.pop, 1)) (h1 : v.category = 1) (kk : dc_G X l R D nL k n ws (pc + 1) lv st) : dc_G X l R D nL k n ws pc lv (v :: st) := by
  obtain ⟨p, e, s, m, args, below, meth, c, Q, A⟩ := X
  obtain ⟨hx, hb, hml, hown, hts, hK, hE, hA⟩ := hC
  exact fun H locs ls hP hD hS hl => lv_pop hx hb d h1 (kk H locs ls hP hD hS hl)
theorem dc_dup_x1 (hC : dc_K X D tys ad de cc nL own) {v w : Value} (d : decode cc pc = .ok (.dup_x1, 1)) (h1 : v.category = 1) (h2 : w.category = 1) (kk : dc_G X l R D nL k n ws (pc + 1) lv (v :: w :: v :: st)) : dc_G X l R D nL k n ws pc lv (v :: w :: st) := by
  obtain ⟨p, e, s, m, args, below, meth, c, Q, A⟩ := X
  obtain ⟨hx, hb, hml, hown, hts, hK, hE, hA⟩ := hC
  exact fun H locs ls hP hD hS hl => lv_dup_x1 hx hb d h1 h2 (kk H locs ls hP hD hS hl)
theorem dc_dup_x2 (hC : dc_K X D tys ad de cc nL own) {v w u : Value} (d : decode cc pc = .ok (.dup_x2, 1)) (h1 : v.category = 1) (h2 : w.category = 1) (h3 : u.category = 1) (kk : dc_G X l R D nL k n ws (pc + 1) lv (v :: w :: u :: v :: st)) : dc_G X l R D nL k n ws pc lv (v :: w :: u :: st) := by
  obtain ⟨p, e, s, m, args, below, meth, c, Q, A⟩ := X
  obtain ⟨hx, hb, hml, hown, hts, hK, hE, hA⟩ := hC
  exact fun H locs ls hP hD hS hl => lv_dup_x2 hx hb d h1 h2 h3 (kk H locs ls hP hD hS hl)
theorem dc_dup2 (hC : dc_K X D tys ad de cc nL own) {v w : Value} (d : decode cc pc = .ok (.dup2, 1)) (h1 : v.category = 1) (h2 : w.category = 1) (kk : dc_G X l R D nL k n ws (pc + 1) lv (v :: w :: v :: w :: st)) : dc_G X l R D nL k n ws pc lv (v :: w :: st) := by
  obtain ⟨p, e, s, m, args, below, meth, c, Q, A⟩ := X
  obtain ⟨hx, hb, hml, hown, hts, hK, hE, hA⟩ := hC
  exact fun H locs ls hP hD hS hl => lv_dup2_11 hx hb d h1 h2 (kk H locs ls hP hD hS hl)
theorem dc_iloadn (hC : dc_K X D tys ad de cc nL own) {j : Fin 4} {i : Nat} {x : Int32} (place : Nat) (hi : (j : Nat) = i) (hp : lv[place]? = some (i, .int x)) (d : decode cc pc = .ok (.iload_n j, 1)) (kk : dc_G X l R D nL k n ws (pc + 1) lv (.int x :: st)) : dc_G X l R D nL k n ws pc lv st := by
  obtain ⟨p, e, s, m, args, below, meth, c, Q, A⟩ := X
  obtain ⟨hx, hb, hml, hown, hts, hK, hE, hA⟩ := hC
  exact fun H locs ls hP hD hS hl => lv_iload_n hx hb d hi (lv_at hl place hp) (kk H locs ls hP hD hS hl)
theorem dc_iload (hC : dc_K X D tys ad de cc nL own) {i : Nat} {x : Int32} (place : Nat) (hp : lv[place]? = some (i, .int x)) (d : decode cc pc = .ok (.iload i, 2)) (kk : dc_G X l R D nL k n ws (pc + 2) lv (.int x :: st)) : dc_G X l R D nL k n ws pc lv st := by
  obtain ⟨p, e, s, m, args, below, meth, c, Q, A⟩ := X
  obtain ⟨hx, hb, hml, hown, hts, hK, hE, hA⟩ := hC
  exact fun H locs ls hP hD hS hl => lv_iload hx hb d (lv_at hl place hp) (kk H locs ls hP hD hS hl)
theorem dc_istoren (hC : dc_K X D tys ad de cc nL own) {j : Fin 4} {i : Nat} {x : Int32} {lv' : List (Nat × Value)} (hi : (j : Nat) = i) (hn : i < nL) (hl' : (i, Value.int x) :: lv.filter (fun q => !(q.1 == i) && !(q.1 + 1 == i && q.2.category == 2)) = lv') (d : decode cc pc = .ok (.istore_n j, 1)) (kk : dc_G X l R D nL k n ws (pc + 1) lv' st) : dc_G X l R D nL k n ws pc lv (.int x :: st) := by
  obtain ⟨p, e, s, m, args, below, meth, c, Q, A⟩ := X
  obtain ⟨hx, hb, hml, hown, hts, hK, hE, hA⟩ := hC
  exact fun H locs ls hP hD hS hl => lv_istore_n hx hb d hi hl hn hl' (fun ls2 h2 => kk H locs ls2 hP hD hS h2)
theorem dc_istore (hC : dc_K X D tys ad de cc nL own) {i : Nat} {x : Int32} {lv' : List (Nat × Value)} (hn : i < nL) (hl' : (i, Value.int x) :: lv.filter (fun q => !(q.1 == i) && !(q.1 + 1 == i && q.2.category == 2)) = lv') (d : decode cc pc = .ok (.istore i, 2)) (kk : dc_G X l R D nL k n ws (pc + 2) lv' st) : dc_G X l R D nL k n ws pc lv (.int x :: st) := by
  obtain ⟨p, e, s, m, args, below, meth, c, Q, A⟩ := X
  obtain ⟨hx, hb, hml, hown, hts, hK, hE, hA⟩ := hC
  exact fun H locs ls hP hD hS hl => lv_istore hx hb d hl hn hl' (fun ls2 h2 => kk H locs ls2 hP hD hS h2)
theorem dc_lloadn (hC : dc_K X D tys ad de cc nL own) {j : Fin 4} {i : Nat} {x : Int64} (place : Nat) (hi : (j : Nat) = i) (hp : lv[place]? = some (i, .long x)) (d : decode cc pc = .ok (.lload_n j, 1)) (kk : dc_G X l R D nL k n ws (pc + 1) lv (.long x :: st)) : dc_G X l R D nL k n ws pc lv st := by
  obtain ⟨p, e, s, m, args, below, meth, c, Q, A⟩ := X
  obtain ⟨hx, hb, hml, hown, hts, hK, hE, hA⟩ := hC
  exact fun H locs ls hP hD hS hl => lv_lload_n hx hb d hi (lv_at hl place hp) (kk H locs ls hP hD hS hl)
theorem dc_lload (hC : dc_K X D tys ad de cc nL own) {i : Nat} {x : Int64} (place : Nat) (hp : lv[place]? = some (i, .long x)) (d : decode cc pc = .ok (.lload i, 2)) (kk : dc_G X l R D nL k n ws (pc + 2) lv (.long x :: st)) : dc_G X l R D nL k n ws pc lv st := by
  obtain ⟨p, e, s, m, args, below, meth, c, Q, A⟩ := X
  obtain ⟨hx, hb, hml, hown, hts, hK, hE, hA⟩ := hC
  exact fun H locs ls hP hD hS hl => lv_lload hx hb d (lv_at hl place hp) (kk H locs ls hP hD hS hl)
theorem dc_lstoren (hC : dc_K X D tys ad de cc nL own) {j : Fin 4} {i : Nat} {x : Int64} {lv' : List (Nat × Value)} (hi : (j : Nat) = i) (hn : i + 1 < nL) (hl' : (i, Value.long x) :: lv.filter (fun q => !(q.1 == i) && (!(q.1 == i + 1) && !(q.1 + 1 == i && q.2.category == 2))) = lv') (d : decode cc pc = .ok (.lstore_n j, 1)) (kk : dc_G X l R D nL k n ws (pc + 1) lv' st) : dc_G X l R D nL k n ws pc lv (.long x :: st) := by
  obtain ⟨p, e, s, m, args, below, meth, c, Q, A⟩ := X
  obtain ⟨hx, hb, hml, hown, hts, hK, hE, hA⟩ := hC
  exact fun H locs ls hP hD hS hl => lv_lstore_n hx hb d hi hl hn hl' (fun ls2 h2 => kk H locs ls2 hP hD hS h2)
theorem dc_lstore (hC : dc_K X D tys ad de cc nL own) {i : Nat} {x : Int64} {lv' : List (Nat × Value)} (hn : i + 1 < nL) (hl' : (i, Value.long x) :: lv.filter (fun q => !(q.1 == i) && (!(q.1 == i + 1) && !(q.1 + 1 == i && q.2.category == 2))) = lv') (d : decode cc pc = .ok (.lstore i, 2)) (kk : dc_G X l R D nL k n ws (pc + 2) lv' st) : dc_G X l R D nL k n ws pc lv (.long x :: st) := by
  obtain ⟨p, e, s, m, args, below, meth, c, Q, A⟩ := X
  obtain ⟨hx, hb, hml, hown, hts, hK, hE, hA⟩ := hC
  exact fun H locs ls hP hD hS hl => lv_lstore hx hb d hl hn hl' (fun ls2 h2 => kk H locs ls2 hP hD hS h2)
theorem dc_aloadn (hC : dc_K X D tys ad de cc nL own) {j : Fin 4} {i : Nat} {x : Nat} (place : Nat) (hi : (j : Nat) = i) (hp : lv[place]? = some (i, .ref x)) (d : decode cc pc = .ok (.aload_n j, 1)) (kk : dc_G X l R D nL k n ws (pc + 1) lv (.ref x :: st)) : dc_G X l R D nL k n ws pc lv st := by
  obtain ⟨p, e, s, m, args, below, meth, c, Q, A⟩ := X
  obtain ⟨hx, hb, hml, hown, hts, hK, hE, hA⟩ := hC
  exact fun H locs ls hP hD hS hl => lv_aload_n hx hb d hi (lv_at hl place hp) (kk H locs ls hP hD hS hl)
theorem dc_aload (hC : dc_K X D tys ad de cc nL own) {i : Nat} {x : Nat} (place : Nat) (hp : lv[place]? = some (i, .ref x)) (d : decode cc pc = .ok (.aload i, 2)) (kk : dc_G X l R D nL k n ws (pc + 2) lv (.ref x :: st)) : dc_G X l R D nL k n ws pc lv st := by
  obtain ⟨p, e, s, m, args, below, meth, c, Q, A⟩ := X
  obtain ⟨hx, hb, hml, hown, hts, hK, hE, hA⟩ := hC
  exact fun H locs ls hP hD hS hl => lv_aload hx hb d (lv_at hl place hp) (kk H locs ls hP hD hS hl)
theorem dc_astoren (hC : dc_K X D tys ad de cc nL own) {j : Fin 4} {i : Nat} {x : Nat} {lv' : List (Nat × Value)} (hi : (j : Nat) = i) (hn : i < nL) (hl' : (i, Value.ref x) :: lv.filter (fun q => !(q.1 == i) && !(q.1 + 1 == i && q.2.category == 2)) = lv') (d : decode cc pc = .ok (.astore_n j, 1)) (kk : dc_G X l R D nL k n ws (pc + 1) lv' st) : dc_G X l R D nL k n ws pc lv (.ref x :: st) := by
  obtain ⟨p, e, s, m, args, below, meth, c, Q, A⟩ := X
  obtain ⟨hx, hb, hml, hown, hts, hK, hE, hA⟩ := hC
  exact fun H locs ls hP hD hS hl => lv_astore_n hx hb d hi hl hn hl' (fun ls2 h2 => kk H locs ls2 hP hD hS h2)
theorem dc_astore (hC : dc_K X D tys ad de cc nL own) {i : Nat} {x : Nat} {lv' : List (Nat × Value)} (hn : i < nL) (hl' : (i, Value.ref x) :: lv.filter (fun q => !(q.1 == i) && !(q.1 + 1 == i && q.2.category == 2)) = lv') (d : decode cc pc = .ok (.astore i, 2)) (kk : dc_G X l R D nL k n ws (pc + 2) lv' st) : dc_G X l R D nL k n ws pc lv (.ref x :: st) := by
  obtain ⟨p, e, s, m, args, below, meth, c, Q, A⟩ := X
  obtain ⟨hx, hb, hml, hown, hts, hK, hE, hA⟩ := hC
  exact fun H locs ls hP hD hS hl => lv_astore hx hb d hl hn hl' (fun ls2 h2 => kk H locs ls2 hP hD hS h2)
theorem dc_iinc (hC : dc_K X D tys ad de cc nL own) {i : Nat} {a : Int} {x v : Int32} {lv' : List (Nat × Value)} (place : Nat) (hp : lv[place]? = some (i, .int x)) (hv : x + Int32.ofInt a = v) (hn : i < nL) (hl' : (i, Value.int v) :: lv.filter (fun q => !(q.1 == i) && !(q.1 + 1 == i && q.2.category == 2)) = lv') (d : decode cc pc = .ok (.iinc i a, 3)) (kk : dc_G X l R D nL k n ws (pc + 3) lv' st) : dc_G X l R D nL k n ws pc lv st := by
  obtain ⟨p, e, s, m, args, below, meth, c, Q, A⟩ := X
  obtain ⟨hx, hb, hml, hown, hts, hK, hE, hA⟩ := hC
  exact fun H locs ls hP hD hS hl => lv_iinc hx hb d hl (k := place) hp hv hn hl' (fun ls2 h2 => kk H locs ls2 hP hD hS h2)
theorem dc_goto (hC : dc_K X D tys ad de cc nL own) {off : Int} {tgt : Nat} (d : decode cc pc = .ok (.goto off, 3)) (ht : (pc : Int) + off = (tgt : Int)) (kk : dc_G X l R D nL k n ws tgt lv st) : dc_G X l R D nL k n ws pc lv st := by
  obtain ⟨p, e, s, m, args, below, meth, c, Q, A⟩ := X
  obtain ⟨hx, hb, hml, hown, hts, hK, hE, hA⟩ := hC
  exact fun H locs ls hP hD hS hl => lv_goto hx hb d ht (kk H locs ls hP hD hS hl)
theorem dc_icmp_eq (hC : dc_K X D tys ad de cc nL own) {τ : Type} {E1 E2 : Option τ} {F : τ → Prop} {x y : Int32} {off : Int} {tgt : Nat} (d : decode cc pc = .ok (.if_icmp .eq off, 3)) (ht : (pc : Int) + off = (tgt : Int)) (h : dc_wp (if x = y then E1 else E2) F) (k1 : dc_wp E1 F → dc_G X l R D nL k n ws tgt lv st) (k2 : dc_wp E2 F → dc_G X l R D nL k n ws (pc + 3) lv st) : dc_G X l R D nL k n ws pc lv (.int y :: .int x :: st) := by
  obtain ⟨p, e, s, m, args, below, meth, c, Q, A⟩ := X
  obtain ⟨hx, hb, hml, hown, hts, hK, hE, hA⟩ := hC
  refine fun H locs ls hP hD hS hl => lv_icmp_eq (tgt := tgt) hx hb d ht (fun c1 => ?_) (fun c1 => ?_)
  · exact k1 (by rw [if_pos c1] at h; exact h) H locs ls hP hD hS hl
  · exact k2 (by rw [if_neg c1] at h; exact h) H locs ls hP hD hS hl
theorem dc_icmp_ne (hC : dc_K X D tys ad de cc nL own) {τ : Type} {E1 E2 : Option τ} {F : τ → Prop} {x y : Int32} {off : Int} {tgt : Nat} (d : decode cc pc = .ok (.if_icmp .ne off, 3)) (ht : (pc : Int) + off = (tgt : Int)) (h : dc_wp (if x = y then E1 else E2) F) (k1 : dc_wp E1 F → dc_G X l R D nL k n ws (pc + 3) lv st) (k2 : dc_wp E2 F → dc_G X l R D nL k n ws tgt lv st) : dc_G X l R D nL k n ws pc lv (.int y :: .int x :: st) := by
  obtain ⟨p, e, s, m, args, below, meth, c, Q, A⟩ := X
  obtain ⟨hx, hb, hml, hown, hts, hK, hE, hA⟩ := hC
  refine fun H locs ls hP hD hS hl => lv_icmp_ne (tgt := tgt) hx hb d ht (fun c1 => ?_) (fun c1 => ?_)
  · exact k2 (by rw [if_neg c1] at h; exact h) H locs ls hP hD hS hl
  · exact k1 (by rw [if_pos c1] at h; exact h) H locs ls hP hD hS hl
theorem dc_icmp_lt (hC : dc_K X D tys ad de cc nL own) {τ : Type} {E1 E2 : Option τ} {F : τ → Prop} {x y : Int32} {off : Int} {tgt : Nat} (d : decode cc pc = .ok (.if_icmp .lt off, 3)) (ht : (pc : Int) + off = (tgt : Int)) (h : dc_wp (if x < y then E1 else E2) F) (k1 : dc_wp E1 F → dc_G X l R D nL k n ws tgt lv st) (k2 : dc_wp E2 F → dc_G X l R D nL k n ws (pc + 3) lv st) : dc_G X l R D nL k n ws pc lv (.int y :: .int x :: st) := by
  obtain ⟨p, e, s, m, args, below, meth, c, Q, A⟩ := X
  obtain ⟨hx, hb, hml, hown, hts, hK, hE, hA⟩ := hC
  refine fun H locs ls hP hD hS hl => lv_icmp_lt (tgt := tgt) hx hb d ht (fun c1 => ?_) (fun c1 => ?_)
  · exact k1 (by rw [if_pos c1] at h; exact h) H locs ls hP hD hS hl
  · exact k2 (by rw [if_neg c1] at h; exact h) H locs ls hP hD hS hl
theorem dc_icmp_ge (hC : dc_K X D tys ad de cc nL own) {τ : Type} {E1 E2 : Option τ} {F : τ → Prop} {x y : Int32} {off : Int} {tgt : Nat} (d : decode cc pc = .ok (.if_icmp .ge off, 3)) (ht : (pc : Int) + off = (tgt : Int)) (h : dc_wp (if x < y then E1 else E2) F) (k1 : dc_wp E1 F → dc_G X l R D nL k n ws (pc + 3) lv st) (k2 : dc_wp E2 F → dc_G X l R D nL k n ws tgt lv st) : dc_G X l R D nL k n ws pc lv (.int y :: .int x :: st) := by
  obtain ⟨p, e, s, m, args, below, meth, c, Q, A⟩ := X
  obtain ⟨hx, hb, hml, hown, hts, hK, hE, hA⟩ := hC
  refine fun H locs ls hP hD hS hl => lv_icmp_ge (tgt := tgt) hx hb d ht (fun c1 => ?_) (fun c1 => ?_)
  · exact k2 (by rw [if_neg (Int32.not_lt.mpr c1)] at h; exact h) H locs ls hP hD hS hl
  · exact k1 (by rw [if_pos (Int32.not_le.mp c1)] at h; exact h) H locs ls hP hD hS hl
theorem dc_icmp_gt (hC : dc_K X D tys ad de cc nL own) {τ : Type} {E1 E2 : Option τ} {F : τ → Prop} {x y : Int32} {off : Int} {tgt : Nat} (d : decode cc pc = .ok (.if_icmp .gt off, 3)) (ht : (pc : Int) + off = (tgt : Int)) (h : dc_wp (if y < x then E1 else E2) F) (k1 : dc_wp E1 F → dc_G X l R D nL k n ws tgt lv st) (k2 : dc_wp E2 F → dc_G X l R D nL k n ws (pc + 3) lv st) : dc_G X l R D nL k n ws pc lv (.int y :: .int x :: st) := by
  obtain ⟨p, e, s, m, args, below, meth, c, Q, A⟩ := X
  obtain ⟨hx, hb, hml, hown, hts, hK, hE, hA⟩ := hC
  refine fun H locs ls hP hD hS hl => lv_icmp_gt (tgt := tgt) hx hb d ht (fun c1 => ?_) (fun c1 => ?_)
  · exact k1 (by rw [if_pos c1] at h; exact h) H locs ls hP hD hS hl
  · exact k2 (by rw [if_neg c1] at h; exact h) H locs ls hP hD hS hl
theorem dc_icmp_le (hC : dc_K X D tys ad de cc nL own) {τ : Type} {E1 E2 : Option τ} {F : τ → Prop} {x y : Int32} {off : Int} {tgt : Nat} (d : decode cc pc = .ok (.if_icmp .le off, 3)) (ht : (pc : Int) + off = (tgt : Int)) (h : dc_wp (if y < x then E1 else E2) F) (k1 : dc_wp E1 F → dc_G X l R D nL k n ws (pc + 3) lv st) (k2 : dc_wp E2 F → dc_G X l R D nL k n ws tgt lv st) : dc_G X l R D nL k n ws pc lv (.int y :: .int x :: st) := by
  obtain ⟨p, e, s, m, args, below, meth, c, Q, A⟩ := X
  obtain ⟨hx, hb, hml, hown, hts, hK, hE, hA⟩ := hC
  refine fun H locs ls hP hD hS hl => lv_icmp_le (tgt := tgt) hx hb d ht (fun c1 => ?_) (fun c1 => ?_)
  · exact k2 (by rw [if_neg (Int32.not_lt.mpr c1)] at h; exact h) H locs ls hP hD hS hl
  · exact k1 (by rw [if_pos (Int32.not_le.mp c1)] at h; exact h) H locs ls hP hD hS hl
theorem dc_if_eq (hC : dc_K X D tys ad de cc nL own) {τ : Type} {E1 E2 : Option τ} {F : τ → Prop} {x : Int32} {off : Int} {tgt : Nat} (d : decode cc pc = .ok (.ifCond .eq off, 3)) (ht : (pc : Int) + off = (tgt : Int)) (h : dc_wp (if x = 0 then E1 else E2) F) (k1 : dc_wp E1 F → dc_G X l R D nL k n ws tgt lv st) (k2 : dc_wp E2 F → dc_G X l R D nL k n ws (pc + 3) lv st) : dc_G X l R D nL k n ws pc lv (.int x :: st) := by
  obtain ⟨p, e, s, m, args, below, meth, c, Q, A⟩ := X
  obtain ⟨hx, hb, hml, hown, hts, hK, hE, hA⟩ := hC
  refine fun H locs ls hP hD hS hl => lv_if_eq (tgt := tgt) hx hb d ht (fun c1 => ?_) (fun c1 => ?_)
  · exact k1 (by rw [if_pos c1] at h; exact h) H locs ls hP hD hS hl
  · exact k2 (by rw [if_neg c1] at h; exact h) H locs ls hP hD hS hl
theorem dc_if_ne (hC : dc_K X D tys ad de cc nL own) {τ : Type} {E1 E2 : Option τ} {F : τ → Prop} {x : Int32} {off : Int} {tgt : Nat} (d : decode cc pc = .ok (.ifCond .ne off, 3)) (ht : (pc : Int) + off = (tgt : Int)) (h : dc_wp (if x = 0 then E1 else E2) F) (k1 : dc_wp E1 F → dc_G X l R D nL k n ws (pc + 3) lv st) (k2 : dc_wp E2 F → dc_G X l R D nL k n ws tgt lv st) : dc_G X l R D nL k n ws pc lv (.int x :: st) := by
  obtain ⟨p, e, s, m, args, below, meth, c, Q, A⟩ := X
  obtain ⟨hx, hb, hml, hown, hts, hK, hE, hA⟩ := hC
  refine fun H locs ls hP hD hS hl => lv_if_ne (tgt := tgt) hx hb d ht (fun c1 => ?_) (fun c1 => ?_)
  · exact k2 (by rw [if_neg c1] at h; exact h) H locs ls hP hD hS hl
  · exact k1 (by rw [if_pos c1] at h; exact h) H locs ls hP hD hS hl
theorem dc_if_lt (hC : dc_K X D tys ad de cc nL own) {τ : Type} {E1 E2 : Option τ} {F : τ → Prop} {x : Int32} {off : Int} {tgt : Nat} (d : decode cc pc = .ok (.ifCond .lt off, 3)) (ht : (pc : Int) + off = (tgt : Int)) (h : dc_wp (if x < 0 then E1 else E2) F) (k1 : dc_wp E1 F → dc_G X l R D nL k n ws tgt lv st) (k2 : dc_wp E2 F → dc_G X l R D nL k n ws (pc + 3) lv st) : dc_G X l R D nL k n ws pc lv (.int x :: st) := by
  obtain ⟨p, e, s, m, args, below, meth, c, Q, A⟩ := X
  obtain ⟨hx, hb, hml, hown, hts, hK, hE, hA⟩ := hC
  refine fun H locs ls hP hD hS hl => lv_if_lt (tgt := tgt) hx hb d ht (fun c1 => ?_) (fun c1 => ?_)
  · exact k1 (by rw [if_pos c1] at h; exact h) H locs ls hP hD hS hl
  · exact k2 (by rw [if_neg c1] at h; exact h) H locs ls hP hD hS hl
theorem dc_if_ge (hC : dc_K X D tys ad de cc nL own) {τ : Type} {E1 E2 : Option τ} {F : τ → Prop} {x : Int32} {off : Int} {tgt : Nat} (d : decode cc pc = .ok (.ifCond .ge off, 3)) (ht : (pc : Int) + off = (tgt : Int)) (h : dc_wp (if x < 0 then E1 else E2) F) (k1 : dc_wp E1 F → dc_G X l R D nL k n ws (pc + 3) lv st) (k2 : dc_wp E2 F → dc_G X l R D nL k n ws tgt lv st) : dc_G X l R D nL k n ws pc lv (.int x :: st) := by
  obtain ⟨p, e, s, m, args, below, meth, c, Q, A⟩ := X
  obtain ⟨hx, hb, hml, hown, hts, hK, hE, hA⟩ := hC
  refine fun H locs ls hP hD hS hl => lv_if_ge (tgt := tgt) hx hb d ht (fun c1 => ?_) (fun c1 => ?_)
  · exact k2 (by rw [if_neg (Int32.not_lt.mpr c1)] at h; exact h) H locs ls hP hD hS hl
  · exact k1 (by rw [if_pos (Int32.not_le.mp c1)] at h; exact h) H locs ls hP hD hS hl
theorem dc_if_gt (hC : dc_K X D tys ad de cc nL own) {τ : Type} {E1 E2 : Option τ} {F : τ → Prop} {x : Int32} {off : Int} {tgt : Nat} (d : decode cc pc = .ok (.ifCond .gt off, 3)) (ht : (pc : Int) + off = (tgt : Int)) (h : dc_wp (if 0 < x then E1 else E2) F) (k1 : dc_wp E1 F → dc_G X l R D nL k n ws tgt lv st) (k2 : dc_wp E2 F → dc_G X l R D nL k n ws (pc + 3) lv st) : dc_G X l R D nL k n ws pc lv (.int x :: st) := by
  obtain ⟨p, e, s, m, args, below, meth, c, Q, A⟩ := X
  obtain ⟨hx, hb, hml, hown, hts, hK, hE, hA⟩ := hC
  refine fun H locs ls hP hD hS hl => lv_if_gt (tgt := tgt) hx hb d ht (fun c1 => ?_) (fun c1 => ?_)
  · exact k1 (by rw [if_pos c1] at h; exact h) H locs ls hP hD hS hl
  · exact k2 (by rw [if_neg c1] at h; exact h) H locs ls hP hD hS hl
theorem dc_if_le (hC : dc_K X D tys ad de cc nL own) {τ : Type} {E1 E2 : Option τ} {F : τ → Prop} {x : Int32} {off : Int} {tgt : Nat} (d : decode cc pc = .ok (.ifCond .le off, 3)) (ht : (pc : Int) + off = (tgt : Int)) (h : dc_wp (if 0 < x then E1 else E2) F) (k1 : dc_wp E1 F → dc_G X l R D nL k n ws (pc + 3) lv st) (k2 : dc_wp E2 F → dc_G X l R D nL k n ws tgt lv st) : dc_G X l R D nL k n ws pc lv (.int x :: st) := by
  obtain ⟨p, e, s, m, args, below, meth, c, Q, A⟩ := X
  obtain ⟨hx, hb, hml, hown, hts, hK, hE, hA⟩ := hC
  refine fun H locs ls hP hD hS hl => lv_if_le (tgt := tgt) hx hb d ht (fun c1 => ?_) (fun c1 => ?_)
  · exact k2 (by rw [if_neg (Int32.not_lt.mpr c1)] at h; exact h) H locs ls hP hD hS hl
  · exact k1 (by rw [if_pos (Int32.not_le.mp c1)] at h; exact h) H locs ls hP hD hS hl
theorem dc_iald (hC : dc_K X D tys ad de cc nL own) {τ : Type} {E : Nat → Option τ} {F : τ → Prop} {a : Nat} {cA : ClassId} {N : Nat} {f : Nat → Int32} {i : Int32} (q0 t0 : Nat) (ha : ws[q0]? = some (a, .inl (cA, N, .inl f))) (ht : tys[t0]? = some (cA, .int)) (d : decode cc pc = .ok (.iaload, 1)) (h : dc_wp ((dc_ix i N).bind E) F) (kk : ∀ j : Nat, dc_wp (E j) F → dc_G X l R D nL k n ws (pc + 1) lv (.int (f j) :: st)) : dc_G X l R D nL k n ws pc lv (.int i :: .ref a :: st) := by
  obtain ⟨p, e, s, m, args, below, meth, c, Q, A⟩ := X
  obtain ⟨hx, hb, hml, hown, hts, hK, hE, hA⟩ := hC
  obtain ⟨hin, h2⟩ := dc_ix_wp (dc_bind h)
  exact fun H locs ls hP hD hS hl => va_iald hx hb hK hP q0 t0 ha ht hin d (kk _ h2 H locs ls hP hD hS hl)
theorem dc_bald (hC : dc_K X D tys ad de cc nL own) {τ : Type} {E : Nat → Option τ} {F : τ → Prop} {a : Nat} {cA : ClassId} {N : Nat} {f : Nat → Int32} {i : Int32} (q0 t0 : Nat) (ha : ws[q0]? = some (a, .inl (cA, N, .inl f))) (ht : tys[t0]? = some (cA, .byte)) (d : decode cc pc = .ok (.baload, 1)) (h : dc_wp ((dc_ix i N).bind E) F) (kk : ∀ j : Nat, dc_wp (E j) F → dc_G X l R D nL k n ws (pc + 1) lv (.int (f j) :: st)) : dc_G X l R D nL k n ws pc lv (.int i :: .ref a :: st) := by
  obtain ⟨p, e, s, m, args, below, meth, c, Q, A⟩ := X
  obtain ⟨hx, hb, hml, hown, hts, hK, hE, hA⟩ := hC
  obtain ⟨hin, h2⟩ := dc_ix_wp (dc_bind h)
  exact fun H locs ls hP hD hS hl => va_bald hx hb hK hP q0 t0 ha ht hin d (kk _ h2 H locs ls hP hD hS hl)
theorem dc_zald (hC : dc_K X D tys ad de cc nL own) {τ : Type} {E : Nat → Option τ} {F : τ → Prop} {a : Nat} {cA : ClassId} {N : Nat} {f : Nat → Int32} {i : Int32} (q0 t0 : Nat) (ha : ws[q0]? = some (a, .inl (cA, N, .inl f))) (ht : tys[t0]? = some (cA, .boolean)) (d : decode cc pc = .ok (.baload, 1)) (h : dc_wp ((dc_ix i N).bind E) F) (kk : ∀ j : Nat, dc_wp (E j) F → dc_G X l R D nL k n ws (pc + 1) lv (.int (f j) :: st)) : dc_G X l R D nL k n ws pc lv (.int i :: .ref a :: st) := by
  obtain ⟨p, e, s, m, args, below, meth, c, Q, A⟩ := X
  obtain ⟨hx, hb, hml, hown, hts, hK, hE, hA⟩ := hC
  obtain ⟨hin, h2⟩ := dc_ix_wp (dc_bind h)
  exact fun H locs ls hP hD hS hl => va_zald hx hb hK hP q0 t0 ha ht hin d (kk _ h2 H locs ls hP hD hS hl)
theorem dc_lald (hC : dc_K X D tys ad de cc nL own) {τ : Type} {E : Nat → Option τ} {F : τ → Prop} {a : Nat} {cA : ClassId} {N : Nat} {f : Nat → Int64} {i : Int32} (q0 t0 : Nat) (ha : ws[q0]? = some (a, .inl (cA, N, .inr (.inl f)))) (ht : tys[t0]? = some (cA, .long)) (d : decode cc pc = .ok (.laload, 1)) (h : dc_wp ((dc_ix i N).bind E) F) (kk : ∀ j : Nat, dc_wp (E j) F → dc_G X l R D nL k n ws (pc + 1) lv (.long (f j) :: st)) : dc_G X l R D nL k n ws pc lv (.int i :: .ref a :: st) := by
  obtain ⟨p, e, s, m, args, below, meth, c, Q, A⟩ := X
  obtain ⟨hx, hb, hml, hown, hts, hK, hE, hA⟩ := hC
  obtain ⟨hin, h2⟩ := dc_ix_wp (dc_bind h)
  exact fun H locs ls hP hD hS hl => va_lald hx hb hK hP q0 t0 ha ht hin d (kk _ h2 H locs ls hP hD hS hl)
theorem dc_iast (hC : dc_K X D tys ad de cc nL own) {τ : Type} {E : Nat → Option τ} {F : τ → Prop} {a : Nat} {cA : ClassId} {N : Nat} {f : Nat → Int32} {i : Int32} {x : Int32} {ws' : Nat → va_W} (q0 t0 : Nat) (ha : ws[q0]? = some (a, .inl (cA, N, .inl f))) (ht : tys[t0]? = some (cA, .int)) (hw : ∀ j, (ws.set q0 (a, .inl (cA, N, .inl (upd f j x)))) = ws' j) (d : decode cc pc = .ok (.iastore, 1)) (h : dc_wp ((dc_ix i N).bind E) F) (kk : ∀ j : Nat, dc_wp (E j) F → dc_G X l R D nL k n (ws' j) (pc + 1) lv st) : dc_G X l R D nL k n ws pc lv (.int x :: .int i :: .ref a :: st) := by
  obtain ⟨p, e, s, m, args, below, meth, c, Q, A⟩ := X
  obtain ⟨hx, hb, hml, hown, hts, hK, hE, hA⟩ := hC
  obtain ⟨hin, h2⟩ := dc_ix_wp (dc_bind h)
  refine fun H locs ls hP hD hS hl => va_iast hx hb hK hP hD hS q0 t0 ha ht hin d (fun H1 locs1 hP1 hD1 hS1 => ?_)
  exact kk _ h2 H1 locs1 ls (by rw [← hw]; exact hP1) (by rw [← hw]; exact hD1) hS1 hl
theorem dc_bast (hC : dc_K X D tys ad de cc nL own) {τ : Type} {E : Nat → Option τ} {F : τ → Prop} {a : Nat} {cA : ClassId} {N : Nat} {f : Nat → Int32} {i : Int32} {x : Int32} {ws' : Nat → va_W} (q0 t0 : Nat) (ha : ws[q0]? = some (a, .inl (cA, N, .inl f))) (ht : tys[t0]? = some (cA, .byte)) (hw : ∀ j, (ws.set q0 (a, .inl (cA, N, .inl (upd f j (vp_nar .byte x))))) = ws' j) (d : decode cc pc = .ok (.bastore, 1)) (h : dc_wp ((dc_ix i N).bind E) F) (kk : ∀ j : Nat, dc_wp (E j) F → dc_G X l R D nL k n (ws' j) (pc + 1) lv st) : dc_G X l R D nL k n ws pc lv (.int x :: .int i :: .ref a :: st) := by
  obtain ⟨p, e, s, m, args, below, meth, c, Q, A⟩ := X
  obtain ⟨hx, hb, hml, hown, hts, hK, hE, hA⟩ := hC
  obtain ⟨hin, h2⟩ := dc_ix_wp (dc_bind h)
  refine fun H locs ls hP hD hS hl => va_bast hx hb hK hP hD hS q0 t0 ha ht hin d (fun H1 locs1 hP1 hD1 hS1 => ?_)
  exact kk _ h2 H1 locs1 ls (by rw [← hw]; exact hP1) (by rw [← hw]; exact hD1) hS1 hl
theorem dc_last (hC : dc_K X D tys ad de cc nL own) {τ : Type} {E : Nat → Option τ} {F : τ → Prop} {a : Nat} {cA : ClassId} {N : Nat} {f : Nat → Int64} {i : Int32} {x : Int64} {ws' : Nat → va_W} (q0 t0 : Nat) (ha : ws[q0]? = some (a, .inl (cA, N, .inr (.inl f)))) (ht : tys[t0]? = some (cA, .long)) (hw : ∀ j, (ws.set q0 (a, .inl (cA, N, .inr (.inl (vp_updL f j x))))) = ws' j) (d : decode cc pc = .ok (.lastore, 1)) (h : dc_wp ((dc_ix i N).bind E) F) (kk : ∀ j : Nat, dc_wp (E j) F → dc_G X l R D nL k n (ws' j) (pc + 1) lv st) : dc_G X l R D nL k n ws pc lv (.long x :: .int i :: .ref a :: st) := by
  obtain ⟨p, e, s, m, args, below, meth, c, Q, A⟩ := X
  obtain ⟨hx, hb, hml, hown, hts, hK, hE, hA⟩ := hC
  obtain ⟨hin, h2⟩ := dc_ix_wp (dc_bind h)
  refine fun H locs ls hP hD hS hl => va_last hx hb hK hP hD hS q0 t0 ha ht hin d (fun H1 locs1 hP1 hD1 hS1 => ?_)
  exact kk _ h2 H1 locs1 ls (by rw [← hw]; exact hP1) (by rw [← hw]; exact hD1) hS1 hl
theorem dc_zast (hC : dc_K X D tys ad de cc nL own) {τ : Type} {E : Nat → Option τ} {F : τ → Prop} {a : Nat} {cA : ClassId} {N : Nat} {f : Nat → Int32} {i : Int32} {x : Int32} {ws' : Nat → va_W} (q0 t0 : Nat) (ha : ws[q0]? = some (a, .inl (cA, N, .inl f))) (ht : tys[t0]? = some (cA, .boolean)) (hz : x = 0 ∨ x = 1) (hw : ∀ j, (ws.set q0 (a, .inl (cA, N, .inl (upd f j x)))) = ws' j) (d : decode cc pc = .ok (.bastore, 1)) (h : dc_wp ((dc_ix i N).bind E) F) (kk : ∀ j : Nat, dc_wp (E j) F → dc_G X l R D nL k n (ws' j) (pc + 1) lv st) : dc_G X l R D nL k n ws pc lv (.int x :: .int i :: .ref a :: st) := by
  obtain ⟨p, e, s, m, args, below, meth, c, Q, A⟩ := X
  obtain ⟨hx, hb, hml, hown, hts, hK, hE, hA⟩ := hC
  obtain ⟨hin, h2⟩ := dc_ix_wp (dc_bind h)
  refine fun H locs ls hP hD hS hl => va_zast hx hb hK hP hD hS q0 t0 ha ht hin d (fun H1 locs1 hP1 hD1 hS1 => ?_)
  rw [(dc_nar hz).1] at hP1 hD1
  exact kk _ h2 H1 locs1 ls (by rw [← hw]; exact hP1) (by rw [← hw]; exact hD1) hS1 hl
theorem dc_get (hC : dc_K X D tys ad de cc nL own) {ref C : String} {T : u_T} {N ci index : Nat} {a : Nat} {fs : List Value} {v : Value} (hin : ∀ w ∈ u_ws C T N, w ∈ tt) (q0 : Nat) (he : ws[q0]? = some (a, .inr (ci, fs))) (hc : cl[ci]? = some (C, T, N)) (f : Nat) (hk : f < N) (hlink : Cond.fieldLink own index ref (T f).2.1 (T f).2.2.1 ∈ tt) (hsame : (T f).1 = ref) (hv : fs[f]? = some v) (d : decode cc pc = .ok (.getfield index, 3)) (kk : dc_G X l R D nL k n ws (pc + 3) lv (v :: st)) : dc_G X l R D nL k n ws pc lv (.ref a :: st) := by
  obtain ⟨p, e, s, m, args, below, meth, c, Q, A⟩ := X
  obtain ⟨hx, hb, hml, hown, hts, hK, hE, hA⟩ := hC
  subst hsame
  exact fun H locs ls hP hD hS hl => va_get (D := D) hx hb hts hin hown hK hP q0 he hc f hk (hts _ hlink) (fun _ h9 => h9) hv d (kk H locs ls hP hD hS hl)
theorem dc_put (hC : dc_K X D tys ad de cc nL own) {ref C : String} {T : u_T} {N ci index : Nat} {a : Nat} {fs : List Value} {v : Value} {ty : FieldType} {ws' : va_W} (hin : ∀ w ∈ u_ws C T N, w ∈ tt) (ty0 : Nat → FieldType) (hty : ∀ k, k < N → parseFieldDescriptor (T k).2.2.1 = some (ty0 k)) (hnm : ∀ a, a < N → ∀ b, b < N → a ≠ b → (T a).2.1 ≠ (T b).2.1) (q0 : Nat) (he : ws[q0]? = some (a, .inr (ci, fs))) (hc : cl[ci]? = some (C, T, N)) (f : Nat) (hk : f < N) (hlink : Cond.fieldLink own index ref (T f).2.1 (T f).2.2.1 ∈ tt) (hsame : (T f).1 = ref) (hfin : (T f).2.2.2 = false) (hd : parseFieldDescriptor (T f).2.2.1 = some ty) (hn : narrow ty v = v) (hfit : fits ty v = true) (hlen : f < fs.length) (hw : ws.set q0 (a, .inr (ci, fs.set f v)) = ws') (d : decode cc pc = .ok (.putfield index, 3)) (kk : dc_G X l R D nL k n ws' (pc + 3) lv st) : dc_G X l R D nL k n ws pc lv (v :: .ref a :: st) := by
  obtain ⟨p, e, s, m, args, below, meth, c, Q, A⟩ := X
  obtain ⟨hx, hb, hml, hown, hts, hK, hE, hA⟩ := hC
  subst hsame
  refine fun H locs ls hP hD hS hl => va_put (D := D) hx hb hts hin ty0 hty hnm hown hK hP hD hS q0 he hc f hk (hts _ hlink) (fun _ h9 => h9) hfin hd hn hfit hlen d (fun H1 locs1 hP1 hD1 hS1 => ?_)
  exact kk H1 locs1 ls (by rw [← hw]; exact hP1) (by rw [← hw]; exact hD1) hS1 hl
theorem dc_iret (hC : dc_K X D tys ad de cc nL own) {Kp : Int32 → va_W → Prop} {v : Int32} (hR : dc_Ri X D tys (some .int) Kp k n) (hv : Kp v ws) (d : decode cc pc = .ok (.ireturn, 1)) : dc_G X l R D nL k n ws pc lv [.int v] := by
  obtain ⟨p, e, s, m, args, below, meth, c, Q, A⟩ := X
  obtain ⟨hx, hb, hml, hown, hts, hK, hE, hA⟩ := hC
  obtain ⟨hr, hlocks, rfl⟩ := hR
  exact fun H locs ls hP hD hS hl => W.iret (v := v) hx hb hr (fun t ht hW => ⟨⟨v, ws, rfl, hv, by rw [ht]; exact hP, va_K.moved hW.alike hK, hD⟩, hS.F ht⟩) hS.2.2 d
theorem dc_zret (hC : dc_K X D tys ad de cc nL own) {Kp : Int32 → va_W → Prop} {v : Int32} (hR : dc_Ri X D tys (some .boolean) Kp k n) (hz : v = 0 ∨ v = 1) (hv : Kp v ws) (d : decode cc pc = .ok (.ireturn, 1)) : dc_G X l R D nL k n ws pc lv [.int v] := by
  obtain ⟨p, e, s, m, args, below, meth, c, Q, A⟩ := X
  obtain ⟨hx, hb, hml, hown, hts, hK, hE, hA⟩ := hC
  obtain ⟨hr, hlocks, rfl⟩ := hR
  exact fun H locs ls hP hD hS hl => W.zret (v := v) hx hb hr (dc_nar hz).2.1 (fun t ht hW => ⟨⟨v, ws, rfl, hv, by rw [ht]; exact hP, va_K.moved hW.alike hK, hD⟩, hS.F ht⟩) hS.2.2 d
theorem dc_lret (hC : dc_K X D tys ad de cc nL own) {Kp : Int64 → va_W → Prop} {v : Int64} (hR : dc_Rl X D tys (some .long) Kp k n) (hv : Kp v ws) (d : decode cc pc = .ok (.lreturn, 1)) : dc_G X l R D nL k n ws pc lv [.long v] := by
  obtain ⟨p, e, s, m, args, below, meth, c, Q, A⟩ := X
  obtain ⟨hx, hb, hml, hown, hts, hK, hE, hA⟩ := hC
  obtain ⟨hr, hlocks, rfl⟩ := hR
  exact fun H locs ls hP hD hS hl => W.lret (v := v) hx hb hr (fun t ht hW => ⟨⟨v, ws, rfl, hv, by rw [ht]; exact hP, va_K.moved hW.alike hK, hD⟩, hS.F ht⟩) hS.2.2 d
theorem dc_vret (hC : dc_K X D tys ad de cc nL own) {Kp : va_W → Prop} (hR : dc_Rv X D tys none Kp k n) (hv : Kp ws) (d : decode cc pc = .ok (.return_, 1)) : dc_G X l R D nL k n ws pc lv [] := by
  obtain ⟨p, e, s, m, args, below, meth, c, Q, A⟩ := X
  obtain ⟨hx, hb, hml, hown, hts, hK, hE, hA⟩ := hC
  obtain ⟨hr, hlocks, rfl⟩ := hR
  exact fun H locs ls hP hD hS hl => W.vret hx hb hr (fun t ht hW => ⟨⟨ws, rfl, hv, by rw [ht]; exact hP, va_K.moved hW.alike hK, hD⟩, hS.F ht⟩) hS.2.2 d
end DCR
theorem dc_enteri {l : Launch} {y : MethodName} {cc : ByteArray} {nL : Nat} {ret : Option FieldType} {fr lo : Nat} {D : va_G} {tys : List (ClassId × FieldType)} {ad : Nat → Nat} {de : Nat} {av : List Value} {ws : va_W} {Kp : Int32 → va_W → Prop} {mc ms : Nat} (hy : plainName y.cls = true) (hav : (lg_sl av).length ≤ nL)
    (body : ∀ X : dc_X, dc_K X D tys ad de cc nL y.cls → dc_Ri X D tys ret Kp mc ms → dc_G X l { frames := fr, cells := mc, slots := ms, locals := lo } D nL 0 0 ws 0 (lv_args 0 av) []) : dc_Ci l y cc nL ret fr lo D tys ad de av ws Kp mc ms := by
  intro sz
  refine xMet hy hav ?_
  intro p e s m below meth c hx hb hr hlocks hin hml hown hts hsz hP hK hD hE hA ls hl
  exact body (p, e, s, m, av.toArray, below, meth, c, MQ below (va_Qi Kp (fun u t => xq D (va_A ws sz) u tys t) (va_A ws sz)) av.toArray s mc ms (va_A ws sz), va_A ws sz) ⟨hx, hb, hml, hown, hts, hK, hE, hA⟩ ⟨hr, hlocks, rfl⟩ s.heap [] ls hP hD va_S.rf hl
theorem dc_enterl {l : Launch} {y : MethodName} {cc : ByteArray} {nL : Nat} {ret : Option FieldType} {fr lo : Nat} {D : va_G} {tys : List (ClassId × FieldType)} {ad : Nat → Nat} {de : Nat} {av : List Value} {ws : va_W} {Kp : Int64 → va_W → Prop} {mc ms : Nat} (hy : plainName y.cls = true) (hav : (lg_sl av).length ≤ nL)
    (body : ∀ X : dc_X, dc_K X D tys ad de cc nL y.cls → dc_Rl X D tys ret Kp mc ms → dc_G X l { frames := fr, cells := mc, slots := ms, locals := lo } D nL 0 0 ws 0 (lv_args 0 av) []) : dc_Cl l y cc nL ret fr lo D tys ad de av ws Kp mc ms := by
  intro sz
  refine xMet hy hav ?_
  intro p e s m below meth c hx hb hr hlocks hin hml hown hts hsz hP hK hD hE hA ls hl
  exact body (p, e, s, m, av.toArray, below, meth, c, MQ below (va_Ql Kp (fun u t => xq D (va_A ws sz) u tys t) (va_A ws sz)) av.toArray s mc ms (va_A ws sz), va_A ws sz) ⟨hx, hb, hml, hown, hts, hK, hE, hA⟩ ⟨hr, hlocks, rfl⟩ s.heap [] ls hP hD va_S.rf hl
theorem dc_enterv {l : Launch} {y : MethodName} {cc : ByteArray} {nL : Nat} {ret : Option FieldType} {fr lo : Nat} {D : va_G} {tys : List (ClassId × FieldType)} {ad : Nat → Nat} {de : Nat} {av : List Value} {ws : va_W} {Kp : va_W → Prop} {mc ms : Nat} (hy : plainName y.cls = true) (hav : (lg_sl av).length ≤ nL)
    (body : ∀ X : dc_X, dc_K X D tys ad de cc nL y.cls → dc_Rv X D tys ret Kp mc ms → dc_G X l { frames := fr, cells := mc, slots := ms, locals := lo } D nL 0 0 ws 0 (lv_args 0 av) []) : dc_Cv l y cc nL ret fr lo D tys ad de av ws Kp mc ms := by
  intro sz
  refine xMet hy hav ?_
  intro p e s m below meth c hx hb hr hlocks hin hml hown hts hsz hP hK hD hE hA ls hl
  exact body (p, e, s, m, av.toArray, below, meth, c, MQ below (va_Qv Kp (fun u t => xq D (va_A ws sz) u tys t) (va_A ws sz)) av.toArray s mc ms (va_A ws sz), va_A ws sz) ⟨hx, hb, hml, hown, hts, hK, hE, hA⟩ ⟨hr, hlocks, rfl⟩ s.heap [] ls hP hD va_S.rf hl
def dc_VW (own : String) (index : Nat) (y : MethodName) (cc : ByteArray) (nL : Nat) (ret : Option FieldType) (na : Nat) : Prop := Cond.code y cc nL ret ∈ tt ∧ Cond.initialized y.cls ∈ tt ∧ Cond.methodLink own index y ∈ tt ∧ Cond.instanceMethod y ∈ tt ∧ Cond.selects y.cls y y ∈ tt ∧ (y.cls ≠ "java/lang/invoke/MethodHandle" ∧ y.cls ≠ "java/lang/invoke/VarHandle" ∧ (parseMethodDescriptor y.desc).map (fun d => d.parameters.length) = some na)
def dc_SW (own : String) (index : Nat) (y : MethodName) (cc : ByteArray) (nL : Nat) (ret : Option FieldType) (na : Nat) : Prop := Cond.code y cc nL ret ∈ tt ∧ Cond.initialized y.cls ∈ tt ∧ Cond.methodLink own index y ∈ tt ∧ Cond.static y ∈ tt ∧ (y.cls ≠ "java/lang/invoke/MethodHandle" ∧ y.cls ≠ "java/lang/invoke/VarHandle" ∧ (parseMethodDescriptor y.desc).map (fun d => d.parameters.length) = some na)
theorem dc_all {α : Type} (ws : List α) : (List.range ws.length).map (fun i => ws[i]?) = ws.map some := by
  apply List.ext_getElem?
  intro i
  rw [List.getElem?_map, List.getElem?_map]
  by_cases h : i < ws.length
  · rw [List.getElem?_range h, List.getElem?_eq_getElem h]; simp [List.getElem?_eq_getElem h]
  · rw [List.getElem?_eq_none (by simp; omega), List.getElem?_eq_none (by omega)]; rfl
theorem dc_allt {α : Type} (ws : List α) : (List.range ws.length).filterMap (fun i => ws[i]?) = ws := by
  have h := congrArg (List.filterMap id) (dc_all ws)
  simpa [List.filterMap_map] using h
theorem dc_nd : ∀ {is : List Nat} (_ : is.Nodup), va_nd is = true
  | [], _ => rfl
  | a :: l, h => by
    have h2 := List.nodup_cons.mp h
    show (decide (a ∉ l) && va_nd l) = true
    rw [dc_nd h2.2, decide_eq_true h2.1]; rfl
theorem dc_callVi {X : dc_X} {l : Launch} {R : Room} {D : va_G} {tys : List (ClassId × FieldType)} {ad : Nat → Nat} {de : Nat} {cc : ByteArray} {nL k n pc : Nat} {own : String} {ws : va_W} {lv : List (Nat × Value)} {y : MethodName} {bytes : ByteArray} {maxL : Nat} {ret : Option FieldType} {fr lo mc ms index : Nat} {b : Addr} {As rest st0 : List Value} {Kp : Int32 → va_W → Prop} (hC : dc_K X D tys ad de cc nL own) (hw : dc_VW own index y bytes maxL ret As.length) (hM : dc_Ci l y bytes maxL ret fr lo D tys ad de (.ref b :: As) ws Kp mc ms) (hR : fr + 1 ≤ R.frames ∧ 8 + (maxL + 11) + lo ≤ R.locals) (hrv : ∃ (q0 ci : Nat) (q : vw_C) (fs : List Value), cl[ci]? = some q ∧ ws[q0]? = some (b, .inr (ci, fs)) ∧ q.1 = y.cls) (hstack : st0 = As.reverse ++ .ref b :: rest) (hW : (rest.map fun v => v.category).sum ≤ 8) (d : decode cc pc = .ok (.invokevirtual index, 3)) (hf : k + mc ≤ R.cells ∧ n + ms ≤ R.slots)
    (kk : ∀ (r : Int32) (ws' : va_W), Kp r ws' → dc_G X l R D nL (k + mc) (n + ms) ws' (pc + 3) lv (.int r :: rest)) : dc_G X l R D nL k n ws pc lv st0 := by
  obtain ⟨p, e, s, m, args, below, meth, c, Q, A⟩ := X
  obtain ⟨hx, hb, hml, hown, hts, hK, hE, hA⟩ := hC
  obtain ⟨m5, m4, m1, m2, m3, hdd⟩ := hw
  intro H locs ls hP hD hS hl
  refine xki (wr := []) (xrV (ad := ad) (de := de) (wc := ws) (tc := tys) (As := As) (rest := rest) ⟨hx, hb, hml, hown, hts⟩ (hM H.size) m5 m4 m1 m2 m3 rfl rfl hdd hR hP hK hD hE hS hA (List.range ws.length) (List.range tys.length) (dc_all ws) (dc_nd List.nodup_range) (dc_allt tys) hrv hl.1 hstack hW d hf) hP hK hD hS hA (List.range ws.length) [] (dc_all ws) rfl rfl (fun i h => by cases h) (fun r u H1 locs1 hw1 hP1 hK1 hD1 hS1 => ?_)
  exact kk r u hw1 H1 locs1 ls hP1 hD1 hS1 hl
theorem dc_callSi {X : dc_X} {l : Launch} {R : Room} {D : va_G} {tys : List (ClassId × FieldType)} {ad : Nat → Nat} {de : Nat} {cc : ByteArray} {nL k n pc : Nat} {own : String} {ws : va_W} {lv : List (Nat × Value)} {y : MethodName} {bytes : ByteArray} {maxL : Nat} {ret : Option FieldType} {fr lo mc ms index : Nat} {As rest st0 : List Value} {Kp : Int32 → va_W → Prop} (hC : dc_K X D tys ad de cc nL own) (hw : dc_SW own index y bytes maxL ret As.length) (hM : dc_Ci l y bytes maxL ret fr lo D tys ad de As ws Kp mc ms) (hR : fr + 1 ≤ R.frames ∧ 8 + (maxL + 11) + lo ≤ R.locals) (hstack : st0 = As.reverse ++ rest) (hW : (rest.map fun v => v.category).sum ≤ 8) (d : decode cc pc = .ok (.invokestatic index, 3)) (hf : k + mc ≤ R.cells ∧ n + ms ≤ R.slots)
    (kk : ∀ (r : Int32) (ws' : va_W), Kp r ws' → dc_G X l R D nL (k + mc) (n + ms) ws' (pc + 3) lv (.int r :: rest)) : dc_G X l R D nL k n ws pc lv st0 := by
  obtain ⟨p, e, s, m, args, below, meth, c, Q, A⟩ := X
  obtain ⟨hx, hb, hml, hown, hts, hK, hE, hA⟩ := hC
  obtain ⟨m5, m4, m1, m2, hdd⟩ := hw
  intro H locs ls hP hD hS hl
  refine xki (wr := []) (xrS (ad := ad) (de := de) (wc := ws) (tc := tys) (As := As) (rest := rest) ⟨hx, hb, hml, hown, hts⟩ (hM H.size) m5 m4 m1 m2 rfl rfl hdd hR hP hK hD hE hS hA (List.range ws.length) (List.range tys.length) (dc_all ws) (dc_nd List.nodup_range) (dc_allt tys) hl.1 hstack hW d hf) hP hK hD hS hA (List.range ws.length) [] (dc_all ws) rfl rfl (fun i h => by cases h) (fun r u H1 locs1 hw1 hP1 hK1 hD1 hS1 => ?_)
  exact kk r u hw1 H1 locs1 ls hP1 hD1 hS1 hl
theorem dc_callVl {X : dc_X} {l : Launch} {R : Room} {D : va_G} {tys : List (ClassId × FieldType)} {ad : Nat → Nat} {de : Nat} {cc : ByteArray} {nL k n pc : Nat} {own : String} {ws : va_W} {lv : List (Nat × Value)} {y : MethodName} {bytes : ByteArray} {maxL : Nat} {ret : Option FieldType} {fr lo mc ms index : Nat} {b : Addr} {As rest st0 : List Value} {Kp : Int64 → va_W → Prop} (hC : dc_K X D tys ad de cc nL own) (hw : dc_VW own index y bytes maxL ret As.length) (hM : dc_Cl l y bytes maxL ret fr lo D tys ad de (.ref b :: As) ws Kp mc ms) (hR : fr + 1 ≤ R.frames ∧ 8 + (maxL + 11) + lo ≤ R.locals) (hrv : ∃ (q0 ci : Nat) (q : vw_C) (fs : List Value), cl[ci]? = some q ∧ ws[q0]? = some (b, .inr (ci, fs)) ∧ q.1 = y.cls) (hstack : st0 = As.reverse ++ .ref b :: rest) (hW : (rest.map fun v => v.category).sum ≤ 8) (d : decode cc pc = .ok (.invokevirtual index, 3)) (hf : k + mc ≤ R.cells ∧ n + ms ≤ R.slots)
    (kk : ∀ (r : Int64) (ws' : va_W), Kp r ws' → dc_G X l R D nL (k + mc) (n + ms) ws' (pc + 3) lv (.long r :: rest)) : dc_G X l R D nL k n ws pc lv st0 := by
  obtain ⟨p, e, s, m, args, below, meth, c, Q, A⟩ := X
  obtain ⟨hx, hb, hml, hown, hts, hK, hE, hA⟩ := hC
  obtain ⟨m5, m4, m1, m2, m3, hdd⟩ := hw
  intro H locs ls hP hD hS hl
  refine xkl (wr := []) (xrV (ad := ad) (de := de) (wc := ws) (tc := tys) (As := As) (rest := rest) ⟨hx, hb, hml, hown, hts⟩ (hM H.size) m5 m4 m1 m2 m3 rfl rfl hdd hR hP hK hD hE hS hA (List.range ws.length) (List.range tys.length) (dc_all ws) (dc_nd List.nodup_range) (dc_allt tys) hrv hl.1 hstack hW d hf) hP hK hD hS hA (List.range ws.length) [] (dc_all ws) rfl rfl (fun i h => by cases h) (fun r u H1 locs1 hw1 hP1 hK1 hD1 hS1 => ?_)
  exact kk r u hw1 H1 locs1 ls hP1 hD1 hS1 hl
theorem dc_callSl {X : dc_X} {l : Launch} {R : Room} {D : va_G} {tys : List (ClassId × FieldType)} {ad : Nat → Nat} {de : Nat} {cc : ByteArray} {nL k n pc : Nat} {own : String} {ws : va_W} {lv : List (Nat × Value)} {y : MethodName} {bytes : ByteArray} {maxL : Nat} {ret : Option FieldType} {fr lo mc ms index : Nat} {As rest st0 : List Value} {Kp : Int64 → va_W → Prop} (hC : dc_K X D tys ad de cc nL own) (hw : dc_SW own index y bytes maxL ret As.length) (hM : dc_Cl l y bytes maxL ret fr lo D tys ad de As ws Kp mc ms) (hR : fr + 1 ≤ R.frames ∧ 8 + (maxL + 11) + lo ≤ R.locals) (hstack : st0 = As.reverse ++ rest) (hW : (rest.map fun v => v.category).sum ≤ 8) (d : decode cc pc = .ok (.invokestatic index, 3)) (hf : k + mc ≤ R.cells ∧ n + ms ≤ R.slots)
    (kk : ∀ (r : Int64) (ws' : va_W), Kp r ws' → dc_G X l R D nL (k + mc) (n + ms) ws' (pc + 3) lv (.long r :: rest)) : dc_G X l R D nL k n ws pc lv st0 := by
  obtain ⟨p, e, s, m, args, below, meth, c, Q, A⟩ := X
  obtain ⟨hx, hb, hml, hown, hts, hK, hE, hA⟩ := hC
  obtain ⟨m5, m4, m1, m2, hdd⟩ := hw
  intro H locs ls hP hD hS hl
  refine xkl (wr := []) (xrS (ad := ad) (de := de) (wc := ws) (tc := tys) (As := As) (rest := rest) ⟨hx, hb, hml, hown, hts⟩ (hM H.size) m5 m4 m1 m2 rfl rfl hdd hR hP hK hD hE hS hA (List.range ws.length) (List.range tys.length) (dc_all ws) (dc_nd List.nodup_range) (dc_allt tys) hl.1 hstack hW d hf) hP hK hD hS hA (List.range ws.length) [] (dc_all ws) rfl rfl (fun i h => by cases h) (fun r u H1 locs1 hw1 hP1 hK1 hD1 hS1 => ?_)
  exact kk r u hw1 H1 locs1 ls hP1 hD1 hS1 hl
theorem dc_callVv {X : dc_X} {l : Launch} {R : Room} {D : va_G} {tys : List (ClassId × FieldType)} {ad : Nat → Nat} {de : Nat} {cc : ByteArray} {nL k n pc : Nat} {own : String} {ws : va_W} {lv : List (Nat × Value)} {y : MethodName} {bytes : ByteArray} {maxL : Nat} {ret : Option FieldType} {fr lo mc ms index : Nat} {b : Addr} {As rest st0 : List Value} {Kp : va_W → Prop} (hC : dc_K X D tys ad de cc nL own) (hw : dc_VW own index y bytes maxL ret As.length) (hM : dc_Cv l y bytes maxL ret fr lo D tys ad de (.ref b :: As) ws Kp mc ms) (hR : fr + 1 ≤ R.frames ∧ 8 + (maxL + 11) + lo ≤ R.locals) (hrv : ∃ (q0 ci : Nat) (q : vw_C) (fs : List Value), cl[ci]? = some q ∧ ws[q0]? = some (b, .inr (ci, fs)) ∧ q.1 = y.cls) (hstack : st0 = As.reverse ++ .ref b :: rest) (hW : (rest.map fun v => v.category).sum ≤ 8) (d : decode cc pc = .ok (.invokevirtual index, 3)) (hf : k + mc ≤ R.cells ∧ n + ms ≤ R.slots)
    (kk : ∀ (ws' : va_W), Kp ws' → dc_G X l R D nL (k + mc) (n + ms) ws' (pc + 3) lv rest) : dc_G X l R D nL k n ws pc lv st0 := by
  obtain ⟨p, e, s, m, args, below, meth, c, Q, A⟩ := X
  obtain ⟨hx, hb, hml, hown, hts, hK, hE, hA⟩ := hC
  obtain ⟨m5, m4, m1, m2, m3, hdd⟩ := hw
  intro H locs ls hP hD hS hl
  refine xkv (wr := []) (xrV (ad := ad) (de := de) (wc := ws) (tc := tys) (As := As) (rest := rest) ⟨hx, hb, hml, hown, hts⟩ (hM H.size) m5 m4 m1 m2 m3 rfl rfl hdd hR hP hK hD hE hS hA (List.range ws.length) (List.range tys.length) (dc_all ws) (dc_nd List.nodup_range) (dc_allt tys) hrv hl.1 hstack hW d hf) hP hK hD hS hA (List.range ws.length) [] (dc_all ws) rfl rfl (fun i h => by cases h) (fun u H1 locs1 hw1 hP1 hK1 hD1 hS1 => ?_)
  exact kk u hw1 H1 locs1 ls hP1 hD1 hS1 hl
theorem dc_callSv {X : dc_X} {l : Launch} {R : Room} {D : va_G} {tys : List (ClassId × FieldType)} {ad : Nat → Nat} {de : Nat} {cc : ByteArray} {nL k n pc : Nat} {own : String} {ws : va_W} {lv : List (Nat × Value)} {y : MethodName} {bytes : ByteArray} {maxL : Nat} {ret : Option FieldType} {fr lo mc ms index : Nat} {As rest st0 : List Value} {Kp : va_W → Prop} (hC : dc_K X D tys ad de cc nL own) (hw : dc_SW own index y bytes maxL ret As.length) (hM : dc_Cv l y bytes maxL ret fr lo D tys ad de As ws Kp mc ms) (hR : fr + 1 ≤ R.frames ∧ 8 + (maxL + 11) + lo ≤ R.locals) (hstack : st0 = As.reverse ++ rest) (hW : (rest.map fun v => v.category).sum ≤ 8) (d : decode cc pc = .ok (.invokestatic index, 3)) (hf : k + mc ≤ R.cells ∧ n + ms ≤ R.slots)
    (kk : ∀ (ws' : va_W), Kp ws' → dc_G X l R D nL (k + mc) (n + ms) ws' (pc + 3) lv rest) : dc_G X l R D nL k n ws pc lv st0 := by
  obtain ⟨p, e, s, m, args, below, meth, c, Q, A⟩ := X
  obtain ⟨hx, hb, hml, hown, hts, hK, hE, hA⟩ := hC
  obtain ⟨m5, m4, m1, m2, hdd⟩ := hw
  intro H locs ls hP hD hS hl
  refine xkv (wr := []) (xrS (ad := ad) (de := de) (wc := ws) (tc := tys) (As := As) (rest := rest) ⟨hx, hb, hml, hown, hts⟩ (hM H.size) m5 m4 m1 m2 rfl rfl hdd hR hP hK hD hE hS hA (List.range ws.length) (List.range tys.length) (dc_all ws) (dc_nd List.nodup_range) (dc_allt tys) hl.1 hstack hW d hf) hP hK hD hS hA (List.range ws.length) [] (dc_all ws) rfl rfl (fun i h => by cases h) (fun u H1 locs1 hw1 hP1 hK1 hD1 hS1 => ?_)
  exact kk u hw1 H1 locs1 ls hP1 hD1 hS1 hl
