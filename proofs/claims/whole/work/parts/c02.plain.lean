/-! rows of plain instructions over the class's heap; written by wip/gen/rowsC.py -/
section HGP
variable {X : dc_X} {l : Launch} {R : Room} {D : va_G} {G : hg_E} {cc : ByteArray} {nL pc : Nat} {own : String} {S : hg_S} {lv : List (Nat × Value)} {st : List Value}
/-- fewer locals -/
theorem hg_sub {lv' : List (Nat × Value)} (ks : List Nat) (hl : lv_pick lv ks = lv') (kk : hg_G X l R D nL S pc lv' st) : hg_G X l R D nL S pc lv st := by
  obtain ⟨p, e, s, m, args, below, meth, c, Q, A⟩ := X
  exact fun H locs ls hh h => kk H locs ls hh (lv_sub h ks hl)
theorem hg_iadd (hC : hg_K X D G cc nL own) {x y : Int32} (d : decode cc pc = .ok (.iadd, 1)) (kk : hg_G X l R D nL S (pc + 1) lv (.int (x + y) :: st)) : hg_G X l R D nL S pc lv (.int y :: .int x :: st) := by
  obtain ⟨p, e, s, m, args, below, meth, c, Q, A⟩ := X
  obtain ⟨hx, hb, hml, hown, hts, hK, hE, hA⟩ := hC
  exact fun H locs ls hh hl => lv_iadd hx hb d (kk H locs ls hh hl)
theorem hg_isub (hC : hg_K X D G cc nL own) {x y : Int32} (d : decode cc pc = .ok (.isub, 1)) (kk : hg_G X l R D nL S (pc + 1) lv (.int (x - y) :: st)) : hg_G X l R D nL S pc lv (.int y :: .int x :: st) := by
  obtain ⟨p, e, s, m, args, below, meth, c, Q, A⟩ := X
  obtain ⟨hx, hb, hml, hown, hts, hK, hE, hA⟩ := hC
  exact fun H locs ls hh hl => lv_isub hx hb d (kk H locs ls hh hl)
theorem hg_imul (hC : hg_K X D G cc nL own) {x y : Int32} (d : decode cc pc = .ok (.imul, 1)) (kk : hg_G X l R D nL S (pc + 1) lv (.int (x * y) :: st)) : hg_G X l R D nL S pc lv (.int y :: .int x :: st) := by
  obtain ⟨p, e, s, m, args, below, meth, c, Q, A⟩ := X
  obtain ⟨hx, hb, hml, hown, hts, hK, hE, hA⟩ := hC
  exact fun H locs ls hh hl => lv_imul hx hb d (kk H locs ls hh hl)
theorem hg_iand (hC : hg_K X D G cc nL own) {x y : Int32} (d : decode cc pc = .ok (.iand, 1)) (kk : hg_G X l R D nL S (pc + 1) lv (.int (x &&& y) :: st)) : hg_G X l R D nL S pc lv (.int y :: .int x :: st) := by
  obtain ⟨p, e, s, m, args, below, meth, c, Q, A⟩ := X
  obtain ⟨hx, hb, hml, hown, hts, hK, hE, hA⟩ := hC
  exact fun H locs ls hh hl => lv_iand hx hb d (kk H locs ls hh hl)
theorem hg_ior (hC : hg_K X D G cc nL own) {x y : Int32} (d : decode cc pc = .ok (.ior, 1)) (kk : hg_G X l R D nL S (pc + 1) lv (.int (x ||| y) :: st)) : hg_G X l R D nL S pc lv (.int y :: .int x :: st) := by
  obtain ⟨p, e, s, m, args, below, meth, c, Q, A⟩ := X
  obtain ⟨hx, hb, hml, hown, hts, hK, hE, hA⟩ := hC
  exact fun H locs ls hh hl => lv_ior hx hb d (kk H locs ls hh hl)
theorem hg_ixor (hC : hg_K X D G cc nL own) {x y : Int32} (d : decode cc pc = .ok (.ixor, 1)) (kk : hg_G X l R D nL S (pc + 1) lv (.int (x ^^^ y) :: st)) : hg_G X l R D nL S pc lv (.int y :: .int x :: st) := by
  obtain ⟨p, e, s, m, args, below, meth, c, Q, A⟩ := X
  obtain ⟨hx, hb, hml, hown, hts, hK, hE, hA⟩ := hC
  exact fun H locs ls hh hl => lv_ixor hx hb d (kk H locs ls hh hl)
theorem hg_ishl (hC : hg_K X D G cc nL own) {x y : Int32} (d : decode cc pc = .ok (.ishl, 1)) (kk : hg_G X l R D nL S (pc + 1) lv (.int (x <<< (y &&& 31)) :: st)) : hg_G X l R D nL S pc lv (.int y :: .int x :: st) := by
  obtain ⟨p, e, s, m, args, below, meth, c, Q, A⟩ := X
  obtain ⟨hx, hb, hml, hown, hts, hK, hE, hA⟩ := hC
  exact fun H locs ls hh hl => lv_ishl hx hb d (kk H locs ls hh hl)
theorem hg_ishr (hC : hg_K X D G cc nL own) {x y : Int32} (d : decode cc pc = .ok (.ishr, 1)) (kk : hg_G X l R D nL S (pc + 1) lv (.int (x >>> (y &&& 31)) :: st)) : hg_G X l R D nL S pc lv (.int y :: .int x :: st) := by
  obtain ⟨p, e, s, m, args, below, meth, c, Q, A⟩ := X
  obtain ⟨hx, hb, hml, hown, hts, hK, hE, hA⟩ := hC
  exact fun H locs ls hh hl => lv_ishr hx hb d (kk H locs ls hh hl)
theorem hg_land (hC : hg_K X D G cc nL own) {x y : Int64} (d : decode cc pc = .ok (.land, 1)) (kk : hg_G X l R D nL S (pc + 1) lv (.long (x &&& y) :: st)) : hg_G X l R D nL S pc lv (.long y :: .long x :: st) := by
  obtain ⟨p, e, s, m, args, below, meth, c, Q, A⟩ := X
  obtain ⟨hx, hb, hml, hown, hts, hK, hE, hA⟩ := hC
  exact fun H locs ls hh hl => lv_land hx hb d (kk H locs ls hh hl)
theorem hg_lor (hC : hg_K X D G cc nL own) {x y : Int64} (d : decode cc pc = .ok (.lor, 1)) (kk : hg_G X l R D nL S (pc + 1) lv (.long (x ||| y) :: st)) : hg_G X l R D nL S pc lv (.long y :: .long x :: st) := by
  obtain ⟨p, e, s, m, args, below, meth, c, Q, A⟩ := X
  obtain ⟨hx, hb, hml, hown, hts, hK, hE, hA⟩ := hC
  exact fun H locs ls hh hl => lv_lor hx hb d (kk H locs ls hh hl)
theorem hg_ineg (hC : hg_K X D G cc nL own) {x : Int32} (d : decode cc pc = .ok (.ineg, 1)) (kk : hg_G X l R D nL S (pc + 1) lv (.int (-x) :: st)) : hg_G X l R D nL S pc lv (.int x :: st) := by
  obtain ⟨p, e, s, m, args, below, meth, c, Q, A⟩ := X
  obtain ⟨hx, hb, hml, hown, hts, hK, hE, hA⟩ := hC
  exact fun H locs ls hh hl => lv_ineg hx hb d (kk H locs ls hh hl)
theorem hg_idiv (hC : hg_K X D G cc nL own) {x y : Int32} (d : decode cc pc = .ok (.idiv, 1)) (hne : ¬ y = 0) (kk : hg_G X l R D nL S (pc + 1) lv (.int (x / y) :: st)) : hg_G X l R D nL S pc lv (.int y :: .int x :: st) := by
  obtain ⟨p, e, s, m, args, below, meth, c, Q, A⟩ := X
  obtain ⟨hx, hb, hml, hown, hts, hK, hE, hA⟩ := hC
  exact fun H locs ls hh hl => lv_idiv hx hb d hne (kk H locs ls hh hl)
theorem hg_irem (hC : hg_K X D G cc nL own) {x y : Int32} (d : decode cc pc = .ok (.irem, 1)) (hne : ¬ y = 0) (kk : hg_G X l R D nL S (pc + 1) lv (.int (x - x / y * y) :: st)) : hg_G X l R D nL S pc lv (.int y :: .int x :: st) := by
  obtain ⟨p, e, s, m, args, below, meth, c, Q, A⟩ := X
  obtain ⟨hx, hb, hml, hown, hts, hK, hE, hA⟩ := hC
  exact fun H locs ls hh hl => lv_irem hx hb d hne (kk H locs ls hh hl)
theorem hg_iushr (hC : hg_K X D G cc nL own) {x y : Int32} (d : decode cc pc = .ok (.iushr, 1)) (kk : hg_G X l R D nL S (pc + 1) lv (.int ((x.toUInt32 >>> (y.toUInt32 &&& Int32.toUInt32 31)).toInt32) :: st)) : hg_G X l R D nL S pc lv (.int y :: .int x :: st) := by
  obtain ⟨p, e, s, m, args, below, meth, c, Q, A⟩ := X
  obtain ⟨hx, hb, hml, hown, hts, hK, hE, hA⟩ := hC
  exact fun H locs ls hh hl => lv_iushr hx hb d rfl (kk H locs ls hh hl)
theorem hg_lshl (hC : hg_K X D G cc nL own) {x : Int64} {y : Int32} (d : decode cc pc = .ok (.lshl, 1)) (kk : hg_G X l R D nL S (pc + 1) lv (.long (x <<< (y.toInt64 &&& 63)) :: st)) : hg_G X l R D nL S pc lv (.int y :: .long x :: st) := by
  obtain ⟨p, e, s, m, args, below, meth, c, Q, A⟩ := X
  obtain ⟨hx, hb, hml, hown, hts, hK, hE, hA⟩ := hC
  exact fun H locs ls hh hl => lv_lshl hx hb d rfl (kk H locs ls hh hl)
theorem hg_lshr (hC : hg_K X D G cc nL own) {x : Int64} {y : Int32} (d : decode cc pc = .ok (.lshr, 1)) (kk : hg_G X l R D nL S (pc + 1) lv (.long (x >>> (y.toInt64 &&& 63)) :: st)) : hg_G X l R D nL S pc lv (.int y :: .long x :: st) := by
  obtain ⟨p, e, s, m, args, below, meth, c, Q, A⟩ := X
  obtain ⟨hx, hb, hml, hown, hts, hK, hE, hA⟩ := hC
  exact fun H locs ls hh hl => lv_lshr hx hb d rfl (kk H locs ls hh hl)
theorem hg_i2l (hC : hg_K X D G cc nL own) {x : Int32} (d : decode cc pc = .ok (.i2l, 1)) (kk : hg_G X l R D nL S (pc + 1) lv (.long x.toInt64 :: st)) : hg_G X l R D nL S pc lv (.int x :: st) := by
  obtain ⟨p, e, s, m, args, below, meth, c, Q, A⟩ := X
  obtain ⟨hx, hb, hml, hown, hts, hK, hE, hA⟩ := hC
  exact fun H locs ls hh hl => lv_i2l hx hb d rfl (kk H locs ls hh hl)
theorem hg_i2b (hC : hg_K X D G cc nL own) {x : Int32} (d : decode cc pc = .ok (.i2b, 1)) (kk : hg_G X l R D nL S (pc + 1) lv (.int x.toInt8.toInt32 :: st)) : hg_G X l R D nL S pc lv (.int x :: st) := by
  obtain ⟨p, e, s, m, args, below, meth, c, Q, A⟩ := X
  obtain ⟨hx, hb, hml, hown, hts, hK, hE, hA⟩ := hC
  exact fun H locs ls hh hl => lv_i2b hx hb d rfl (kk H locs ls hh hl)
theorem hg_iconst (hC : hg_K X D G cc nL own) {i : Int} {v : Int32} (d : decode cc pc = .ok (.iconst i, 1)) (hv : Int32.ofInt i = v) (kk : hg_G X l R D nL S (pc + 1) lv (.int v :: st)) : hg_G X l R D nL S pc lv st := by
  obtain ⟨p, e, s, m, args, below, meth, c, Q, A⟩ := X
  obtain ⟨hx, hb, hml, hown, hts, hK, hE, hA⟩ := hC
  exact fun H locs ls hh hl => lv_iconst hx hb d hv (kk H locs ls hh hl)
theorem hg_bipush (hC : hg_K X D G cc nL own) {i : Int} {v : Int32} (d : decode cc pc = .ok (.bipush i, 2)) (hv : (Int8.ofInt i).toInt32 = v) (kk : hg_G X l R D nL S (pc + 2) lv (.int v :: st)) : hg_G X l R D nL S pc lv st := by
  obtain ⟨p, e, s, m, args, below, meth, c, Q, A⟩ := X
  obtain ⟨hx, hb, hml, hown, hts, hK, hE, hA⟩ := hC
  exact fun H locs ls hh hl => lv_bipush hx hb d hv (kk H locs ls hh hl)
theorem hg_sipush (hC : hg_K X D G cc nL own) {i : Int} {v : Int32} (d : decode cc pc = .ok (.sipush i, 3)) (hv : (Int16.ofInt i).toInt32 = v) (kk : hg_G X l R D nL S (pc + 3) lv (.int v :: st)) : hg_G X l R D nL S pc lv st := by
  obtain ⟨p, e, s, m, args, below, meth, c, Q, A⟩ := X
  obtain ⟨hx, hb, hml, hown, hts, hK, hE, hA⟩ := hC
  exact fun H locs ls hh hl => lv_sipush hx hb d hv (kk H locs ls hh hl)
theorem hg_lconst (hC : hg_K X D G cc nL own) {i : Fin 2} {v : Int64} (d : decode cc pc = .ok (.lconst i, 1)) (hv : Int64.ofNat (i : Nat) = v) (kk : hg_G X l R D nL S (pc + 1) lv (.long v :: st)) : hg_G X l R D nL S pc lv st := by
  obtain ⟨p, e, s, m, args, below, meth, c, Q, A⟩ := X
  obtain ⟨hx, hb, hml, hown, hts, hK, hE, hA⟩ := hC
  exact fun H locs ls hh hl => lv_lconst hx hb d hv (kk H locs ls hh hl)
theorem hg_ldc (hC : hg_K X D G cc nL own) {index : Nat} {v : Int32} (w : Cond.constant own index v ∈ tt) (d : decode cc pc = .ok (.ldc index, 2)) (kk : hg_G X l R D nL S (pc + 2) lv (.int v :: st)) : hg_G X l R D nL S pc lv st := by
  obtain ⟨p, e, s, m, args, below, meth, c, Q, A⟩ := X
  obtain ⟨hx, hb, hml, hown, hts, hK, hE, hA⟩ := hC
  exact fun H locs ls hh hl => lv_ldc hx hb hown (hts _ w) d (kk H locs ls hh hl)
theorem hg_ldcw (hC : hg_K X D G cc nL own) {index : Nat} {v : Int32} (w : Cond.constant own index v ∈ tt) (d : decode cc pc = .ok (.ldc_w index, 3)) (kk : hg_G X l R D nL S (pc + 3) lv (.int v :: st)) : hg_G X l R D nL S pc lv st := by
  obtain ⟨p, e, s, m, args, below, meth, c, Q, A⟩ := X
  obtain ⟨hx, hb, hml, hown, hts, hK, hE, hA⟩ := hC
  exact fun H locs ls hh hl => lv_ldcw hx hb hown (hts _ w) d (kk H locs ls hh hl)
theorem hg_ldc2 (hC : hg_K X D G cc nL own) {index : Nat} {v : Int64} (w : Cond.constantLong own index v ∈ tt) (d : decode cc pc = .ok (.ldc2_w index, 3)) (kk : hg_G X l R D nL S (pc + 3) lv (.long v :: st)) : hg_G X l R D nL S pc lv st := by
  obtain ⟨p, e, s, m, args, below, meth, c, Q, A⟩ := X
  obtain ⟨hx, hb, hml, hown, hts, hK, hE, hA⟩ := hC
  exact fun H locs ls hh hl => lv_ldc2 hx hb hown (hts _ w) d (kk H locs ls hh hl)
theorem hg_dup (hC : hg_K X D G cc nL own) {v : Value} (d : decode cc pc = .ok (.dup, 1)) (h1 : v.category = 1) (kk : hg_G X l R D nL S (pc + 1) lv (v :: v :: st)) : hg_G X l R D nL S pc lv (v :: st) := by
  obtain ⟨p, e, s, m, args, below, meth, c, Q, A⟩ := X
  obtain ⟨hx, hb, hml, hown, hts, hK, hE, hA⟩ := hC
  exact fun H locs ls hh hl => lv_dup hx hb d h1 (kk H locs ls hh hl)
theorem hg_pop (hC : hg_K X D G cc nL own) {v : Value} (d : decode cc pc = .ok (.pop, 1)) (h1 : v.category = 1) (kk : hg_G X l R D nL S (pc + 1) lv st) : hg_G X l R D nL S pc lv (v :: st) := by
  obtain ⟨p, e, s, m, args, below, meth, c, Q, A⟩ := X
  obtain ⟨hx, hb, hml, hown, hts, hK, hE, hA⟩ := hC
  exact fun H locs ls hh hl => lv_pop hx hb d h1 (kk H locs ls hh hl)
theorem hg_dup_x1 (hC : hg_K X D G cc nL own) {v w : Value} (d : decode cc pc = .ok (.dup_x1, 1)) (h1 : v.category = 1) (h2 : w.category = 1) (kk : hg_G X l R D nL S (pc + 1) lv (v :: w :: v :: st)) : hg_G X l R D nL S pc lv (v :: w :: st) := by
  obtain ⟨p, e, s, m, args, below, meth, c, Q, A⟩ := X
  obtain ⟨hx, hb, hml, hown, hts, hK, hE, hA⟩ := hC
  exact fun H locs ls hh hl => lv_dup_x1 hx hb d h1 h2 (kk H locs ls hh hl)
theorem hg_dup_x2 (hC : hg_K X D G cc nL own) {v w u : Value} (d : decode cc pc = .ok (.dup_x2, 1)) (h1 : v.category = 1) (h2 : w.category = 1) (h3 : u.category = 1) (kk : hg_G X l R D nL S (pc + 1) lv (v :: w :: u :: v :: st)) : hg_G X l R D nL S pc lv (v :: w :: u :: st) := by
  obtain ⟨p, e, s, m, args, below, meth, c, Q, A⟩ := X
  obtain ⟨hx, hb, hml, hown, hts, hK, hE, hA⟩ := hC
  exact fun H locs ls hh hl => lv_dup_x2 hx hb d h1 h2 h3 (kk H locs ls hh hl)
theorem hg_dup2 (hC : hg_K X D G cc nL own) {v w : Value} (d : decode cc pc = .ok (.dup2, 1)) (h1 : v.category = 1) (h2 : w.category = 1) (kk : hg_G X l R D nL S (pc + 1) lv (v :: w :: v :: w :: st)) : hg_G X l R D nL S pc lv (v :: w :: st) := by
  obtain ⟨p, e, s, m, args, below, meth, c, Q, A⟩ := X
  obtain ⟨hx, hb, hml, hown, hts, hK, hE, hA⟩ := hC
  exact fun H locs ls hh hl => lv_dup2_11 hx hb d h1 h2 (kk H locs ls hh hl)
theorem hg_iloadn (hC : hg_K X D G cc nL own) {j : Fin 4} {i : Nat} {x : Int32} (place : Nat) (hi : (j : Nat) = i) (hp : lv[place]? = some (i, .int x)) (d : decode cc pc = .ok (.iload_n j, 1)) (kk : hg_G X l R D nL S (pc + 1) lv (.int x :: st)) : hg_G X l R D nL S pc lv st := by
  obtain ⟨p, e, s, m, args, below, meth, c, Q, A⟩ := X
  obtain ⟨hx, hb, hml, hown, hts, hK, hE, hA⟩ := hC
  exact fun H locs ls hh hl => lv_iload_n hx hb d hi (lv_at hl place hp) (kk H locs ls hh hl)
theorem hg_iload (hC : hg_K X D G cc nL own) {i : Nat} {x : Int32} (place : Nat) (hp : lv[place]? = some (i, .int x)) (d : decode cc pc = .ok (.iload i, 2)) (kk : hg_G X l R D nL S (pc + 2) lv (.int x :: st)) : hg_G X l R D nL S pc lv st := by
  obtain ⟨p, e, s, m, args, below, meth, c, Q, A⟩ := X
  obtain ⟨hx, hb, hml, hown, hts, hK, hE, hA⟩ := hC
  exact fun H locs ls hh hl => lv_iload hx hb d (lv_at hl place hp) (kk H locs ls hh hl)
theorem hg_istoren (hC : hg_K X D G cc nL own) {j : Fin 4} {i : Nat} {x : Int32} {lv' : List (Nat × Value)} (hi : (j : Nat) = i) (hn : i < nL) (hl' : (i, Value.int x) :: lv.filter (fun q => !(q.1 == i) && !(q.1 + 1 == i && q.2.category == 2)) = lv') (d : decode cc pc = .ok (.istore_n j, 1)) (kk : hg_G X l R D nL S (pc + 1) lv' st) : hg_G X l R D nL S pc lv (.int x :: st) := by
  obtain ⟨p, e, s, m, args, below, meth, c, Q, A⟩ := X
  obtain ⟨hx, hb, hml, hown, hts, hK, hE, hA⟩ := hC
  exact fun H locs ls hh hl => lv_istore_n hx hb d hi hl hn hl' (fun ls2 h2 => kk H locs ls2 hh h2)
theorem hg_istore (hC : hg_K X D G cc nL own) {i : Nat} {x : Int32} {lv' : List (Nat × Value)} (hn : i < nL) (hl' : (i, Value.int x) :: lv.filter (fun q => !(q.1 == i) && !(q.1 + 1 == i && q.2.category == 2)) = lv') (d : decode cc pc = .ok (.istore i, 2)) (kk : hg_G X l R D nL S (pc + 2) lv' st) : hg_G X l R D nL S pc lv (.int x :: st) := by
  obtain ⟨p, e, s, m, args, below, meth, c, Q, A⟩ := X
  obtain ⟨hx, hb, hml, hown, hts, hK, hE, hA⟩ := hC
  exact fun H locs ls hh hl => lv_istore hx hb d hl hn hl' (fun ls2 h2 => kk H locs ls2 hh h2)
theorem hg_lloadn (hC : hg_K X D G cc nL own) {j : Fin 4} {i : Nat} {x : Int64} (place : Nat) (hi : (j : Nat) = i) (hp : lv[place]? = some (i, .long x)) (d : decode cc pc = .ok (.lload_n j, 1)) (kk : hg_G X l R D nL S (pc + 1) lv (.long x :: st)) : hg_G X l R D nL S pc lv st := by
  obtain ⟨p, e, s, m, args, below, meth, c, Q, A⟩ := X
  obtain ⟨hx, hb, hml, hown, hts, hK, hE, hA⟩ := hC
  exact fun H locs ls hh hl => lv_lload_n hx hb d hi (lv_at hl place hp) (kk H locs ls hh hl)
theorem hg_lload (hC : hg_K X D G cc nL own) {i : Nat} {x : Int64} (place : Nat) (hp : lv[place]? = some (i, .long x)) (d : decode cc pc = .ok (.lload i, 2)) (kk : hg_G X l R D nL S (pc + 2) lv (.long x :: st)) : hg_G X l R D nL S pc lv st := by
  obtain ⟨p, e, s, m, args, below, meth, c, Q, A⟩ := X
  obtain ⟨hx, hb, hml, hown, hts, hK, hE, hA⟩ := hC
  exact fun H locs ls hh hl => lv_lload hx hb d (lv_at hl place hp) (kk H locs ls hh hl)
theorem hg_lstoren (hC : hg_K X D G cc nL own) {j : Fin 4} {i : Nat} {x : Int64} {lv' : List (Nat × Value)} (hi : (j : Nat) = i) (hn : i + 1 < nL) (hl' : (i, Value.long x) :: lv.filter (fun q => !(q.1 == i) && (!(q.1 == i + 1) && !(q.1 + 1 == i && q.2.category == 2))) = lv') (d : decode cc pc = .ok (.lstore_n j, 1)) (kk : hg_G X l R D nL S (pc + 1) lv' st) : hg_G X l R D nL S pc lv (.long x :: st) := by
  obtain ⟨p, e, s, m, args, below, meth, c, Q, A⟩ := X
  obtain ⟨hx, hb, hml, hown, hts, hK, hE, hA⟩ := hC
  exact fun H locs ls hh hl => lv_lstore_n hx hb d hi hl hn hl' (fun ls2 h2 => kk H locs ls2 hh h2)
theorem hg_lstore (hC : hg_K X D G cc nL own) {i : Nat} {x : Int64} {lv' : List (Nat × Value)} (hn : i + 1 < nL) (hl' : (i, Value.long x) :: lv.filter (fun q => !(q.1 == i) && (!(q.1 == i + 1) && !(q.1 + 1 == i && q.2.category == 2))) = lv') (d : decode cc pc = .ok (.lstore i, 2)) (kk : hg_G X l R D nL S (pc + 2) lv' st) : hg_G X l R D nL S pc lv (.long x :: st) := by
  obtain ⟨p, e, s, m, args, below, meth, c, Q, A⟩ := X
  obtain ⟨hx, hb, hml, hown, hts, hK, hE, hA⟩ := hC
  exact fun H locs ls hh hl => lv_lstore hx hb d hl hn hl' (fun ls2 h2 => kk H locs ls2 hh h2)
theorem hg_iinc (hC : hg_K X D G cc nL own) {i : Nat} {a : Int} {x v : Int32} {lv' : List (Nat × Value)} (place : Nat) (hp : lv[place]? = some (i, .int x)) (hv : x + Int32.ofInt a = v) (hn : i < nL) (hl' : (i, Value.int v) :: lv.filter (fun q => !(q.1 == i) && !(q.1 + 1 == i && q.2.category == 2)) = lv') (d : decode cc pc = .ok (.iinc i a, 3)) (kk : hg_G X l R D nL S (pc + 3) lv' st) : hg_G X l R D nL S pc lv st := by
  obtain ⟨p, e, s, m, args, below, meth, c, Q, A⟩ := X
  obtain ⟨hx, hb, hml, hown, hts, hK, hE, hA⟩ := hC
  exact fun H locs ls hh hl => lv_iinc hx hb d hl (k := place) hp hv hn hl' (fun ls2 h2 => kk H locs ls2 hh h2)
theorem hg_goto (hC : hg_K X D G cc nL own) {off : Int} {tgt : Nat} (d : decode cc pc = .ok (.goto off, 3)) (ht : (pc : Int) + off = (tgt : Int)) (kk : hg_G X l R D nL S tgt lv st) : hg_G X l R D nL S pc lv st := by
  obtain ⟨p, e, s, m, args, below, meth, c, Q, A⟩ := X
  obtain ⟨hx, hb, hml, hown, hts, hK, hE, hA⟩ := hC
  exact fun H locs ls hh hl => lv_goto hx hb d ht (kk H locs ls hh hl)
theorem hg_icmp_eq (hC : hg_K X D G cc nL own) {τ : Type} {E1 E2 : Option τ} {F : τ → Prop} {x y : Int32} {off : Int} {tgt : Nat} (d : decode cc pc = .ok (.if_icmp .eq off, 3)) (ht : (pc : Int) + off = (tgt : Int)) (h : dc_wp (if x = y then E1 else E2) F) (k1 : dc_wp E1 F → hg_G X l R D nL S tgt lv st) (k2 : dc_wp E2 F → hg_G X l R D nL S (pc + 3) lv st) : hg_G X l R D nL S pc lv (.int y :: .int x :: st) := by
  obtain ⟨p, e, s, m, args, below, meth, c, Q, A⟩ := X
  obtain ⟨hx, hb, hml, hown, hts, hK, hE, hA⟩ := hC
  refine fun H locs ls hh hl => lv_icmp_eq (tgt := tgt) hx hb d ht (fun c1 => ?_) (fun c1 => ?_)
  · exact k1 (by rw [if_pos c1] at h; exact h) H locs ls hh hl
  · exact k2 (by rw [if_neg c1] at h; exact h) H locs ls hh hl
theorem hg_icmp_ne (hC : hg_K X D G cc nL own) {τ : Type} {E1 E2 : Option τ} {F : τ → Prop} {x y : Int32} {off : Int} {tgt : Nat} (d : decode cc pc = .ok (.if_icmp .ne off, 3)) (ht : (pc : Int) + off = (tgt : Int)) (h : dc_wp (if x = y then E1 else E2) F) (k1 : dc_wp E1 F → hg_G X l R D nL S (pc + 3) lv st) (k2 : dc_wp E2 F → hg_G X l R D nL S tgt lv st) : hg_G X l R D nL S pc lv (.int y :: .int x :: st) := by
  obtain ⟨p, e, s, m, args, below, meth, c, Q, A⟩ := X
  obtain ⟨hx, hb, hml, hown, hts, hK, hE, hA⟩ := hC
  refine fun H locs ls hh hl => lv_icmp_ne (tgt := tgt) hx hb d ht (fun c1 => ?_) (fun c1 => ?_)
  · exact k2 (by rw [if_neg c1] at h; exact h) H locs ls hh hl
  · exact k1 (by rw [if_pos c1] at h; exact h) H locs ls hh hl
theorem hg_icmp_lt (hC : hg_K X D G cc nL own) {τ : Type} {E1 E2 : Option τ} {F : τ → Prop} {x y : Int32} {off : Int} {tgt : Nat} (d : decode cc pc = .ok (.if_icmp .lt off, 3)) (ht : (pc : Int) + off = (tgt : Int)) (h : dc_wp (if x < y then E1 else E2) F) (k1 : dc_wp E1 F → hg_G X l R D nL S tgt lv st) (k2 : dc_wp E2 F → hg_G X l R D nL S (pc + 3) lv st) : hg_G X l R D nL S pc lv (.int y :: .int x :: st) := by
  obtain ⟨p, e, s, m, args, below, meth, c, Q, A⟩ := X
  obtain ⟨hx, hb, hml, hown, hts, hK, hE, hA⟩ := hC
  refine fun H locs ls hh hl => lv_icmp_lt (tgt := tgt) hx hb d ht (fun c1 => ?_) (fun c1 => ?_)
  · exact k1 (by rw [if_pos c1] at h; exact h) H locs ls hh hl
  · exact k2 (by rw [if_neg c1] at h; exact h) H locs ls hh hl
theorem hg_icmp_ge (hC : hg_K X D G cc nL own) {τ : Type} {E1 E2 : Option τ} {F : τ → Prop} {x y : Int32} {off : Int} {tgt : Nat} (d : decode cc pc = .ok (.if_icmp .ge off, 3)) (ht : (pc : Int) + off = (tgt : Int)) (h : dc_wp (if x < y then E1 else E2) F) (k1 : dc_wp E1 F → hg_G X l R D nL S (pc + 3) lv st) (k2 : dc_wp E2 F → hg_G X l R D nL S tgt lv st) : hg_G X l R D nL S pc lv (.int y :: .int x :: st) := by
  obtain ⟨p, e, s, m, args, below, meth, c, Q, A⟩ := X
  obtain ⟨hx, hb, hml, hown, hts, hK, hE, hA⟩ := hC
  refine fun H locs ls hh hl => lv_icmp_ge (tgt := tgt) hx hb d ht (fun c1 => ?_) (fun c1 => ?_)
  · exact k2 (by rw [if_neg (Int32.not_lt.mpr c1)] at h; exact h) H locs ls hh hl
  · exact k1 (by rw [if_pos (Int32.not_le.mp c1)] at h; exact h) H locs ls hh hl
theorem hg_icmp_gt (hC : hg_K X D G cc nL own) {τ : Type} {E1 E2 : Option τ} {F : τ → Prop} {x y : Int32} {off : Int} {tgt : Nat} (d : decode cc pc = .ok (.if_icmp .gt off, 3)) (ht : (pc : Int) + off = (tgt : Int)) (h : dc_wp (if y < x then E1 else E2) F) (k1 : dc_wp E1 F → hg_G X l R D nL S tgt lv st) (k2 : dc_wp E2 F → hg_G X l R D nL S (pc + 3) lv st) : hg_G X l R D nL S pc lv (.int y :: .int x :: st) := by
  obtain ⟨p, e, s, m, args, below, meth, c, Q, A⟩ := X
  obtain ⟨hx, hb, hml, hown, hts, hK, hE, hA⟩ := hC
  refine fun H locs ls hh hl => lv_icmp_gt (tgt := tgt) hx hb d ht (fun c1 => ?_) (fun c1 => ?_)
  · exact k1 (by rw [if_pos c1] at h; exact h) H locs ls hh hl
  · exact k2 (by rw [if_neg c1] at h; exact h) H locs ls hh hl
theorem hg_icmp_le (hC : hg_K X D G cc nL own) {τ : Type} {E1 E2 : Option τ} {F : τ → Prop} {x y : Int32} {off : Int} {tgt : Nat} (d : decode cc pc = .ok (.if_icmp .le off, 3)) (ht : (pc : Int) + off = (tgt : Int)) (h : dc_wp (if y < x then E1 else E2) F) (k1 : dc_wp E1 F → hg_G X l R D nL S (pc + 3) lv st) (k2 : dc_wp E2 F → hg_G X l R D nL S tgt lv st) : hg_G X l R D nL S pc lv (.int y :: .int x :: st) := by
  obtain ⟨p, e, s, m, args, below, meth, c, Q, A⟩ := X
  obtain ⟨hx, hb, hml, hown, hts, hK, hE, hA⟩ := hC
  refine fun H locs ls hh hl => lv_icmp_le (tgt := tgt) hx hb d ht (fun c1 => ?_) (fun c1 => ?_)
  · exact k2 (by rw [if_neg (Int32.not_lt.mpr c1)] at h; exact h) H locs ls hh hl
  · exact k1 (by rw [if_pos (Int32.not_le.mp c1)] at h; exact h) H locs ls hh hl
theorem hg_if_eq (hC : hg_K X D G cc nL own) {τ : Type} {E1 E2 : Option τ} {F : τ → Prop} {x : Int32} {off : Int} {tgt : Nat} (d : decode cc pc = .ok (.ifCond .eq off, 3)) (ht : (pc : Int) + off = (tgt : Int)) (h : dc_wp (if x = 0 then E1 else E2) F) (k1 : dc_wp E1 F → hg_G X l R D nL S tgt lv st) (k2 : dc_wp E2 F → hg_G X l R D nL S (pc + 3) lv st) : hg_G X l R D nL S pc lv (.int x :: st) := by
  obtain ⟨p, e, s, m, args, below, meth, c, Q, A⟩ := X
  obtain ⟨hx, hb, hml, hown, hts, hK, hE, hA⟩ := hC
  refine fun H locs ls hh hl => lv_if_eq (tgt := tgt) hx hb d ht (fun c1 => ?_) (fun c1 => ?_)
  · exact k1 (by rw [if_pos c1] at h; exact h) H locs ls hh hl
  · exact k2 (by rw [if_neg c1] at h; exact h) H locs ls hh hl
theorem hg_if_ne (hC : hg_K X D G cc nL own) {τ : Type} {E1 E2 : Option τ} {F : τ → Prop} {x : Int32} {off : Int} {tgt : Nat} (d : decode cc pc = .ok (.ifCond .ne off, 3)) (ht : (pc : Int) + off = (tgt : Int)) (h : dc_wp (if x = 0 then E1 else E2) F) (k1 : dc_wp E1 F → hg_G X l R D nL S (pc + 3) lv st) (k2 : dc_wp E2 F → hg_G X l R D nL S tgt lv st) : hg_G X l R D nL S pc lv (.int x :: st) := by
  obtain ⟨p, e, s, m, args, below, meth, c, Q, A⟩ := X
  obtain ⟨hx, hb, hml, hown, hts, hK, hE, hA⟩ := hC
  refine fun H locs ls hh hl => lv_if_ne (tgt := tgt) hx hb d ht (fun c1 => ?_) (fun c1 => ?_)
  · exact k2 (by rw [if_neg c1] at h; exact h) H locs ls hh hl
  · exact k1 (by rw [if_pos c1] at h; exact h) H locs ls hh hl
theorem hg_if_lt (hC : hg_K X D G cc nL own) {τ : Type} {E1 E2 : Option τ} {F : τ → Prop} {x : Int32} {off : Int} {tgt : Nat} (d : decode cc pc = .ok (.ifCond .lt off, 3)) (ht : (pc : Int) + off = (tgt : Int)) (h : dc_wp (if x < 0 then E1 else E2) F) (k1 : dc_wp E1 F → hg_G X l R D nL S tgt lv st) (k2 : dc_wp E2 F → hg_G X l R D nL S (pc + 3) lv st) : hg_G X l R D nL S pc lv (.int x :: st) := by
  obtain ⟨p, e, s, m, args, below, meth, c, Q, A⟩ := X
  obtain ⟨hx, hb, hml, hown, hts, hK, hE, hA⟩ := hC
  refine fun H locs ls hh hl => lv_if_lt (tgt := tgt) hx hb d ht (fun c1 => ?_) (fun c1 => ?_)
  · exact k1 (by rw [if_pos c1] at h; exact h) H locs ls hh hl
  · exact k2 (by rw [if_neg c1] at h; exact h) H locs ls hh hl
theorem hg_if_ge (hC : hg_K X D G cc nL own) {τ : Type} {E1 E2 : Option τ} {F : τ → Prop} {x : Int32} {off : Int} {tgt : Nat} (d : decode cc pc = .ok (.ifCond .ge off, 3)) (ht : (pc : Int) + off = (tgt : Int)) (h : dc_wp (if x < 0 then E1 else E2) F) (k1 : dc_wp E1 F → hg_G X l R D nL S (pc + 3) lv st) (k2 : dc_wp E2 F → hg_G X l R D nL S tgt lv st) : hg_G X l R D nL S pc lv (.int x :: st) := by
  obtain ⟨p, e, s, m, args, below, meth, c, Q, A⟩ := X
  obtain ⟨hx, hb, hml, hown, hts, hK, hE, hA⟩ := hC
  refine fun H locs ls hh hl => lv_if_ge (tgt := tgt) hx hb d ht (fun c1 => ?_) (fun c1 => ?_)
  · exact k2 (by rw [if_neg (Int32.not_lt.mpr c1)] at h; exact h) H locs ls hh hl
  · exact k1 (by rw [if_pos (Int32.not_le.mp c1)] at h; exact h) H locs ls hh hl
theorem hg_if_gt (hC : hg_K X D G cc nL own) {τ : Type} {E1 E2 : Option τ} {F : τ → Prop} {x : Int32} {off : Int} {tgt : Nat} (d : decode cc pc = .ok (.ifCond .gt off, 3)) (ht : (pc : Int) + off = (tgt : Int)) (h : dc_wp (if 0 < x then E1 else E2) F) (k1 : dc_wp E1 F → hg_G X l R D nL S tgt lv st) (k2 : dc_wp E2 F → hg_G X l R D nL S (pc + 3) lv st) : hg_G X l R D nL S pc lv (.int x :: st) := by
  obtain ⟨p, e, s, m, args, below, meth, c, Q, A⟩ := X
  obtain ⟨hx, hb, hml, hown, hts, hK, hE, hA⟩ := hC
  refine fun H locs ls hh hl => lv_if_gt (tgt := tgt) hx hb d ht (fun c1 => ?_) (fun c1 => ?_)
  · exact k1 (by rw [if_pos c1] at h; exact h) H locs ls hh hl
  · exact k2 (by rw [if_neg c1] at h; exact h) H locs ls hh hl
theorem hg_if_le (hC : hg_K X D G cc nL own) {τ : Type} {E1 E2 : Option τ} {F : τ → Prop} {x : Int32} {off : Int} {tgt : Nat} (d : decode cc pc = .ok (.ifCond .le off, 3)) (ht : (pc : Int) + off = (tgt : Int)) (h : dc_wp (if 0 < x then E1 else E2) F) (k1 : dc_wp E1 F → hg_G X l R D nL S (pc + 3) lv st) (k2 : dc_wp E2 F → hg_G X l R D nL S tgt lv st) : hg_G X l R D nL S pc lv (.int x :: st) := by
  obtain ⟨p, e, s, m, args, below, meth, c, Q, A⟩ := X
  obtain ⟨hx, hb, hml, hown, hts, hK, hE, hA⟩ := hC
  refine fun H locs ls hh hl => lv_if_le (tgt := tgt) hx hb d ht (fun c1 => ?_) (fun c1 => ?_)
  · exact k2 (by rw [if_neg (Int32.not_lt.mpr c1)] at h; exact h) H locs ls hh hl
  · exact k1 (by rw [if_pos (Int32.not_le.mp c1)] at h; exact h) H locs ls hh hl

theorem hg_letI {τ : Type} {e : Int32} {f : Int32 → Option τ} {F : τ → Prop} (h : dc_wp (dc_let e f) F) (kk : ∀ x, dc_wp (f x) F → hg_G X l R D nL S pc lv (.int x :: st)) : hg_G X l R D nL S pc lv (.int e :: st) := kk e h
theorem hg_letL {τ : Type} {e : Int64} {f : Int64 → Option τ} {F : τ → Prop} (h : dc_wp (dc_let e f) F) (kk : ∀ x, dc_wp (f x) F → hg_G X l R D nL S pc lv (.long x :: st)) : hg_G X l R D nL S pc lv (.long e :: st) := kk e h
theorem hg_tabIn (hC : hg_K X D G cc nL own) {dflt lo hi : Int} {offs : Array Int} {len : Nat} {x : Int32} {off : Int} {tgt : Nat} (d : decode cc pc = .ok (.tableswitch dflt lo hi offs, len)) (h1 : ¬ x.toInt < lo) (h2 : ¬ hi < x.toInt) (ho : offs[(x.toInt - lo).toNat]? = some off) (ht : (pc : Int) + off = (tgt : Int)) (kk : hg_G X l R D nL S tgt lv st) : hg_G X l R D nL S pc lv (.int x :: st) := by
  obtain ⟨p, e, s, m, args, below, meth, c, Q, A⟩ := X
  obtain ⟨hx, hb, hml, hown, hts, hK, hE, hA⟩ := hC
  exact fun H locs ls hh hl => lv_tableIn hx hb d h1 h2 ho ht (kk H locs ls hh hl)
theorem hg_tabOut (hC : hg_K X D G cc nL own) {dflt lo hi : Int} {offs : Array Int} {len : Nat} {x : Int32} {tgt : Nat} (d : decode cc pc = .ok (.tableswitch dflt lo hi offs, len)) (h1 : x.toInt < lo ∨ hi < x.toInt) (ht : (pc : Int) + dflt = (tgt : Int)) (kk : hg_G X l R D nL S tgt lv st) : hg_G X l R D nL S pc lv (.int x :: st) := by
  obtain ⟨p, e, s, m, args, below, meth, c, Q, A⟩ := X
  obtain ⟨hx, hb, hml, hown, hts, hK, hE, hA⟩ := hC
  exact fun H locs ls hh hl => lv_tableOut hx hb d h1 ht (kk H locs ls hh hl)
theorem hg_aloadn (hC : hg_K X D G cc nL own) {j : Fin 4} {i : Nat} {r : Option Nat} (place : Nat) (hi : (j : Nat) = i) (hp : lv[place]? = some (i, va_rf r)) (d : decode cc pc = .ok (.aload_n j, 1)) (kk : hg_G X l R D nL S (pc + 1) lv (va_rf r :: st)) : hg_G X l R D nL S pc lv st := by
  obtain ⟨p, e, s, m, args, below, meth, c, Q, A⟩ := X
  obtain ⟨hx, hb, hml, hown, hts, hK, hE, hA⟩ := hC
  cases r with
  | none => exact fun H locs ls hh hl => lv_aload_nN hx hb d hi (lv_at hl place hp) (kk H locs ls hh hl)
  | some x => exact fun H locs ls hh hl => lv_aload_n hx hb d hi (lv_at hl place hp) (kk H locs ls hh hl)
theorem hg_aload (hC : hg_K X D G cc nL own) {i : Nat} {r : Option Nat} (place : Nat) (hp : lv[place]? = some (i, va_rf r)) (d : decode cc pc = .ok (.aload i, 2)) (kk : hg_G X l R D nL S (pc + 2) lv (va_rf r :: st)) : hg_G X l R D nL S pc lv st := by
  obtain ⟨p, e, s, m, args, below, meth, c, Q, A⟩ := X
  obtain ⟨hx, hb, hml, hown, hts, hK, hE, hA⟩ := hC
  cases r with
  | none => exact fun H locs ls hh hl => lv_aloadN hx hb d (lv_at hl place hp) (kk H locs ls hh hl)
  | some x => exact fun H locs ls hh hl => lv_aload hx hb d (lv_at hl place hp) (kk H locs ls hh hl)
theorem hg_astoren (hC : hg_K X D G cc nL own) {j : Fin 4} {i : Nat} {r : Option Nat} {lv' : List (Nat × Value)} (hi : (j : Nat) = i) (hn : i < nL) (hl' : (i, va_rf r) :: lv.filter (fun q => !(q.1 == i) && !(q.1 + 1 == i && q.2.category == 2)) = lv') (d : decode cc pc = .ok (.astore_n j, 1)) (kk : hg_G X l R D nL S (pc + 1) lv' st) : hg_G X l R D nL S pc lv (va_rf r :: st) := by
  obtain ⟨p, e, s, m, args, below, meth, c, Q, A⟩ := X
  obtain ⟨hx, hb, hml, hown, hts, hK, hE, hA⟩ := hC
  cases r with
  | none => exact fun H locs ls hh hl => lv_astore_nN hx hb d hi hl hn hl' (fun ls2 h2 => kk H locs ls2 hh h2)
  | some x => exact fun H locs ls hh hl => lv_astore_n hx hb d hi hl hn hl' (fun ls2 h2 => kk H locs ls2 hh h2)
theorem hg_astore (hC : hg_K X D G cc nL own) {i : Nat} {r : Option Nat} {lv' : List (Nat × Value)} (hn : i < nL) (hl' : (i, va_rf r) :: lv.filter (fun q => !(q.1 == i) && !(q.1 + 1 == i && q.2.category == 2)) = lv') (d : decode cc pc = .ok (.astore i, 2)) (kk : hg_G X l R D nL S (pc + 2) lv' st) : hg_G X l R D nL S pc lv (va_rf r :: st) := by
  obtain ⟨p, e, s, m, args, below, meth, c, Q, A⟩ := X
  obtain ⟨hx, hb, hml, hown, hts, hK, hE, hA⟩ := hC
  cases r with
  | none => exact fun H locs ls hh hl => lv_astoreN hx hb d hl hn hl' (fun ls2 h2 => kk H locs ls2 hh h2)
  | some x => exact fun H locs ls hh hl => lv_astore hx hb d hl hn hl' (fun ls2 h2 => kk H locs ls2 hh h2)
theorem hg_null (hC : hg_K X D G cc nL own) (d : decode cc pc = .ok (.aconst_null, 1)) (kk : hg_G X l R D nL S (pc + 1) lv (va_rf none :: st)) : hg_G X l R D nL S pc lv st := by
  obtain ⟨p, e, s, m, args, below, meth, c, Q, A⟩ := X
  obtain ⟨hx, hb, hml, hown, hts, hK, hE, hA⟩ := hC
  exact fun H locs ls hh hl => lv_null hx hb d (kk H locs ls hh hl)
theorem hg_ifnull (hC : hg_K X D G cc nL own) {τ : Type} {E1 E2 : Option τ} {F : τ → Prop} {r : Option Nat} {off : Int} {tgt : Nat} (d : decode cc pc = .ok (.ifnull off, 3)) (ht : (pc : Int) + off = (tgt : Int)) (h : dc_wp (if r = none then E1 else E2) F) (k1 : dc_wp E1 F → hg_G X l R D nL S tgt lv st) (k2 : dc_wp E2 F → hg_G X l R D nL S (pc + 3) lv st) : hg_G X l R D nL S pc lv (va_rf r :: st) := by
  obtain ⟨p, e, s, m, args, below, meth, c, Q, A⟩ := X
  obtain ⟨hx, hb, hml, hown, hts, hK, hE, hA⟩ := hC
  cases r with
  | none => exact fun H locs ls hh hl => lv_ifnullN hx hb d ht (k1 (by rw [if_pos rfl] at h; exact h) H locs ls hh hl)
  | some x => exact fun H locs ls hh hl => lv_ifnull hx hb d (k2 (by rw [if_neg (fun z => by cases z)] at h; exact h) H locs ls hh hl)
theorem hg_ifnonnull (hC : hg_K X D G cc nL own) {τ : Type} {E1 E2 : Option τ} {F : τ → Prop} {r : Option Nat} {off : Int} {tgt : Nat} (d : decode cc pc = .ok (.ifnonnull off, 3)) (ht : (pc : Int) + off = (tgt : Int)) (h : dc_wp (if r = none then E1 else E2) F) (k1 : dc_wp E1 F → hg_G X l R D nL S (pc + 3) lv st) (k2 : dc_wp E2 F → hg_G X l R D nL S tgt lv st) : hg_G X l R D nL S pc lv (va_rf r :: st) := by
  obtain ⟨p, e, s, m, args, below, meth, c, Q, A⟩ := X
  obtain ⟨hx, hb, hml, hown, hts, hK, hE, hA⟩ := hC
  cases r with
  | none => exact fun H locs ls hh hl => lv_ifnonnullN hx hb d (k1 (by rw [if_pos rfl] at h; exact h) H locs ls hh hl)
  | some x => exact fun H locs ls hh hl => lv_ifnonnull hx hb d ht (k2 (by rw [if_neg (fun z => by cases z)] at h; exact h) H locs ls hh hl)
theorem hg_acmp_eq (hC : hg_K X D G cc nL own) {τ : Type} {E1 E2 : Option τ} {F : τ → Prop} {x y : Option Nat} {off : Int} {tgt : Nat} (d : decode cc pc = .ok (.if_acmp .eq off, 3)) (ht : (pc : Int) + off = (tgt : Int)) (h : dc_wp (if x = y then E1 else E2) F) (k1 : dc_wp E1 F → hg_G X l R D nL S tgt lv st) (k2 : dc_wp E2 F → hg_G X l R D nL S (pc + 3) lv st) : hg_G X l R D nL S pc lv (va_rf y :: va_rf x :: st) := by
  obtain ⟨p, e, s, m, args, below, meth, c, Q, A⟩ := X
  obtain ⟨hx, hb, hml, hown, hts, hK, hE, hA⟩ := hC
  refine fun H locs ls hh hl => lv_acmp_eq (tgt := tgt) hx hb d ht (fun c1 => ?_) (fun c1 => ?_)
  · exact k1 (by rw [if_pos c1] at h; exact h) H locs ls hh hl
  · exact k2 (by rw [if_neg c1] at h; exact h) H locs ls hh hl
theorem hg_acmp_ne (hC : hg_K X D G cc nL own) {τ : Type} {E1 E2 : Option τ} {F : τ → Prop} {x y : Option Nat} {off : Int} {tgt : Nat} (d : decode cc pc = .ok (.if_acmp .ne off, 3)) (ht : (pc : Int) + off = (tgt : Int)) (h : dc_wp (if x = y then E1 else E2) F) (k1 : dc_wp E1 F → hg_G X l R D nL S (pc + 3) lv st) (k2 : dc_wp E2 F → hg_G X l R D nL S tgt lv st) : hg_G X l R D nL S pc lv (va_rf y :: va_rf x :: st) := by
  obtain ⟨p, e, s, m, args, below, meth, c, Q, A⟩ := X
  obtain ⟨hx, hb, hml, hown, hts, hK, hE, hA⟩ := hC
  refine fun H locs ls hh hl => lv_acmp_ne (tgt := tgt) hx hb d ht (fun c1 => ?_) (fun c1 => ?_)
  · first | exact k2 (by rw [if_neg c1] at h; exact h) H locs ls hh hl | exact k1 (by rw [if_pos c1] at h; exact h) H locs ls hh hl
  · first | exact k1 (by rw [if_pos c1] at h; exact h) H locs ls hh hl | exact k2 (by rw [if_neg c1] at h; exact h) H locs ls hh hl
theorem hg_letR {τ : Type} {e : Option Nat} {f : Option Nat → Option τ} {F : τ → Prop} (h : dc_wp (dc_let e f) F) (kk : ∀ x, dc_wp (f x) F → hg_G X l R D nL S pc lv (va_rf x :: st)) : hg_G X l R D nL S pc lv (va_rf e :: st) := kk e h
end HGP
