/-! words that the walks use, each by its place; written by wip/gen -/
theorem w_1576 : Cond.fieldLink "SignalEngineModel" 475 "SignalEngineModel" "turnsLine" "I" ∈ tt := tt_of 1576 (by decide +kernel) rfl
theorem w_1612 : Cond.fieldLink "SignalEngineModel" 561 "SignalEngineModel" "instances" "I" ∈ tt := tt_of 1612 (by decide +kernel) rfl
theorem w_1640 : Cond.fieldLink "SignalEngineModel" 573 "SignalEngineModel" "doubt" "Z" ∈ tt := tt_of 1640 (by decide +kernel) rfl
theorem w_1641 : Cond.fieldLink "SignalEngineModel" 570 "SignalEngineModel" "way" "I" ∈ tt := tt_of 1641 (by decide +kernel) rfl
theorem w_1642 : Cond.fieldLink "SignalEngineModel" 567 "SignalEngineModel" "mustCode" "I" ∈ tt := tt_of 1642 (by decide +kernel) rfl
theorem w_1643 : Cond.fieldLink "SignalEngineModel" 564 "SignalEngineModel" "canCodes" "I" ∈ tt := tt_of 1643 (by decide +kernel) rfl
/-! the world of the reference: its fields by their numbers (0 to 106), its arrays; a row for each field; written by wip/gen/mdworld.py -/
abbrev md_S : Type := (Nat → Int32) × (Nat → Nat → Int32) × Int64 × (Nat → Int64)
def md_i (S : md_S) (k : Nat) (v : Int32) : md_S := (upd S.1 k v, S.2)
def md_a (S : md_S) (k i : Nat) (v : Int32) : md_S := (S.1, (fun j => if j = k then upd (S.2.1 k) i v else S.2.1 j), S.2.2)
def md_w (S : md_S) (v : Int64) : md_S := (S.1, S.2.1, v, S.2.2.2)
def md_t (S : md_S) (i : Nat) (v : Int64) : md_S := (S.1, S.2.1, S.2.2.1, vp_updL S.2.2.2 i v)
def md_fs (a : Nat → Nat) (S : md_S) : List Value := [.int (S.1 0), .ref (a 1), .int (S.1 2), .int (S.1 3), .int (S.1 4), .int (S.1 5), .int (S.1 6), .int (S.1 7), .int (S.1 8), .long S.2.2.1, .int (S.1 10), .int (S.1 11), .int (S.1 12), .int (S.1 13), .int (S.1 14), .int (S.1 15), .int (S.1 16), .int (S.1 17), .int (S.1 18), .int (S.1 19), .int (S.1 20), .ref (a 21), .ref (a 22), .ref (a 23), .ref (a 24), .ref (a 25), .ref (a 26), .int (S.1 27), .int (S.1 28), .int (S.1 29), .ref (a 30), .ref (a 31), .ref (a 32), .ref (a 33), .ref (a 34), .ref (a 35), .ref (a 36), .ref (a 37), .ref (a 38), .ref (a 39), .ref (a 40), .int (S.1 41), .int (S.1 42), .int (S.1 43), .int (S.1 44), .int (S.1 45), .int (S.1 46), .int (S.1 47), .int (S.1 48), .int (S.1 49), .int (S.1 50), .ref (a 51), .ref (a 52), .ref (a 53), .ref (a 54), .ref (a 55), .ref (a 56), .ref (a 57), .ref (a 58), .ref (a 59), .ref (a 60), .ref (a 61), .ref (a 62), .ref (a 63), .ref (a 64), .ref (a 65), .ref (a 66), .ref (a 67), .ref (a 68), .ref (a 69), .ref (a 70), .ref (a 71), .ref (a 72), .ref (a 73), .ref (a 74), .ref (a 75), .ref (a 76), .int (S.1 77), .int (S.1 78), .int (S.1 79), .int (S.1 80), .int (S.1 81), .int (S.1 82), .int (S.1 83), .ref (a 84), .int (S.1 85), .int (S.1 86), .int (S.1 87), .ref (a 88), .ref (a 89), .ref (a 90), .ref (a 91), .ref (a 92), .ref (a 93), .ref (a 94), .ref (a 95), .ref (a 96), .ref (a 97), .ref (a 98), .ref (a 99), .ref (a 100), .ref (a 101), .ref (a 102), .ref (a 103), .ref (a 104), .ref (a 105), .int (S.1 106)]
def md_W (h : Nat) (a : Nat → Nat) (ca : Nat → ClassId) (S : md_S) : va_W := [(h, .inr (1, md_fs a S)), (a 1, .inl (ca 1, 32768, .inl (S.2.1 1))), (a 21, .inl (ca 21, 16400, .inl (S.2.1 21))), (a 22, .inl (ca 22, 16400, .inl (S.2.1 22))), (a 23, .inl (ca 23, 16400, .inl (S.2.1 23))), (a 24, .inl (ca 24, 32, .inl (S.2.1 24))), (a 25, .inl (ca 25, 32, .inl (S.2.1 25))), (a 26, .inl (ca 26, 32, .inl (S.2.1 26))), (a 30, .inl (ca 30, 1200, .inl (S.2.1 30))), (a 31, .inl (ca 31, 1200, .inl (S.2.1 31))), (a 32, .inl (ca 32, 1200, .inl (S.2.1 32))), (a 33, .inl (ca 33, 1200, .inl (S.2.1 33))), (a 34, .inl (ca 34, 1200, .inl (S.2.1 34))), (a 35, .inl (ca 35, 1200, .inl (S.2.1 35))), (a 36, .inl (ca 36, 1000, .inl (S.2.1 36))), (a 37, .inl (ca 37, 1000, .inl (S.2.1 37))), (a 38, .inl (ca 38, 1000, .inl (S.2.1 38))), (a 39, .inl (ca 39, 1208, .inl (S.2.1 39))), (a 40, .inl (ca 40, 1208, .inl (S.2.1 40))), (a 51, .inl (ca 51, 1200, .inl (S.2.1 51))), (a 52, .inl (ca 52, 1200, .inl (S.2.1 52))), (a 53, .inl (ca 53, 1200, .inl (S.2.1 53))), (a 54, .inl (ca 54, 1200, .inl (S.2.1 54))), (a 55, .inl (ca 55, 1200, .inl (S.2.1 55))), (a 56, .inl (ca 56, 1200, .inl (S.2.1 56))), (a 57, .inl (ca 57, 1200, .inl (S.2.1 57))), (a 58, .inl (ca 58, 1200, .inl (S.2.1 58))), (a 59, .inl (ca 59, 1200, .inl (S.2.1 59))), (a 60, .inl (ca 60, 1200, .inl (S.2.1 60))), (a 61, .inl (ca 61, 1200, .inl (S.2.1 61))), (a 62, .inl (ca 62, 1201, .inl (S.2.1 62))), (a 63, .inl (ca 63, 1000, .inl (S.2.1 63))), (a 64, .inl (ca 64, 1000, .inl (S.2.1 64))), (a 65, .inl (ca 65, 1000, .inl (S.2.1 65))), (a 66, .inl (ca 66, 1000, .inl (S.2.1 66))), (a 67, .inl (ca 67, 1000, .inl (S.2.1 67))), (a 68, .inl (ca 68, 12400, .inl (S.2.1 68))), (a 69, .inl (ca 69, 400, .inl (S.2.1 69))), (a 70, .inl (ca 70, 1662, .inl (S.2.1 70))), (a 71, .inl (ca 71, 1662, .inl (S.2.1 71))), (a 72, .inl (ca 72, 1662, .inl (S.2.1 72))), (a 73, .inl (ca 73, 400, .inl (S.2.1 73))), (a 74, .inl (ca 74, 200, .inl (S.2.1 74))), (a 75, .inl (ca 75, 200, .inl (S.2.1 75))), (a 76, .inl (ca 76, 201, .inl (S.2.1 76))), (a 84, .inl (ca 84, 62, .inl (S.2.1 84))), (a 88, .inl (ca 88, 257, .inl (S.2.1 88))), (a 89, .inl (ca 89, 257, .inl (S.2.1 89))), (a 90, .inl (ca 90, 257, .inl (S.2.1 90))), (a 91, .inl (ca 91, 257, .inl (S.2.1 91))), (a 92, .inl (ca 92, 4112, .inl (S.2.1 92))), (a 93, .inl (ca 93, 4112, .inl (S.2.1 93))), (a 94, .inl (ca 94, 66049, .inl (S.2.1 94))), (a 95, .inl (ca 95, 33000, .inl (S.2.1 95))), (a 96, .inl (ca 96, 4112, .inl (S.2.1 96))), (a 97, .inl (ca 97, 4112, .inl (S.2.1 97))), (a 98, .inl (ca 98, 8192, .inr (.inl S.2.2.2))), (a 99, .inl (ca 99, 8192, .inl (S.2.1 99))), (a 100, .inl (ca 100, 40, .inl (S.2.1 100))), (a 101, .inl (ca 101, 24000, .inl (S.2.1 101))), (a 102, .inl (ca 102, 24000, .inl (S.2.1 102))), (a 103, .inl (ca 103, 24000, .inl (S.2.1 103))), (a 104, .inl (ca 104, 65536, .inl (S.2.1 104))), (a 105, .inl (ca 105, 24000, .inl (S.2.1 105)))]
def md_T (ca : Nat → ClassId) : List (ClassId × FieldType) := [(ca 1, .byte), (ca 21, .int), (ca 22, .int), (ca 23, .int), (ca 24, .int), (ca 25, .int), (ca 26, .int), (ca 30, .int), (ca 31, .int), (ca 32, .int), (ca 33, .int), (ca 34, .int), (ca 35, .int), (ca 36, .int), (ca 37, .int), (ca 38, .int), (ca 39, .int), (ca 40, .int), (ca 51, .int), (ca 52, .int), (ca 53, .int), (ca 54, .int), (ca 55, .int), (ca 56, .int), (ca 57, .int), (ca 58, .int), (ca 59, .int), (ca 60, .int), (ca 61, .int), (ca 62, .int), (ca 63, .int), (ca 64, .int), (ca 65, .int), (ca 66, .int), (ca 67, .int), (ca 68, .byte), (ca 69, .int), (ca 70, .int), (ca 71, .boolean), (ca 72, .boolean), (ca 73, .int), (ca 74, .boolean), (ca 75, .boolean), (ca 76, .int), (ca 84, .int), (ca 88, .int), (ca 89, .int), (ca 90, .int), (ca 91, .int), (ca 92, .int), (ca 93, .int), (ca 94, .boolean), (ca 95, .int), (ca 96, .int), (ca 97, .int), (ca 98, .long), (ca 99, .int), (ca 100, .int), (ca 101, .int), (ca 102, .int), (ca 103, .int), (ca 104, .int), (ca 105, .boolean)]
section MDR
variable {X : dc_X} {l : Launch} {R : Room} {D : va_G} {ad : Nat → Nat} {de : Nat} {cc : ByteArray} {nL k n pc : Nat} {lv : List (Nat × Value)} {st : List Value} {h : Nat} {a : Nat → Nat} {ca : Nat → ClassId} {S : md_S}
/-- thrown -/
theorem md_g0 (hC : dc_K X D (md_T ca) ad de cc nL "SignalEngineModel") (d : decode cc pc = .ok (.getfield 206, 3)) (kk : dc_G X l R D nL k n (md_W h a ca S) (pc + 3) lv (.int (S.1 0) :: st)) : dc_G X l R D nL k n (md_W h a ca S) pc lv (.ref h :: st) :=
  dc_get (C := R_MD) (T := F_MD) (N := 107) (ci := 1) (ref := "SignalEngineModel") hC i_MD 0 rfl rfl 0 (by decide +kernel) w_1562 rfl rfl d kk
theorem md_p0 (hC : dc_K X D (md_T ca) ad de cc nL "SignalEngineModel") {x : Int32} (d : decode cc pc = .ok (.putfield 206, 3)) (kk : dc_G X l R D nL k n (md_W h a ca (md_i S 0 x)) (pc + 3) lv st) : dc_G X l R D nL k n (md_W h a ca S) pc lv (.int x :: .ref h :: st) :=
  dc_put (C := R_MD) (T := F_MD) (N := 107) (ci := 1) (ref := "SignalEngineModel") (ty := .int) hC i_MD t_MD t_MD_ok n_MD 0 rfl rfl 0 (by decide +kernel) w_1562 rfl rfl (by decide +kernel) rfl rfl (Nat.le_of_ble_eq_true rfl) rfl d kk
/-- tape -/
theorem md_g1 (hC : dc_K X D (md_T ca) ad de cc nL "SignalEngineModel") (d : decode cc pc = .ok (.getfield 10, 3)) (kk : dc_G X l R D nL k n (md_W h a ca S) (pc + 3) lv (.ref (a 1) :: st)) : dc_G X l R D nL k n (md_W h a ca S) pc lv (.ref h :: st) :=
  dc_get (C := R_MD) (T := F_MD) (N := 107) (ci := 1) (ref := "SignalEngineModel") hC i_MD 0 rfl rfl 1 (by decide +kernel) w_1563 rfl rfl d kk
theorem md_l1 (hC : dc_K X D (md_T ca) ad de cc nL "SignalEngineModel") {τ : Type} {E : Nat → Option τ} {F : τ → Prop} {i : Int32} (d : decode cc pc = .ok (.baload, 1)) (h0 : dc_wp ((dc_ix i 32768).bind E) F) (kk : ∀ j : Nat, dc_wp (E j) F → dc_G X l R D nL k n (md_W h a ca S) (pc + 1) lv (.int (S.2.1 1 j) :: st)) : dc_G X l R D nL k n (md_W h a ca S) pc lv (.int i :: .ref (a 1) :: st) :=
  dc_bald hC 1 0 rfl rfl d h0 kk
theorem md_s1 (hC : dc_K X D (md_T ca) ad de cc nL "SignalEngineModel") {τ : Type} {E : Nat → Option τ} {F : τ → Prop} {i : Int32} {x : Int32} (d : decode cc pc = .ok (.bastore, 1)) (h0 : dc_wp ((dc_ix i 32768).bind E) F) (kk : ∀ j : Nat, dc_wp (E j) F → dc_G X l R D nL k n (md_W h a ca (md_a S 1 j (vp_nar .byte x))) (pc + 1) lv st) : dc_G X l R D nL k n (md_W h a ca S) pc lv (.int x :: .int i :: .ref (a 1) :: st) :=
  dc_bast (ws' := fun j => md_W h a ca (md_a S 1 j (vp_nar .byte x))) hC 1 0 rfl rfl (fun _ => rfl) d h0 kk
/-- taped -/
theorem md_g2 (hC : dc_K X D (md_T ca) ad de cc nL "SignalEngineModel") (d : decode cc pc = .ok (.getfield 210, 3)) (kk : dc_G X l R D nL k n (md_W h a ca S) (pc + 3) lv (.int (S.1 2) :: st)) : dc_G X l R D nL k n (md_W h a ca S) pc lv (.ref h :: st) :=
  dc_get (C := R_MD) (T := F_MD) (N := 107) (ci := 1) (ref := "SignalEngineModel") hC i_MD 0 rfl rfl 2 (by decide +kernel) w_1564 rfl rfl d kk
theorem md_p2 (hC : dc_K X D (md_T ca) ad de cc nL "SignalEngineModel") {x : Int32} (d : decode cc pc = .ok (.putfield 210, 3)) (kk : dc_G X l R D nL k n (md_W h a ca (md_i S 2 x)) (pc + 3) lv st) : dc_G X l R D nL k n (md_W h a ca S) pc lv (.int x :: .ref h :: st) :=
  dc_put (C := R_MD) (T := F_MD) (N := 107) (ci := 1) (ref := "SignalEngineModel") (ty := .int) hC i_MD t_MD t_MD_ok n_MD 0 rfl rfl 2 (by decide +kernel) w_1564 rfl rfl (by decide +kernel) rfl rfl (Nat.le_of_ble_eq_true rfl) rfl d kk
/-- fed -/
theorem md_g3 (hC : dc_K X D (md_T ca) ad de cc nL "SignalEngineModel") (d : decode cc pc = .ok (.getfield 213, 3)) (kk : dc_G X l R D nL k n (md_W h a ca S) (pc + 3) lv (.int (S.1 3) :: st)) : dc_G X l R D nL k n (md_W h a ca S) pc lv (.ref h :: st) :=
  dc_get (C := R_MD) (T := F_MD) (N := 107) (ci := 1) (ref := "SignalEngineModel") hC i_MD 0 rfl rfl 3 (by decide +kernel) w_1565 rfl rfl d kk
theorem md_p3 (hC : dc_K X D (md_T ca) ad de cc nL "SignalEngineModel") {x : Int32} (hz : x = 0 ∨ x = 1) (d : decode cc pc = .ok (.putfield 213, 3)) (kk : dc_G X l R D nL k n (md_W h a ca (md_i S 3 x)) (pc + 3) lv st) : dc_G X l R D nL k n (md_W h a ca S) pc lv (.int x :: .ref h :: st) :=
  dc_put (C := R_MD) (T := F_MD) (N := 107) (ci := 1) (ref := "SignalEngineModel") (ty := .boolean) hC i_MD t_MD t_MD_ok n_MD 0 rfl rfl 3 (by decide +kernel) w_1565 rfl rfl (by decide +kernel) (dc_nar hz).2.1 (dc_nar hz).2.2 (Nat.le_of_ble_eq_true rfl) rfl d kk
/-- at -/
theorem md_g4 (hC : dc_K X D (md_T ca) ad de cc nL "SignalEngineModel") (d : decode cc pc = .ok (.getfield 224, 3)) (kk : dc_G X l R D nL k n (md_W h a ca S) (pc + 3) lv (.int (S.1 4) :: st)) : dc_G X l R D nL k n (md_W h a ca S) pc lv (.ref h :: st) :=
  dc_get (C := R_MD) (T := F_MD) (N := 107) (ci := 1) (ref := "SignalEngineModel") hC i_MD 0 rfl rfl 4 (by decide +kernel) w_1566 rfl rfl d kk
theorem md_p4 (hC : dc_K X D (md_T ca) ad de cc nL "SignalEngineModel") {x : Int32} (d : decode cc pc = .ok (.putfield 224, 3)) (kk : dc_G X l R D nL k n (md_W h a ca (md_i S 4 x)) (pc + 3) lv st) : dc_G X l R D nL k n (md_W h a ca S) pc lv (.int x :: .ref h :: st) :=
  dc_put (C := R_MD) (T := F_MD) (N := 107) (ci := 1) (ref := "SignalEngineModel") (ty := .int) hC i_MD t_MD t_MD_ok n_MD 0 rfl rfl 4 (by decide +kernel) w_1566 rfl rfl (by decide +kernel) rfl rfl (Nat.le_of_ble_eq_true rfl) rfl d kk
/-- line -/
theorem md_g5 (hC : dc_K X D (md_T ca) ad de cc nL "SignalEngineModel") (d : decode cc pc = .ok (.getfield 231, 3)) (kk : dc_G X l R D nL k n (md_W h a ca S) (pc + 3) lv (.int (S.1 5) :: st)) : dc_G X l R D nL k n (md_W h a ca S) pc lv (.ref h :: st) :=
  dc_get (C := R_MD) (T := F_MD) (N := 107) (ci := 1) (ref := "SignalEngineModel") hC i_MD 0 rfl rfl 5 (by decide +kernel) w_1567 rfl rfl d kk
theorem md_p5 (hC : dc_K X D (md_T ca) ad de cc nL "SignalEngineModel") {x : Int32} (d : decode cc pc = .ok (.putfield 231, 3)) (kk : dc_G X l R D nL k n (md_W h a ca (md_i S 5 x)) (pc + 3) lv st) : dc_G X l R D nL k n (md_W h a ca S) pc lv (.int x :: .ref h :: st) :=
  dc_put (C := R_MD) (T := F_MD) (N := 107) (ci := 1) (ref := "SignalEngineModel") (ty := .int) hC i_MD t_MD t_MD_ok n_MD 0 rfl rfl 5 (by decide +kernel) w_1567 rfl rfl (by decide +kernel) rfl rfl (Nat.le_of_ble_eq_true rfl) rfl d kk
/-- sort -/
theorem md_g6 (hC : dc_K X D (md_T ca) ad de cc nL "SignalEngineModel") (d : decode cc pc = .ok (.getfield 240, 3)) (kk : dc_G X l R D nL k n (md_W h a ca S) (pc + 3) lv (.int (S.1 6) :: st)) : dc_G X l R D nL k n (md_W h a ca S) pc lv (.ref h :: st) :=
  dc_get (C := R_MD) (T := F_MD) (N := 107) (ci := 1) (ref := "SignalEngineModel") hC i_MD 0 rfl rfl 6 (by decide +kernel) w_1568 rfl rfl d kk
theorem md_p6 (hC : dc_K X D (md_T ca) ad de cc nL "SignalEngineModel") {x : Int32} (d : decode cc pc = .ok (.putfield 240, 3)) (kk : dc_G X l R D nL k n (md_W h a ca (md_i S 6 x)) (pc + 3) lv st) : dc_G X l R D nL k n (md_W h a ca S) pc lv (.int x :: .ref h :: st) :=
  dc_put (C := R_MD) (T := F_MD) (N := 107) (ci := 1) (ref := "SignalEngineModel") (ty := .int) hC i_MD t_MD t_MD_ok n_MD 0 rfl rfl 6 (by decide +kernel) w_1568 rfl rfl (by decide +kernel) rfl rfl (Nat.le_of_ble_eq_true rfl) rfl d kk
/-- from -/
theorem md_g7 (hC : dc_K X D (md_T ca) ad de cc nL "SignalEngineModel") (d : decode cc pc = .ok (.getfield 234, 3)) (kk : dc_G X l R D nL k n (md_W h a ca S) (pc + 3) lv (.int (S.1 7) :: st)) : dc_G X l R D nL k n (md_W h a ca S) pc lv (.ref h :: st) :=
  dc_get (C := R_MD) (T := F_MD) (N := 107) (ci := 1) (ref := "SignalEngineModel") hC i_MD 0 rfl rfl 7 (by decide +kernel) w_1569 rfl rfl d kk
theorem md_p7 (hC : dc_K X D (md_T ca) ad de cc nL "SignalEngineModel") {x : Int32} (d : decode cc pc = .ok (.putfield 234, 3)) (kk : dc_G X l R D nL k n (md_W h a ca (md_i S 7 x)) (pc + 3) lv st) : dc_G X l R D nL k n (md_W h a ca S) pc lv (.int x :: .ref h :: st) :=
  dc_put (C := R_MD) (T := F_MD) (N := 107) (ci := 1) (ref := "SignalEngineModel") (ty := .int) hC i_MD t_MD t_MD_ok n_MD 0 rfl rfl 7 (by decide +kernel) w_1569 rfl rfl (by decide +kernel) rfl rfl (Nat.le_of_ble_eq_true rfl) rfl d kk
/-- lineOf -/
theorem md_g8 (hC : dc_K X D (md_T ca) ad de cc nL "SignalEngineModel") (d : decode cc pc = .ok (.getfield 237, 3)) (kk : dc_G X l R D nL k n (md_W h a ca S) (pc + 3) lv (.int (S.1 8) :: st)) : dc_G X l R D nL k n (md_W h a ca S) pc lv (.ref h :: st) :=
  dc_get (C := R_MD) (T := F_MD) (N := 107) (ci := 1) (ref := "SignalEngineModel") hC i_MD 0 rfl rfl 8 (by decide +kernel) w_1570 rfl rfl d kk
theorem md_p8 (hC : dc_K X D (md_T ca) ad de cc nL "SignalEngineModel") {x : Int32} (d : decode cc pc = .ok (.putfield 237, 3)) (kk : dc_G X l R D nL k n (md_W h a ca (md_i S 8 x)) (pc + 3) lv st) : dc_G X l R D nL k n (md_W h a ca S) pc lv (.int x :: .ref h :: st) :=
  dc_put (C := R_MD) (T := F_MD) (N := 107) (ci := 1) (ref := "SignalEngineModel") (ty := .int) hC i_MD t_MD t_MD_ok n_MD 0 rfl rfl 8 (by decide +kernel) w_1570 rfl rfl (by decide +kernel) rfl rfl (Nat.le_of_ble_eq_true rfl) rfl d kk
/-- word -/
theorem md_g9 (hC : dc_K X D (md_T ca) ad de cc nL "SignalEngineModel") (d : decode cc pc = .ok (.getfield 243, 3)) (kk : dc_G X l R D nL k n (md_W h a ca S) (pc + 3) lv (.long S.2.2.1 :: st)) : dc_G X l R D nL k n (md_W h a ca S) pc lv (.ref h :: st) :=
  dc_get (C := R_MD) (T := F_MD) (N := 107) (ci := 1) (ref := "SignalEngineModel") hC i_MD 0 rfl rfl 9 (by decide +kernel) w_1571 rfl rfl d kk
theorem md_p9 (hC : dc_K X D (md_T ca) ad de cc nL "SignalEngineModel") {x : Int64} (d : decode cc pc = .ok (.putfield 243, 3)) (kk : dc_G X l R D nL k n (md_W h a ca (md_w S x)) (pc + 3) lv st) : dc_G X l R D nL k n (md_W h a ca S) pc lv (.long x :: .ref h :: st) :=
  dc_put (C := R_MD) (T := F_MD) (N := 107) (ci := 1) (ref := "SignalEngineModel") (ty := .long) hC i_MD t_MD t_MD_ok n_MD 0 rfl rfl 9 (by decide +kernel) w_1571 rfl rfl (by decide +kernel) rfl rfl (Nat.le_of_ble_eq_true rfl) rfl d kk
/-- fault -/
theorem md_g10 (hC : dc_K X D (md_T ca) ad de cc nL "SignalEngineModel") (d : decode cc pc = .ok (.getfield 221, 3)) (kk : dc_G X l R D nL k n (md_W h a ca S) (pc + 3) lv (.int (S.1 10) :: st)) : dc_G X l R D nL k n (md_W h a ca S) pc lv (.ref h :: st) :=
  dc_get (C := R_MD) (T := F_MD) (N := 107) (ci := 1) (ref := "SignalEngineModel") hC i_MD 0 rfl rfl 10 (by decide +kernel) w_1572 rfl rfl d kk
theorem md_p10 (hC : dc_K X D (md_T ca) ad de cc nL "SignalEngineModel") {x : Int32} (d : decode cc pc = .ok (.putfield 221, 3)) (kk : dc_G X l R D nL k n (md_W h a ca (md_i S 10 x)) (pc + 3) lv st) : dc_G X l R D nL k n (md_W h a ca S) pc lv (.int x :: .ref h :: st) :=
  dc_put (C := R_MD) (T := F_MD) (N := 107) (ci := 1) (ref := "SignalEngineModel") (ty := .int) hC i_MD t_MD t_MD_ok n_MD 0 rfl rfl 10 (by decide +kernel) w_1572 rfl rfl (by decide +kernel) rfl rfl (Nat.le_of_ble_eq_true rfl) rfl d kk
/-- open -/
theorem md_g11 (hC : dc_K X D (md_T ca) ad de cc nL "SignalEngineModel") (d : decode cc pc = .ok (.getfield 334, 3)) (kk : dc_G X l R D nL k n (md_W h a ca S) (pc + 3) lv (.int (S.1 11) :: st)) : dc_G X l R D nL k n (md_W h a ca S) pc lv (.ref h :: st) :=
  dc_get (C := R_MD) (T := F_MD) (N := 107) (ci := 1) (ref := "SignalEngineModel") hC i_MD 0 rfl rfl 11 (by decide +kernel) w_1573 rfl rfl d kk
theorem md_p11 (hC : dc_K X D (md_T ca) ad de cc nL "SignalEngineModel") {x : Int32} (d : decode cc pc = .ok (.putfield 334, 3)) (kk : dc_G X l R D nL k n (md_W h a ca (md_i S 11 x)) (pc + 3) lv st) : dc_G X l R D nL k n (md_W h a ca S) pc lv (.int x :: .ref h :: st) :=
  dc_put (C := R_MD) (T := F_MD) (N := 107) (ci := 1) (ref := "SignalEngineModel") (ty := .int) hC i_MD t_MD t_MD_ok n_MD 0 rfl rfl 11 (by decide +kernel) w_1573 rfl rfl (by decide +kernel) rfl rfl (Nat.le_of_ble_eq_true rfl) rfl d kk
/-- great -/
theorem md_g12 (hC : dc_K X D (md_T ca) ad de cc nL "SignalEngineModel") (d : decode cc pc = .ok (.getfield 352, 3)) (kk : dc_G X l R D nL k n (md_W h a ca S) (pc + 3) lv (.int (S.1 12) :: st)) : dc_G X l R D nL k n (md_W h a ca S) pc lv (.ref h :: st) :=
  dc_get (C := R_MD) (T := F_MD) (N := 107) (ci := 1) (ref := "SignalEngineModel") hC i_MD 0 rfl rfl 12 (by decide +kernel) w_1574 rfl rfl d kk
theorem md_p12 (hC : dc_K X D (md_T ca) ad de cc nL "SignalEngineModel") {x : Int32} (hz : x = 0 ∨ x = 1) (d : decode cc pc = .ok (.putfield 352, 3)) (kk : dc_G X l R D nL k n (md_W h a ca (md_i S 12 x)) (pc + 3) lv st) : dc_G X l R D nL k n (md_W h a ca S) pc lv (.int x :: .ref h :: st) :=
  dc_put (C := R_MD) (T := F_MD) (N := 107) (ci := 1) (ref := "SignalEngineModel") (ty := .boolean) hC i_MD t_MD t_MD_ok n_MD 0 rfl rfl 12 (by decide +kernel) w_1574 rfl rfl (by decide +kernel) (dc_nar hz).2.1 (dc_nar hz).2.2 (Nat.le_of_ble_eq_true rfl) rfl d kk
/-- turnsAt -/
theorem md_g13 (hC : dc_K X D (md_T ca) ad de cc nL "SignalEngineModel") (d : decode cc pc = .ok (.getfield 472, 3)) (kk : dc_G X l R D nL k n (md_W h a ca S) (pc + 3) lv (.int (S.1 13) :: st)) : dc_G X l R D nL k n (md_W h a ca S) pc lv (.ref h :: st) :=
  dc_get (C := R_MD) (T := F_MD) (N := 107) (ci := 1) (ref := "SignalEngineModel") hC i_MD 0 rfl rfl 13 (by decide +kernel) w_1575 rfl rfl d kk
theorem md_p13 (hC : dc_K X D (md_T ca) ad de cc nL "SignalEngineModel") {x : Int32} (d : decode cc pc = .ok (.putfield 472, 3)) (kk : dc_G X l R D nL k n (md_W h a ca (md_i S 13 x)) (pc + 3) lv st) : dc_G X l R D nL k n (md_W h a ca S) pc lv (.int x :: .ref h :: st) :=
  dc_put (C := R_MD) (T := F_MD) (N := 107) (ci := 1) (ref := "SignalEngineModel") (ty := .int) hC i_MD t_MD t_MD_ok n_MD 0 rfl rfl 13 (by decide +kernel) w_1575 rfl rfl (by decide +kernel) rfl rfl (Nat.le_of_ble_eq_true rfl) rfl d kk
/-- turnsLine -/
theorem md_g14 (hC : dc_K X D (md_T ca) ad de cc nL "SignalEngineModel") (d : decode cc pc = .ok (.getfield 475, 3)) (kk : dc_G X l R D nL k n (md_W h a ca S) (pc + 3) lv (.int (S.1 14) :: st)) : dc_G X l R D nL k n (md_W h a ca S) pc lv (.ref h :: st) :=
  dc_get (C := R_MD) (T := F_MD) (N := 107) (ci := 1) (ref := "SignalEngineModel") hC i_MD 0 rfl rfl 14 (by decide +kernel) w_1576 rfl rfl d kk
theorem md_p14 (hC : dc_K X D (md_T ca) ad de cc nL "SignalEngineModel") {x : Int32} (d : decode cc pc = .ok (.putfield 475, 3)) (kk : dc_G X l R D nL k n (md_W h a ca (md_i S 14 x)) (pc + 3) lv st) : dc_G X l R D nL k n (md_W h a ca S) pc lv (.int x :: .ref h :: st) :=
  dc_put (C := R_MD) (T := F_MD) (N := 107) (ci := 1) (ref := "SignalEngineModel") (ty := .int) hC i_MD t_MD t_MD_ok n_MD 0 rfl rfl 14 (by decide +kernel) w_1576 rfl rfl (by decide +kernel) rfl rfl (Nat.le_of_ble_eq_true rfl) rfl d kk
/-- names -/
theorem md_g15 (hC : dc_K X D (md_T ca) ad de cc nL "SignalEngineModel") (d : decode cc pc = .ok (.getfield 343, 3)) (kk : dc_G X l R D nL k n (md_W h a ca S) (pc + 3) lv (.int (S.1 15) :: st)) : dc_G X l R D nL k n (md_W h a ca S) pc lv (.ref h :: st) :=
  dc_get (C := R_MD) (T := F_MD) (N := 107) (ci := 1) (ref := "SignalEngineModel") hC i_MD 0 rfl rfl 15 (by decide +kernel) w_1577 rfl rfl d kk
theorem md_p15 (hC : dc_K X D (md_T ca) ad de cc nL "SignalEngineModel") {x : Int32} (d : decode cc pc = .ok (.putfield 343, 3)) (kk : dc_G X l R D nL k n (md_W h a ca (md_i S 15 x)) (pc + 3) lv st) : dc_G X l R D nL k n (md_W h a ca S) pc lv (.int x :: .ref h :: st) :=
  dc_put (C := R_MD) (T := F_MD) (N := 107) (ci := 1) (ref := "SignalEngineModel") (ty := .int) hC i_MD t_MD t_MD_ok n_MD 0 rfl rfl 15 (by decide +kernel) w_1577 rfl rfl (by decide +kernel) rfl rfl (Nat.le_of_ble_eq_true rfl) rfl d kk
/-- inputs -/
theorem md_g16 (hC : dc_K X D (md_T ca) ad de cc nL "SignalEngineModel") (d : decode cc pc = .ok (.getfield 376, 3)) (kk : dc_G X l R D nL k n (md_W h a ca S) (pc + 3) lv (.int (S.1 16) :: st)) : dc_G X l R D nL k n (md_W h a ca S) pc lv (.ref h :: st) :=
  dc_get (C := R_MD) (T := F_MD) (N := 107) (ci := 1) (ref := "SignalEngineModel") hC i_MD 0 rfl rfl 16 (by decide +kernel) w_1578 rfl rfl d kk
theorem md_p16 (hC : dc_K X D (md_T ca) ad de cc nL "SignalEngineModel") {x : Int32} (d : decode cc pc = .ok (.putfield 376, 3)) (kk : dc_G X l R D nL k n (md_W h a ca (md_i S 16 x)) (pc + 3) lv st) : dc_G X l R D nL k n (md_W h a ca S) pc lv (.int x :: .ref h :: st) :=
  dc_put (C := R_MD) (T := F_MD) (N := 107) (ci := 1) (ref := "SignalEngineModel") (ty := .int) hC i_MD t_MD t_MD_ok n_MD 0 rfl rfl 16 (by decide +kernel) w_1578 rfl rfl (by decide +kernel) rfl rfl (Nat.le_of_ble_eq_true rfl) rfl d kk
/-- outputs -/
theorem md_g17 (hC : dc_K X D (md_T ca) ad de cc nL "SignalEngineModel") (d : decode cc pc = .ok (.getfield 486, 3)) (kk : dc_G X l R D nL k n (md_W h a ca S) (pc + 3) lv (.int (S.1 17) :: st)) : dc_G X l R D nL k n (md_W h a ca S) pc lv (.ref h :: st) :=
  dc_get (C := R_MD) (T := F_MD) (N := 107) (ci := 1) (ref := "SignalEngineModel") hC i_MD 0 rfl rfl 17 (by decide +kernel) w_1579 rfl rfl d kk
theorem md_p17 (hC : dc_K X D (md_T ca) ad de cc nL "SignalEngineModel") {x : Int32} (d : decode cc pc = .ok (.putfield 486, 3)) (kk : dc_G X l R D nL k n (md_W h a ca (md_i S 17 x)) (pc + 3) lv st) : dc_G X l R D nL k n (md_W h a ca S) pc lv (.int x :: .ref h :: st) :=
  dc_put (C := R_MD) (T := F_MD) (N := 107) (ci := 1) (ref := "SignalEngineModel") (ty := .int) hC i_MD t_MD t_MD_ok n_MD 0 rfl rfl 17 (by decide +kernel) w_1579 rfl rfl (by decide +kernel) rfl rfl (Nat.le_of_ble_eq_true rfl) rfl d kk
/-- scopes -/
theorem md_g18 (hC : dc_K X D (md_T ca) ad de cc nL "SignalEngineModel") (d : decode cc pc = .ok (.getfield 327, 3)) (kk : dc_G X l R D nL k n (md_W h a ca S) (pc + 3) lv (.int (S.1 18) :: st)) : dc_G X l R D nL k n (md_W h a ca S) pc lv (.ref h :: st) :=
  dc_get (C := R_MD) (T := F_MD) (N := 107) (ci := 1) (ref := "SignalEngineModel") hC i_MD 0 rfl rfl 18 (by decide +kernel) w_1580 rfl rfl d kk
theorem md_p18 (hC : dc_K X D (md_T ca) ad de cc nL "SignalEngineModel") {x : Int32} (d : decode cc pc = .ok (.putfield 327, 3)) (kk : dc_G X l R D nL k n (md_W h a ca (md_i S 18 x)) (pc + 3) lv st) : dc_G X l R D nL k n (md_W h a ca S) pc lv (.int x :: .ref h :: st) :=
  dc_put (C := R_MD) (T := F_MD) (N := 107) (ci := 1) (ref := "SignalEngineModel") (ty := .int) hC i_MD t_MD t_MD_ok n_MD 0 rfl rfl 18 (by decide +kernel) w_1580 rfl rfl (by decide +kernel) rfl rfl (Nat.le_of_ble_eq_true rfl) rfl d kk
/-- trapScopes -/
theorem md_g19 (hC : dc_K X D (md_T ca) ad de cc nL "SignalEngineModel") (d : decode cc pc = .ok (.getfield 465, 3)) (kk : dc_G X l R D nL k n (md_W h a ca S) (pc + 3) lv (.int (S.1 19) :: st)) : dc_G X l R D nL k n (md_W h a ca S) pc lv (.ref h :: st) :=
  dc_get (C := R_MD) (T := F_MD) (N := 107) (ci := 1) (ref := "SignalEngineModel") hC i_MD 0 rfl rfl 19 (by decide +kernel) w_1581 rfl rfl d kk
theorem md_p19 (hC : dc_K X D (md_T ca) ad de cc nL "SignalEngineModel") {x : Int32} (d : decode cc pc = .ok (.putfield 465, 3)) (kk : dc_G X l R D nL k n (md_W h a ca (md_i S 19 x)) (pc + 3) lv st) : dc_G X l R D nL k n (md_W h a ca S) pc lv (.int x :: .ref h :: st) :=
  dc_put (C := R_MD) (T := F_MD) (N := 107) (ci := 1) (ref := "SignalEngineModel") (ty := .int) hC i_MD t_MD t_MD_ok n_MD 0 rfl rfl 19 (by decide +kernel) w_1581 rfl rfl (by decide +kernel) rfl rfl (Nat.le_of_ble_eq_true rfl) rfl d kk
/-- serials -/
theorem md_g20 (hC : dc_K X D (md_T ca) ad de cc nL "SignalEngineModel") (d : decode cc pc = .ok (.getfield 452, 3)) (kk : dc_G X l R D nL k n (md_W h a ca S) (pc + 3) lv (.int (S.1 20) :: st)) : dc_G X l R D nL k n (md_W h a ca S) pc lv (.ref h :: st) :=
  dc_get (C := R_MD) (T := F_MD) (N := 107) (ci := 1) (ref := "SignalEngineModel") hC i_MD 0 rfl rfl 20 (by decide +kernel) w_1582 rfl rfl d kk
theorem md_p20 (hC : dc_K X D (md_T ca) ad de cc nL "SignalEngineModel") {x : Int32} (d : decode cc pc = .ok (.putfield 452, 3)) (kk : dc_G X l R D nL k n (md_W h a ca (md_i S 20 x)) (pc + 3) lv st) : dc_G X l R D nL k n (md_W h a ca S) pc lv (.int x :: .ref h :: st) :=
  dc_put (C := R_MD) (T := F_MD) (N := 107) (ci := 1) (ref := "SignalEngineModel") (ty := .int) hC i_MD t_MD t_MD_ok n_MD 0 rfl rfl 20 (by decide +kernel) w_1582 rfl rfl (by decide +kernel) rfl rfl (Nat.le_of_ble_eq_true rfl) rfl d kk
/-- nameAt -/
theorem md_g21 (hC : dc_K X D (md_T ca) ad de cc nL "SignalEngineModel") (d : decode cc pc = .ok (.getfield 14, 3)) (kk : dc_G X l R D nL k n (md_W h a ca S) (pc + 3) lv (.ref (a 21) :: st)) : dc_G X l R D nL k n (md_W h a ca S) pc lv (.ref h :: st) :=
  dc_get (C := R_MD) (T := F_MD) (N := 107) (ci := 1) (ref := "SignalEngineModel") hC i_MD 0 rfl rfl 21 (by decide +kernel) w_1583 rfl rfl d kk
theorem md_l21 (hC : dc_K X D (md_T ca) ad de cc nL "SignalEngineModel") {τ : Type} {E : Nat → Option τ} {F : τ → Prop} {i : Int32} (d : decode cc pc = .ok (.iaload, 1)) (h0 : dc_wp ((dc_ix i 16400).bind E) F) (kk : ∀ j : Nat, dc_wp (E j) F → dc_G X l R D nL k n (md_W h a ca S) (pc + 1) lv (.int (S.2.1 21 j) :: st)) : dc_G X l R D nL k n (md_W h a ca S) pc lv (.int i :: .ref (a 21) :: st) :=
  dc_iald hC 2 1 rfl rfl d h0 kk
theorem md_s21 (hC : dc_K X D (md_T ca) ad de cc nL "SignalEngineModel") {τ : Type} {E : Nat → Option τ} {F : τ → Prop} {i : Int32} {x : Int32} (d : decode cc pc = .ok (.iastore, 1)) (h0 : dc_wp ((dc_ix i 16400).bind E) F) (kk : ∀ j : Nat, dc_wp (E j) F → dc_G X l R D nL k n (md_W h a ca (md_a S 21 j x)) (pc + 1) lv st) : dc_G X l R D nL k n (md_W h a ca S) pc lv (.int x :: .int i :: .ref (a 21) :: st) :=
  dc_iast (ws' := fun j => md_W h a ca (md_a S 21 j x)) hC 2 1 rfl rfl (fun _ => rfl) d h0 kk
/-- nameSize -/
theorem md_g22 (hC : dc_K X D (md_T ca) ad de cc nL "SignalEngineModel") (d : decode cc pc = .ok (.getfield 18, 3)) (kk : dc_G X l R D nL k n (md_W h a ca S) (pc + 3) lv (.ref (a 22) :: st)) : dc_G X l R D nL k n (md_W h a ca S) pc lv (.ref h :: st) :=
  dc_get (C := R_MD) (T := F_MD) (N := 107) (ci := 1) (ref := "SignalEngineModel") hC i_MD 0 rfl rfl 22 (by decide +kernel) w_1584 rfl rfl d kk
theorem md_l22 (hC : dc_K X D (md_T ca) ad de cc nL "SignalEngineModel") {τ : Type} {E : Nat → Option τ} {F : τ → Prop} {i : Int32} (d : decode cc pc = .ok (.iaload, 1)) (h0 : dc_wp ((dc_ix i 16400).bind E) F) (kk : ∀ j : Nat, dc_wp (E j) F → dc_G X l R D nL k n (md_W h a ca S) (pc + 1) lv (.int (S.2.1 22 j) :: st)) : dc_G X l R D nL k n (md_W h a ca S) pc lv (.int i :: .ref (a 22) :: st) :=
  dc_iald hC 3 2 rfl rfl d h0 kk
theorem md_s22 (hC : dc_K X D (md_T ca) ad de cc nL "SignalEngineModel") {τ : Type} {E : Nat → Option τ} {F : τ → Prop} {i : Int32} {x : Int32} (d : decode cc pc = .ok (.iastore, 1)) (h0 : dc_wp ((dc_ix i 16400).bind E) F) (kk : ∀ j : Nat, dc_wp (E j) F → dc_G X l R D nL k n (md_W h a ca (md_a S 22 j x)) (pc + 1) lv st) : dc_G X l R D nL k n (md_W h a ca S) pc lv (.int x :: .int i :: .ref (a 22) :: st) :=
  dc_iast (ws' := fun j => md_W h a ca (md_a S 22 j x)) hC 3 2 rfl rfl (fun _ => rfl) d h0 kk
/-- scope -/
theorem md_g23 (hC : dc_K X D (md_T ca) ad de cc nL "SignalEngineModel") (d : decode cc pc = .ok (.getfield 21, 3)) (kk : dc_G X l R D nL k n (md_W h a ca S) (pc + 3) lv (.ref (a 23) :: st)) : dc_G X l R D nL k n (md_W h a ca S) pc lv (.ref h :: st) :=
  dc_get (C := R_MD) (T := F_MD) (N := 107) (ci := 1) (ref := "SignalEngineModel") hC i_MD 0 rfl rfl 23 (by decide +kernel) w_1585 rfl rfl d kk
theorem md_l23 (hC : dc_K X D (md_T ca) ad de cc nL "SignalEngineModel") {τ : Type} {E : Nat → Option τ} {F : τ → Prop} {i : Int32} (d : decode cc pc = .ok (.iaload, 1)) (h0 : dc_wp ((dc_ix i 16400).bind E) F) (kk : ∀ j : Nat, dc_wp (E j) F → dc_G X l R D nL k n (md_W h a ca S) (pc + 1) lv (.int (S.2.1 23 j) :: st)) : dc_G X l R D nL k n (md_W h a ca S) pc lv (.int i :: .ref (a 23) :: st) :=
  dc_iald hC 4 3 rfl rfl d h0 kk
theorem md_s23 (hC : dc_K X D (md_T ca) ad de cc nL "SignalEngineModel") {τ : Type} {E : Nat → Option τ} {F : τ → Prop} {i : Int32} {x : Int32} (d : decode cc pc = .ok (.iastore, 1)) (h0 : dc_wp ((dc_ix i 16400).bind E) F) (kk : ∀ j : Nat, dc_wp (E j) F → dc_G X l R D nL k n (md_W h a ca (md_a S 23 j x)) (pc + 1) lv st) : dc_G X l R D nL k n (md_W h a ca S) pc lv (.int x :: .int i :: .ref (a 23) :: st) :=
  dc_iast (ws' := fun j => md_W h a ca (md_a S 23 j x)) hC 4 3 rfl rfl (fun _ => rfl) d h0 kk
/-- trapAt -/
theorem md_g24 (hC : dc_K X D (md_T ca) ad de cc nL "SignalEngineModel") (d : decode cc pc = .ok (.getfield 24, 3)) (kk : dc_G X l R D nL k n (md_W h a ca S) (pc + 3) lv (.ref (a 24) :: st)) : dc_G X l R D nL k n (md_W h a ca S) pc lv (.ref h :: st) :=
  dc_get (C := R_MD) (T := F_MD) (N := 107) (ci := 1) (ref := "SignalEngineModel") hC i_MD 0 rfl rfl 24 (by decide +kernel) w_1586 rfl rfl d kk
theorem md_l24 (hC : dc_K X D (md_T ca) ad de cc nL "SignalEngineModel") {τ : Type} {E : Nat → Option τ} {F : τ → Prop} {i : Int32} (d : decode cc pc = .ok (.iaload, 1)) (h0 : dc_wp ((dc_ix i 32).bind E) F) (kk : ∀ j : Nat, dc_wp (E j) F → dc_G X l R D nL k n (md_W h a ca S) (pc + 1) lv (.int (S.2.1 24 j) :: st)) : dc_G X l R D nL k n (md_W h a ca S) pc lv (.int i :: .ref (a 24) :: st) :=
  dc_iald hC 5 4 rfl rfl d h0 kk
theorem md_s24 (hC : dc_K X D (md_T ca) ad de cc nL "SignalEngineModel") {τ : Type} {E : Nat → Option τ} {F : τ → Prop} {i : Int32} {x : Int32} (d : decode cc pc = .ok (.iastore, 1)) (h0 : dc_wp ((dc_ix i 32).bind E) F) (kk : ∀ j : Nat, dc_wp (E j) F → dc_G X l R D nL k n (md_W h a ca (md_a S 24 j x)) (pc + 1) lv st) : dc_G X l R D nL k n (md_W h a ca S) pc lv (.int x :: .int i :: .ref (a 24) :: st) :=
  dc_iast (ws' := fun j => md_W h a ca (md_a S 24 j x)) hC 5 4 rfl rfl (fun _ => rfl) d h0 kk
/-- trapSize -/
theorem md_g25 (hC : dc_K X D (md_T ca) ad de cc nL "SignalEngineModel") (d : decode cc pc = .ok (.getfield 27, 3)) (kk : dc_G X l R D nL k n (md_W h a ca S) (pc + 3) lv (.ref (a 25) :: st)) : dc_G X l R D nL k n (md_W h a ca S) pc lv (.ref h :: st) :=
  dc_get (C := R_MD) (T := F_MD) (N := 107) (ci := 1) (ref := "SignalEngineModel") hC i_MD 0 rfl rfl 25 (by decide +kernel) w_1587 rfl rfl d kk
theorem md_l25 (hC : dc_K X D (md_T ca) ad de cc nL "SignalEngineModel") {τ : Type} {E : Nat → Option τ} {F : τ → Prop} {i : Int32} (d : decode cc pc = .ok (.iaload, 1)) (h0 : dc_wp ((dc_ix i 32).bind E) F) (kk : ∀ j : Nat, dc_wp (E j) F → dc_G X l R D nL k n (md_W h a ca S) (pc + 1) lv (.int (S.2.1 25 j) :: st)) : dc_G X l R D nL k n (md_W h a ca S) pc lv (.int i :: .ref (a 25) :: st) :=
  dc_iald hC 6 5 rfl rfl d h0 kk
theorem md_s25 (hC : dc_K X D (md_T ca) ad de cc nL "SignalEngineModel") {τ : Type} {E : Nat → Option τ} {F : τ → Prop} {i : Int32} {x : Int32} (d : decode cc pc = .ok (.iastore, 1)) (h0 : dc_wp ((dc_ix i 32).bind E) F) (kk : ∀ j : Nat, dc_wp (E j) F → dc_G X l R D nL k n (md_W h a ca (md_a S 25 j x)) (pc + 1) lv st) : dc_G X l R D nL k n (md_W h a ca S) pc lv (.int x :: .int i :: .ref (a 25) :: st) :=
  dc_iast (ws' := fun j => md_W h a ca (md_a S 25 j x)) hC 6 5 rfl rfl (fun _ => rfl) d h0 kk
/-- trapSerial -/
theorem md_g26 (hC : dc_K X D (md_T ca) ad de cc nL "SignalEngineModel") (d : decode cc pc = .ok (.getfield 30, 3)) (kk : dc_G X l R D nL k n (md_W h a ca S) (pc + 3) lv (.ref (a 26) :: st)) : dc_G X l R D nL k n (md_W h a ca S) pc lv (.ref h :: st) :=
  dc_get (C := R_MD) (T := F_MD) (N := 107) (ci := 1) (ref := "SignalEngineModel") hC i_MD 0 rfl rfl 26 (by decide +kernel) w_1588 rfl rfl d kk
theorem md_l26 (hC : dc_K X D (md_T ca) ad de cc nL "SignalEngineModel") {τ : Type} {E : Nat → Option τ} {F : τ → Prop} {i : Int32} (d : decode cc pc = .ok (.iaload, 1)) (h0 : dc_wp ((dc_ix i 32).bind E) F) (kk : ∀ j : Nat, dc_wp (E j) F → dc_G X l R D nL k n (md_W h a ca S) (pc + 1) lv (.int (S.2.1 26 j) :: st)) : dc_G X l R D nL k n (md_W h a ca S) pc lv (.int i :: .ref (a 26) :: st) :=
  dc_iald hC 7 6 rfl rfl d h0 kk
theorem md_s26 (hC : dc_K X D (md_T ca) ad de cc nL "SignalEngineModel") {τ : Type} {E : Nat → Option τ} {F : τ → Prop} {i : Int32} {x : Int32} (d : decode cc pc = .ok (.iastore, 1)) (h0 : dc_wp ((dc_ix i 32).bind E) F) (kk : ∀ j : Nat, dc_wp (E j) F → dc_G X l R D nL k n (md_W h a ca (md_a S 26 j x)) (pc + 1) lv st) : dc_G X l R D nL k n (md_W h a ca S) pc lv (.int x :: .int i :: .ref (a 26) :: st) :=
  dc_iast (ws' := fun j => md_W h a ca (md_a S 26 j x)) hC 7 6 rfl rfl (fun _ => rfl) d h0 kk
/-- built -/
theorem md_g27 (hC : dc_K X D (md_T ca) ad de cc nL "SignalEngineModel") (d : decode cc pc = .ok (.getfield 379, 3)) (kk : dc_G X l R D nL k n (md_W h a ca S) (pc + 3) lv (.int (S.1 27) :: st)) : dc_G X l R D nL k n (md_W h a ca S) pc lv (.ref h :: st) :=
  dc_get (C := R_MD) (T := F_MD) (N := 107) (ci := 1) (ref := "SignalEngineModel") hC i_MD 0 rfl rfl 27 (by decide +kernel) w_1589 rfl rfl d kk
theorem md_p27 (hC : dc_K X D (md_T ca) ad de cc nL "SignalEngineModel") {x : Int32} (d : decode cc pc = .ok (.putfield 379, 3)) (kk : dc_G X l R D nL k n (md_W h a ca (md_i S 27 x)) (pc + 3) lv st) : dc_G X l R D nL k n (md_W h a ca S) pc lv (.int x :: .ref h :: st) :=
  dc_put (C := R_MD) (T := F_MD) (N := 107) (ci := 1) (ref := "SignalEngineModel") (ty := .int) hC i_MD t_MD t_MD_ok n_MD 0 rfl rfl 27 (by decide +kernel) w_1589 rfl rfl (by decide +kernel) rfl rfl (Nat.le_of_ble_eq_true rfl) rfl d kk
/-- pieced -/
theorem md_g28 (hC : dc_K X D (md_T ca) ad de cc nL "SignalEngineModel") (d : decode cc pc = .ok (.getfield 349, 3)) (kk : dc_G X l R D nL k n (md_W h a ca S) (pc + 3) lv (.int (S.1 28) :: st)) : dc_G X l R D nL k n (md_W h a ca S) pc lv (.ref h :: st) :=
  dc_get (C := R_MD) (T := F_MD) (N := 107) (ci := 1) (ref := "SignalEngineModel") hC i_MD 0 rfl rfl 28 (by decide +kernel) w_1590 rfl rfl d kk
theorem md_p28 (hC : dc_K X D (md_T ca) ad de cc nL "SignalEngineModel") {x : Int32} (d : decode cc pc = .ok (.putfield 349, 3)) (kk : dc_G X l R D nL k n (md_W h a ca (md_i S 28 x)) (pc + 3) lv st) : dc_G X l R D nL k n (md_W h a ca S) pc lv (.int x :: .ref h :: st) :=
  dc_put (C := R_MD) (T := F_MD) (N := 107) (ci := 1) (ref := "SignalEngineModel") (ty := .int) hC i_MD t_MD t_MD_ok n_MD 0 rfl rfl 28 (by decide +kernel) w_1590 rfl rfl (by decide +kernel) rfl rfl (Nat.le_of_ble_eq_true rfl) rfl d kk
/-- codes -/
theorem md_g29 (hC : dc_K X D (md_T ca) ad de cc nL "SignalEngineModel") (d : decode cc pc = .ok (.getfield 389, 3)) (kk : dc_G X l R D nL k n (md_W h a ca S) (pc + 3) lv (.int (S.1 29) :: st)) : dc_G X l R D nL k n (md_W h a ca S) pc lv (.ref h :: st) :=
  dc_get (C := R_MD) (T := F_MD) (N := 107) (ci := 1) (ref := "SignalEngineModel") hC i_MD 0 rfl rfl 29 (by decide +kernel) w_1591 rfl rfl d kk
theorem md_p29 (hC : dc_K X D (md_T ca) ad de cc nL "SignalEngineModel") {x : Int32} (d : decode cc pc = .ok (.putfield 389, 3)) (kk : dc_G X l R D nL k n (md_W h a ca (md_i S 29 x)) (pc + 3) lv st) : dc_G X l R D nL k n (md_W h a ca S) pc lv (.int x :: .ref h :: st) :=
  dc_put (C := R_MD) (T := F_MD) (N := 107) (ci := 1) (ref := "SignalEngineModel") (ty := .int) hC i_MD t_MD t_MD_ok n_MD 0 rfl rfl 29 (by decide +kernel) w_1591 rfl rfl (by decide +kernel) rfl rfl (Nat.le_of_ble_eq_true rfl) rfl d kk
/-- bKind -/
theorem md_g30 (hC : dc_K X D (md_T ca) ad de cc nL "SignalEngineModel") (d : decode cc pc = .ok (.getfield 33, 3)) (kk : dc_G X l R D nL k n (md_W h a ca S) (pc + 3) lv (.ref (a 30) :: st)) : dc_G X l R D nL k n (md_W h a ca S) pc lv (.ref h :: st) :=
  dc_get (C := R_MD) (T := F_MD) (N := 107) (ci := 1) (ref := "SignalEngineModel") hC i_MD 0 rfl rfl 30 (by decide +kernel) w_1592 rfl rfl d kk
theorem md_l30 (hC : dc_K X D (md_T ca) ad de cc nL "SignalEngineModel") {τ : Type} {E : Nat → Option τ} {F : τ → Prop} {i : Int32} (d : decode cc pc = .ok (.iaload, 1)) (h0 : dc_wp ((dc_ix i 1200).bind E) F) (kk : ∀ j : Nat, dc_wp (E j) F → dc_G X l R D nL k n (md_W h a ca S) (pc + 1) lv (.int (S.2.1 30 j) :: st)) : dc_G X l R D nL k n (md_W h a ca S) pc lv (.int i :: .ref (a 30) :: st) :=
  dc_iald hC 8 7 rfl rfl d h0 kk
theorem md_s30 (hC : dc_K X D (md_T ca) ad de cc nL "SignalEngineModel") {τ : Type} {E : Nat → Option τ} {F : τ → Prop} {i : Int32} {x : Int32} (d : decode cc pc = .ok (.iastore, 1)) (h0 : dc_wp ((dc_ix i 1200).bind E) F) (kk : ∀ j : Nat, dc_wp (E j) F → dc_G X l R D nL k n (md_W h a ca (md_a S 30 j x)) (pc + 1) lv st) : dc_G X l R D nL k n (md_W h a ca S) pc lv (.int x :: .int i :: .ref (a 30) :: st) :=
  dc_iast (ws' := fun j => md_W h a ca (md_a S 30 j x)) hC 8 7 rfl rfl (fun _ => rfl) d h0 kk
/-- bFirst -/
theorem md_g31 (hC : dc_K X D (md_T ca) ad de cc nL "SignalEngineModel") (d : decode cc pc = .ok (.getfield 36, 3)) (kk : dc_G X l R D nL k n (md_W h a ca S) (pc + 3) lv (.ref (a 31) :: st)) : dc_G X l R D nL k n (md_W h a ca S) pc lv (.ref h :: st) :=
  dc_get (C := R_MD) (T := F_MD) (N := 107) (ci := 1) (ref := "SignalEngineModel") hC i_MD 0 rfl rfl 31 (by decide +kernel) w_1593 rfl rfl d kk
theorem md_l31 (hC : dc_K X D (md_T ca) ad de cc nL "SignalEngineModel") {τ : Type} {E : Nat → Option τ} {F : τ → Prop} {i : Int32} (d : decode cc pc = .ok (.iaload, 1)) (h0 : dc_wp ((dc_ix i 1200).bind E) F) (kk : ∀ j : Nat, dc_wp (E j) F → dc_G X l R D nL k n (md_W h a ca S) (pc + 1) lv (.int (S.2.1 31 j) :: st)) : dc_G X l R D nL k n (md_W h a ca S) pc lv (.int i :: .ref (a 31) :: st) :=
  dc_iald hC 9 8 rfl rfl d h0 kk
theorem md_s31 (hC : dc_K X D (md_T ca) ad de cc nL "SignalEngineModel") {τ : Type} {E : Nat → Option τ} {F : τ → Prop} {i : Int32} {x : Int32} (d : decode cc pc = .ok (.iastore, 1)) (h0 : dc_wp ((dc_ix i 1200).bind E) F) (kk : ∀ j : Nat, dc_wp (E j) F → dc_G X l R D nL k n (md_W h a ca (md_a S 31 j x)) (pc + 1) lv st) : dc_G X l R D nL k n (md_W h a ca S) pc lv (.int x :: .int i :: .ref (a 31) :: st) :=
  dc_iast (ws' := fun j => md_W h a ca (md_a S 31 j x)) hC 9 8 rfl rfl (fun _ => rfl) d h0 kk
/-- bSecond -/
theorem md_g32 (hC : dc_K X D (md_T ca) ad de cc nL "SignalEngineModel") (d : decode cc pc = .ok (.getfield 39, 3)) (kk : dc_G X l R D nL k n (md_W h a ca S) (pc + 3) lv (.ref (a 32) :: st)) : dc_G X l R D nL k n (md_W h a ca S) pc lv (.ref h :: st) :=
  dc_get (C := R_MD) (T := F_MD) (N := 107) (ci := 1) (ref := "SignalEngineModel") hC i_MD 0 rfl rfl 32 (by decide +kernel) w_1594 rfl rfl d kk
theorem md_l32 (hC : dc_K X D (md_T ca) ad de cc nL "SignalEngineModel") {τ : Type} {E : Nat → Option τ} {F : τ → Prop} {i : Int32} (d : decode cc pc = .ok (.iaload, 1)) (h0 : dc_wp ((dc_ix i 1200).bind E) F) (kk : ∀ j : Nat, dc_wp (E j) F → dc_G X l R D nL k n (md_W h a ca S) (pc + 1) lv (.int (S.2.1 32 j) :: st)) : dc_G X l R D nL k n (md_W h a ca S) pc lv (.int i :: .ref (a 32) :: st) :=
  dc_iald hC 10 9 rfl rfl d h0 kk
theorem md_s32 (hC : dc_K X D (md_T ca) ad de cc nL "SignalEngineModel") {τ : Type} {E : Nat → Option τ} {F : τ → Prop} {i : Int32} {x : Int32} (d : decode cc pc = .ok (.iastore, 1)) (h0 : dc_wp ((dc_ix i 1200).bind E) F) (kk : ∀ j : Nat, dc_wp (E j) F → dc_G X l R D nL k n (md_W h a ca (md_a S 32 j x)) (pc + 1) lv st) : dc_G X l R D nL k n (md_W h a ca S) pc lv (.int x :: .int i :: .ref (a 32) :: st) :=
  dc_iast (ws' := fun j => md_W h a ca (md_a S 32 j x)) hC 10 9 rfl rfl (fun _ => rfl) d h0 kk
/-- bNumber -/
theorem md_g33 (hC : dc_K X D (md_T ca) ad de cc nL "SignalEngineModel") (d : decode cc pc = .ok (.getfield 42, 3)) (kk : dc_G X l R D nL k n (md_W h a ca S) (pc + 3) lv (.ref (a 33) :: st)) : dc_G X l R D nL k n (md_W h a ca S) pc lv (.ref h :: st) :=
  dc_get (C := R_MD) (T := F_MD) (N := 107) (ci := 1) (ref := "SignalEngineModel") hC i_MD 0 rfl rfl 33 (by decide +kernel) w_1595 rfl rfl d kk
theorem md_l33 (hC : dc_K X D (md_T ca) ad de cc nL "SignalEngineModel") {τ : Type} {E : Nat → Option τ} {F : τ → Prop} {i : Int32} (d : decode cc pc = .ok (.iaload, 1)) (h0 : dc_wp ((dc_ix i 1200).bind E) F) (kk : ∀ j : Nat, dc_wp (E j) F → dc_G X l R D nL k n (md_W h a ca S) (pc + 1) lv (.int (S.2.1 33 j) :: st)) : dc_G X l R D nL k n (md_W h a ca S) pc lv (.int i :: .ref (a 33) :: st) :=
  dc_iald hC 11 10 rfl rfl d h0 kk
theorem md_s33 (hC : dc_K X D (md_T ca) ad de cc nL "SignalEngineModel") {τ : Type} {E : Nat → Option τ} {F : τ → Prop} {i : Int32} {x : Int32} (d : decode cc pc = .ok (.iastore, 1)) (h0 : dc_wp ((dc_ix i 1200).bind E) F) (kk : ∀ j : Nat, dc_wp (E j) F → dc_G X l R D nL k n (md_W h a ca (md_a S 33 j x)) (pc + 1) lv st) : dc_G X l R D nL k n (md_W h a ca S) pc lv (.int x :: .int i :: .ref (a 33) :: st) :=
  dc_iast (ws' := fun j => md_W h a ca (md_a S 33 j x)) hC 11 10 rfl rfl (fun _ => rfl) d h0 kk
/-- bLine -/
theorem md_g34 (hC : dc_K X D (md_T ca) ad de cc nL "SignalEngineModel") (d : decode cc pc = .ok (.getfield 45, 3)) (kk : dc_G X l R D nL k n (md_W h a ca S) (pc + 3) lv (.ref (a 34) :: st)) : dc_G X l R D nL k n (md_W h a ca S) pc lv (.ref h :: st) :=
  dc_get (C := R_MD) (T := F_MD) (N := 107) (ci := 1) (ref := "SignalEngineModel") hC i_MD 0 rfl rfl 34 (by decide +kernel) w_1596 rfl rfl d kk
theorem md_l34 (hC : dc_K X D (md_T ca) ad de cc nL "SignalEngineModel") {τ : Type} {E : Nat → Option τ} {F : τ → Prop} {i : Int32} (d : decode cc pc = .ok (.iaload, 1)) (h0 : dc_wp ((dc_ix i 1200).bind E) F) (kk : ∀ j : Nat, dc_wp (E j) F → dc_G X l R D nL k n (md_W h a ca S) (pc + 1) lv (.int (S.2.1 34 j) :: st)) : dc_G X l R D nL k n (md_W h a ca S) pc lv (.int i :: .ref (a 34) :: st) :=
  dc_iald hC 12 11 rfl rfl d h0 kk
theorem md_s34 (hC : dc_K X D (md_T ca) ad de cc nL "SignalEngineModel") {τ : Type} {E : Nat → Option τ} {F : τ → Prop} {i : Int32} {x : Int32} (d : decode cc pc = .ok (.iastore, 1)) (h0 : dc_wp ((dc_ix i 1200).bind E) F) (kk : ∀ j : Nat, dc_wp (E j) F → dc_G X l R D nL k n (md_W h a ca (md_a S 34 j x)) (pc + 1) lv st) : dc_G X l R D nL k n (md_W h a ca S) pc lv (.int x :: .int i :: .ref (a 34) :: st) :=
  dc_iast (ws' := fun j => md_W h a ca (md_a S 34 j x)) hC 12 11 rfl rfl (fun _ => rfl) d h0 kk
/-- bAsked -/
theorem md_g35 (hC : dc_K X D (md_T ca) ad de cc nL "SignalEngineModel") (d : decode cc pc = .ok (.getfield 48, 3)) (kk : dc_G X l R D nL k n (md_W h a ca S) (pc + 3) lv (.ref (a 35) :: st)) : dc_G X l R D nL k n (md_W h a ca S) pc lv (.ref h :: st) :=
  dc_get (C := R_MD) (T := F_MD) (N := 107) (ci := 1) (ref := "SignalEngineModel") hC i_MD 0 rfl rfl 35 (by decide +kernel) w_1597 rfl rfl d kk
theorem md_l35 (hC : dc_K X D (md_T ca) ad de cc nL "SignalEngineModel") {τ : Type} {E : Nat → Option τ} {F : τ → Prop} {i : Int32} (d : decode cc pc = .ok (.iaload, 1)) (h0 : dc_wp ((dc_ix i 1200).bind E) F) (kk : ∀ j : Nat, dc_wp (E j) F → dc_G X l R D nL k n (md_W h a ca S) (pc + 1) lv (.int (S.2.1 35 j) :: st)) : dc_G X l R D nL k n (md_W h a ca S) pc lv (.int i :: .ref (a 35) :: st) :=
  dc_iald hC 13 12 rfl rfl d h0 kk
theorem md_s35 (hC : dc_K X D (md_T ca) ad de cc nL "SignalEngineModel") {τ : Type} {E : Nat → Option τ} {F : τ → Prop} {i : Int32} {x : Int32} (d : decode cc pc = .ok (.iastore, 1)) (h0 : dc_wp ((dc_ix i 1200).bind E) F) (kk : ∀ j : Nat, dc_wp (E j) F → dc_G X l R D nL k n (md_W h a ca (md_a S 35 j x)) (pc + 1) lv st) : dc_G X l R D nL k n (md_W h a ca S) pc lv (.int x :: .int i :: .ref (a 35) :: st) :=
  dc_iast (ws' := fun j => md_W h a ca (md_a S 35 j x)) hC 13 12 rfl rfl (fun _ => rfl) d h0 kk
/-- pKind -/
theorem md_g36 (hC : dc_K X D (md_T ca) ad de cc nL "SignalEngineModel") (d : decode cc pc = .ok (.getfield 51, 3)) (kk : dc_G X l R D nL k n (md_W h a ca S) (pc + 3) lv (.ref (a 36) :: st)) : dc_G X l R D nL k n (md_W h a ca S) pc lv (.ref h :: st) :=
  dc_get (C := R_MD) (T := F_MD) (N := 107) (ci := 1) (ref := "SignalEngineModel") hC i_MD 0 rfl rfl 36 (by decide +kernel) w_1598 rfl rfl d kk
theorem md_l36 (hC : dc_K X D (md_T ca) ad de cc nL "SignalEngineModel") {τ : Type} {E : Nat → Option τ} {F : τ → Prop} {i : Int32} (d : decode cc pc = .ok (.iaload, 1)) (h0 : dc_wp ((dc_ix i 1000).bind E) F) (kk : ∀ j : Nat, dc_wp (E j) F → dc_G X l R D nL k n (md_W h a ca S) (pc + 1) lv (.int (S.2.1 36 j) :: st)) : dc_G X l R D nL k n (md_W h a ca S) pc lv (.int i :: .ref (a 36) :: st) :=
  dc_iald hC 14 13 rfl rfl d h0 kk
theorem md_s36 (hC : dc_K X D (md_T ca) ad de cc nL "SignalEngineModel") {τ : Type} {E : Nat → Option τ} {F : τ → Prop} {i : Int32} {x : Int32} (d : decode cc pc = .ok (.iastore, 1)) (h0 : dc_wp ((dc_ix i 1000).bind E) F) (kk : ∀ j : Nat, dc_wp (E j) F → dc_G X l R D nL k n (md_W h a ca (md_a S 36 j x)) (pc + 1) lv st) : dc_G X l R D nL k n (md_W h a ca S) pc lv (.int x :: .int i :: .ref (a 36) :: st) :=
  dc_iast (ws' := fun j => md_W h a ca (md_a S 36 j x)) hC 14 13 rfl rfl (fun _ => rfl) d h0 kk
/-- pFirst -/
theorem md_g37 (hC : dc_K X D (md_T ca) ad de cc nL "SignalEngineModel") (d : decode cc pc = .ok (.getfield 54, 3)) (kk : dc_G X l R D nL k n (md_W h a ca S) (pc + 3) lv (.ref (a 37) :: st)) : dc_G X l R D nL k n (md_W h a ca S) pc lv (.ref h :: st) :=
  dc_get (C := R_MD) (T := F_MD) (N := 107) (ci := 1) (ref := "SignalEngineModel") hC i_MD 0 rfl rfl 37 (by decide +kernel) w_1599 rfl rfl d kk
theorem md_l37 (hC : dc_K X D (md_T ca) ad de cc nL "SignalEngineModel") {τ : Type} {E : Nat → Option τ} {F : τ → Prop} {i : Int32} (d : decode cc pc = .ok (.iaload, 1)) (h0 : dc_wp ((dc_ix i 1000).bind E) F) (kk : ∀ j : Nat, dc_wp (E j) F → dc_G X l R D nL k n (md_W h a ca S) (pc + 1) lv (.int (S.2.1 37 j) :: st)) : dc_G X l R D nL k n (md_W h a ca S) pc lv (.int i :: .ref (a 37) :: st) :=
  dc_iald hC 15 14 rfl rfl d h0 kk
theorem md_s37 (hC : dc_K X D (md_T ca) ad de cc nL "SignalEngineModel") {τ : Type} {E : Nat → Option τ} {F : τ → Prop} {i : Int32} {x : Int32} (d : decode cc pc = .ok (.iastore, 1)) (h0 : dc_wp ((dc_ix i 1000).bind E) F) (kk : ∀ j : Nat, dc_wp (E j) F → dc_G X l R D nL k n (md_W h a ca (md_a S 37 j x)) (pc + 1) lv st) : dc_G X l R D nL k n (md_W h a ca S) pc lv (.int x :: .int i :: .ref (a 37) :: st) :=
  dc_iast (ws' := fun j => md_W h a ca (md_a S 37 j x)) hC 15 14 rfl rfl (fun _ => rfl) d h0 kk
/-- pSecond -/
theorem md_g38 (hC : dc_K X D (md_T ca) ad de cc nL "SignalEngineModel") (d : decode cc pc = .ok (.getfield 57, 3)) (kk : dc_G X l R D nL k n (md_W h a ca S) (pc + 3) lv (.ref (a 38) :: st)) : dc_G X l R D nL k n (md_W h a ca S) pc lv (.ref h :: st) :=
  dc_get (C := R_MD) (T := F_MD) (N := 107) (ci := 1) (ref := "SignalEngineModel") hC i_MD 0 rfl rfl 38 (by decide +kernel) w_1600 rfl rfl d kk
theorem md_l38 (hC : dc_K X D (md_T ca) ad de cc nL "SignalEngineModel") {τ : Type} {E : Nat → Option τ} {F : τ → Prop} {i : Int32} (d : decode cc pc = .ok (.iaload, 1)) (h0 : dc_wp ((dc_ix i 1000).bind E) F) (kk : ∀ j : Nat, dc_wp (E j) F → dc_G X l R D nL k n (md_W h a ca S) (pc + 1) lv (.int (S.2.1 38 j) :: st)) : dc_G X l R D nL k n (md_W h a ca S) pc lv (.int i :: .ref (a 38) :: st) :=
  dc_iald hC 16 15 rfl rfl d h0 kk
theorem md_s38 (hC : dc_K X D (md_T ca) ad de cc nL "SignalEngineModel") {τ : Type} {E : Nat → Option τ} {F : τ → Prop} {i : Int32} {x : Int32} (d : decode cc pc = .ok (.iastore, 1)) (h0 : dc_wp ((dc_ix i 1000).bind E) F) (kk : ∀ j : Nat, dc_wp (E j) F → dc_G X l R D nL k n (md_W h a ca (md_a S 38 j x)) (pc + 1) lv st) : dc_G X l R D nL k n (md_W h a ca S) pc lv (.int x :: .int i :: .ref (a 38) :: st) :=
  dc_iast (ws' := fun j => md_W h a ca (md_a S 38 j x)) hC 16 15 rfl rfl (fun _ => rfl) d h0 kk
/-- pile -/
theorem md_g39 (hC : dc_K X D (md_T ca) ad de cc nL "SignalEngineModel") (d : decode cc pc = .ok (.getfield 60, 3)) (kk : dc_G X l R D nL k n (md_W h a ca S) (pc + 3) lv (.ref (a 39) :: st)) : dc_G X l R D nL k n (md_W h a ca S) pc lv (.ref h :: st) :=
  dc_get (C := R_MD) (T := F_MD) (N := 107) (ci := 1) (ref := "SignalEngineModel") hC i_MD 0 rfl rfl 39 (by decide +kernel) w_1601 rfl rfl d kk
theorem md_l39 (hC : dc_K X D (md_T ca) ad de cc nL "SignalEngineModel") {τ : Type} {E : Nat → Option τ} {F : τ → Prop} {i : Int32} (d : decode cc pc = .ok (.iaload, 1)) (h0 : dc_wp ((dc_ix i 1208).bind E) F) (kk : ∀ j : Nat, dc_wp (E j) F → dc_G X l R D nL k n (md_W h a ca S) (pc + 1) lv (.int (S.2.1 39 j) :: st)) : dc_G X l R D nL k n (md_W h a ca S) pc lv (.int i :: .ref (a 39) :: st) :=
  dc_iald hC 17 16 rfl rfl d h0 kk
theorem md_s39 (hC : dc_K X D (md_T ca) ad de cc nL "SignalEngineModel") {τ : Type} {E : Nat → Option τ} {F : τ → Prop} {i : Int32} {x : Int32} (d : decode cc pc = .ok (.iastore, 1)) (h0 : dc_wp ((dc_ix i 1208).bind E) F) (kk : ∀ j : Nat, dc_wp (E j) F → dc_G X l R D nL k n (md_W h a ca (md_a S 39 j x)) (pc + 1) lv st) : dc_G X l R D nL k n (md_W h a ca S) pc lv (.int x :: .int i :: .ref (a 39) :: st) :=
  dc_iast (ws' := fun j => md_W h a ca (md_a S 39 j x)) hC 17 16 rfl rfl (fun _ => rfl) d h0 kk
/-- pileParent -/
theorem md_g40 (hC : dc_K X D (md_T ca) ad de cc nL "SignalEngineModel") (d : decode cc pc = .ok (.getfield 63, 3)) (kk : dc_G X l R D nL k n (md_W h a ca S) (pc + 3) lv (.ref (a 40) :: st)) : dc_G X l R D nL k n (md_W h a ca S) pc lv (.ref h :: st) :=
  dc_get (C := R_MD) (T := F_MD) (N := 107) (ci := 1) (ref := "SignalEngineModel") hC i_MD 0 rfl rfl 40 (by decide +kernel) w_1602 rfl rfl d kk
theorem md_l40 (hC : dc_K X D (md_T ca) ad de cc nL "SignalEngineModel") {τ : Type} {E : Nat → Option τ} {F : τ → Prop} {i : Int32} (d : decode cc pc = .ok (.iaload, 1)) (h0 : dc_wp ((dc_ix i 1208).bind E) F) (kk : ∀ j : Nat, dc_wp (E j) F → dc_G X l R D nL k n (md_W h a ca S) (pc + 1) lv (.int (S.2.1 40 j) :: st)) : dc_G X l R D nL k n (md_W h a ca S) pc lv (.int i :: .ref (a 40) :: st) :=
  dc_iald hC 18 17 rfl rfl d h0 kk
theorem md_s40 (hC : dc_K X D (md_T ca) ad de cc nL "SignalEngineModel") {τ : Type} {E : Nat → Option τ} {F : τ → Prop} {i : Int32} {x : Int32} (d : decode cc pc = .ok (.iastore, 1)) (h0 : dc_wp ((dc_ix i 1208).bind E) F) (kk : ∀ j : Nat, dc_wp (E j) F → dc_G X l R D nL k n (md_W h a ca (md_a S 40 j x)) (pc + 1) lv st) : dc_G X l R D nL k n (md_W h a ca S) pc lv (.int x :: .int i :: .ref (a 40) :: st) :=
  dc_iast (ws' := fun j => md_W h a ca (md_a S 40 j x)) hC 18 17 rfl rfl (fun _ => rfl) d h0 kk
/-- there -/
theorem md_g41 (hC : dc_K X D (md_T ca) ad de cc nL "SignalEngineModel") (d : decode cc pc = .ok (.getfield 521, 3)) (kk : dc_G X l R D nL k n (md_W h a ca S) (pc + 3) lv (.int (S.1 41) :: st)) : dc_G X l R D nL k n (md_W h a ca S) pc lv (.ref h :: st) :=
  dc_get (C := R_MD) (T := F_MD) (N := 107) (ci := 1) (ref := "SignalEngineModel") hC i_MD 0 rfl rfl 41 (by decide +kernel) w_1603 rfl rfl d kk
theorem md_p41 (hC : dc_K X D (md_T ca) ad de cc nL "SignalEngineModel") {x : Int32} (hz : x = 0 ∨ x = 1) (d : decode cc pc = .ok (.putfield 521, 3)) (kk : dc_G X l R D nL k n (md_W h a ca (md_i S 41 x)) (pc + 3) lv st) : dc_G X l R D nL k n (md_W h a ca S) pc lv (.int x :: .ref h :: st) :=
  dc_put (C := R_MD) (T := F_MD) (N := 107) (ci := 1) (ref := "SignalEngineModel") (ty := .boolean) hC i_MD t_MD t_MD_ok n_MD 0 rfl rfl 41 (by decide +kernel) w_1603 rfl rfl (by decide +kernel) (dc_nar hz).2.1 (dc_nar hz).2.2 (Nat.le_of_ble_eq_true rfl) rfl d kk
/-- nodes -/
theorem md_g42 (hC : dc_K X D (md_T ca) ad de cc nL "SignalEngineModel") (d : decode cc pc = .ok (.getfield 539, 3)) (kk : dc_G X l R D nL k n (md_W h a ca S) (pc + 3) lv (.int (S.1 42) :: st)) : dc_G X l R D nL k n (md_W h a ca S) pc lv (.ref h :: st) :=
  dc_get (C := R_MD) (T := F_MD) (N := 107) (ci := 1) (ref := "SignalEngineModel") hC i_MD 0 rfl rfl 42 (by decide +kernel) w_1604 rfl rfl d kk
theorem md_p42 (hC : dc_K X D (md_T ca) ad de cc nL "SignalEngineModel") {x : Int32} (d : decode cc pc = .ok (.putfield 539, 3)) (kk : dc_G X l R D nL k n (md_W h a ca (md_i S 42 x)) (pc + 3) lv st) : dc_G X l R D nL k n (md_W h a ca S) pc lv (.int x :: .ref h :: st) :=
  dc_put (C := R_MD) (T := F_MD) (N := 107) (ci := 1) (ref := "SignalEngineModel") (ty := .int) hC i_MD t_MD t_MD_ok n_MD 0 rfl rfl 42 (by decide +kernel) w_1604 rfl rfl (by decide +kernel) rfl rfl (Nat.le_of_ble_eq_true rfl) rfl d kk
/-- pieces -/
theorem md_g43 (hC : dc_K X D (md_T ca) ad de cc nL "SignalEngineModel") (d : decode cc pc = .ok (.getfield 501, 3)) (kk : dc_G X l R D nL k n (md_W h a ca S) (pc + 3) lv (.int (S.1 43) :: st)) : dc_G X l R D nL k n (md_W h a ca S) pc lv (.ref h :: st) :=
  dc_get (C := R_MD) (T := F_MD) (N := 107) (ci := 1) (ref := "SignalEngineModel") hC i_MD 0 rfl rfl 43 (by decide +kernel) w_1605 rfl rfl d kk
theorem md_p43 (hC : dc_K X D (md_T ca) ad de cc nL "SignalEngineModel") {x : Int32} (d : decode cc pc = .ok (.putfield 501, 3)) (kk : dc_G X l R D nL k n (md_W h a ca (md_i S 43 x)) (pc + 3) lv st) : dc_G X l R D nL k n (md_W h a ca S) pc lv (.int x :: .ref h :: st) :=
  dc_put (C := R_MD) (T := F_MD) (N := 107) (ci := 1) (ref := "SignalEngineModel") (ty := .int) hC i_MD t_MD t_MD_ok n_MD 0 rfl rfl 43 (by decide +kernel) w_1605 rfl rfl (by decide +kernel) rfl rfl (Nat.le_of_ble_eq_true rfl) rfl d kk
/-- signals -/
theorem md_g44 (hC : dc_K X D (md_T ca) ad de cc nL "SignalEngineModel") (d : decode cc pc = .ok (.getfield 536, 3)) (kk : dc_G X l R D nL k n (md_W h a ca S) (pc + 3) lv (.int (S.1 44) :: st)) : dc_G X l R D nL k n (md_W h a ca S) pc lv (.ref h :: st) :=
  dc_get (C := R_MD) (T := F_MD) (N := 107) (ci := 1) (ref := "SignalEngineModel") hC i_MD 0 rfl rfl 44 (by decide +kernel) w_1606 rfl rfl d kk
theorem md_p44 (hC : dc_K X D (md_T ca) ad de cc nL "SignalEngineModel") {x : Int32} (d : decode cc pc = .ok (.putfield 536, 3)) (kk : dc_G X l R D nL k n (md_W h a ca (md_i S 44 x)) (pc + 3) lv st) : dc_G X l R D nL k n (md_W h a ca S) pc lv (.int x :: .ref h :: st) :=
  dc_put (C := R_MD) (T := F_MD) (N := 107) (ci := 1) (ref := "SignalEngineModel") (ty := .int) hC i_MD t_MD t_MD_ok n_MD 0 rfl rfl 44 (by decide +kernel) w_1606 rfl rfl (by decide +kernel) rfl rfl (Nat.le_of_ble_eq_true rfl) rfl d kk
/-- ins -/
theorem md_g45 (hC : dc_K X D (md_T ca) ad de cc nL "SignalEngineModel") (d : decode cc pc = .ok (.getfield 533, 3)) (kk : dc_G X l R D nL k n (md_W h a ca S) (pc + 3) lv (.int (S.1 45) :: st)) : dc_G X l R D nL k n (md_W h a ca S) pc lv (.ref h :: st) :=
  dc_get (C := R_MD) (T := F_MD) (N := 107) (ci := 1) (ref := "SignalEngineModel") hC i_MD 0 rfl rfl 45 (by decide +kernel) w_1607 rfl rfl d kk
theorem md_p45 (hC : dc_K X D (md_T ca) ad de cc nL "SignalEngineModel") {x : Int32} (d : decode cc pc = .ok (.putfield 533, 3)) (kk : dc_G X l R D nL k n (md_W h a ca (md_i S 45 x)) (pc + 3) lv st) : dc_G X l R D nL k n (md_W h a ca S) pc lv (.int x :: .ref h :: st) :=
  dc_put (C := R_MD) (T := F_MD) (N := 107) (ci := 1) (ref := "SignalEngineModel") (ty := .int) hC i_MD t_MD t_MD_ok n_MD 0 rfl rfl 45 (by decide +kernel) w_1607 rfl rfl (by decide +kernel) rfl rfl (Nat.le_of_ble_eq_true rfl) rfl d kk
/-- outs -/
theorem md_g46 (hC : dc_K X D (md_T ca) ad de cc nL "SignalEngineModel") (d : decode cc pc = .ok (.getfield 530, 3)) (kk : dc_G X l R D nL k n (md_W h a ca S) (pc + 3) lv (.int (S.1 46) :: st)) : dc_G X l R D nL k n (md_W h a ca S) pc lv (.ref h :: st) :=
  dc_get (C := R_MD) (T := F_MD) (N := 107) (ci := 1) (ref := "SignalEngineModel") hC i_MD 0 rfl rfl 46 (by decide +kernel) w_1608 rfl rfl d kk
theorem md_p46 (hC : dc_K X D (md_T ca) ad de cc nL "SignalEngineModel") {x : Int32} (d : decode cc pc = .ok (.putfield 530, 3)) (kk : dc_G X l R D nL k n (md_W h a ca (md_i S 46 x)) (pc + 3) lv st) : dc_G X l R D nL k n (md_W h a ca S) pc lv (.int x :: .ref h :: st) :=
  dc_put (C := R_MD) (T := F_MD) (N := 107) (ci := 1) (ref := "SignalEngineModel") (ty := .int) hC i_MD t_MD t_MD_ok n_MD 0 rfl rfl 46 (by decide +kernel) w_1608 rfl rfl (by decide +kernel) rfl rfl (Nat.le_of_ble_eq_true rfl) rfl d kk
/-- pauses -/
theorem md_g47 (hC : dc_K X D (md_T ca) ad de cc nL "SignalEngineModel") (d : decode cc pc = .ok (.getfield 498, 3)) (kk : dc_G X l R D nL k n (md_W h a ca S) (pc + 3) lv (.int (S.1 47) :: st)) : dc_G X l R D nL k n (md_W h a ca S) pc lv (.ref h :: st) :=
  dc_get (C := R_MD) (T := F_MD) (N := 107) (ci := 1) (ref := "SignalEngineModel") hC i_MD 0 rfl rfl 47 (by decide +kernel) w_1609 rfl rfl d kk
theorem md_p47 (hC : dc_K X D (md_T ca) ad de cc nL "SignalEngineModel") {x : Int32} (d : decode cc pc = .ok (.putfield 498, 3)) (kk : dc_G X l R D nL k n (md_W h a ca (md_i S 47 x)) (pc + 3) lv st) : dc_G X l R D nL k n (md_W h a ca S) pc lv (.int x :: .ref h :: st) :=
  dc_put (C := R_MD) (T := F_MD) (N := 107) (ci := 1) (ref := "SignalEngineModel") (ty := .int) hC i_MD t_MD t_MD_ok n_MD 0 rfl rfl 47 (by decide +kernel) w_1609 rfl rfl (by decide +kernel) rfl rfl (Nat.le_of_ble_eq_true rfl) rfl d kk
/-- weights -/
theorem md_g48 (hC : dc_K X D (md_T ca) ad de cc nL "SignalEngineModel") (d : decode cc pc = .ok (.getfield 507, 3)) (kk : dc_G X l R D nL k n (md_W h a ca S) (pc + 3) lv (.int (S.1 48) :: st)) : dc_G X l R D nL k n (md_W h a ca S) pc lv (.ref h :: st) :=
  dc_get (C := R_MD) (T := F_MD) (N := 107) (ci := 1) (ref := "SignalEngineModel") hC i_MD 0 rfl rfl 48 (by decide +kernel) w_1610 rfl rfl d kk
theorem md_p48 (hC : dc_K X D (md_T ca) ad de cc nL "SignalEngineModel") {x : Int32} (d : decode cc pc = .ok (.putfield 507, 3)) (kk : dc_G X l R D nL k n (md_W h a ca (md_i S 48 x)) (pc + 3) lv st) : dc_G X l R D nL k n (md_W h a ca S) pc lv (.int x :: .ref h :: st) :=
  dc_put (C := R_MD) (T := F_MD) (N := 107) (ci := 1) (ref := "SignalEngineModel") (ty := .int) hC i_MD t_MD t_MD_ok n_MD 0 rfl rfl 48 (by decide +kernel) w_1610 rfl rfl (by decide +kernel) rfl rfl (Nat.le_of_ble_eq_true rfl) rfl d kk
/-- traps -/
theorem md_g49 (hC : dc_K X D (md_T ca) ad de cc nL "SignalEngineModel") (d : decode cc pc = .ok (.getfield 504, 3)) (kk : dc_G X l R D nL k n (md_W h a ca S) (pc + 3) lv (.int (S.1 49) :: st)) : dc_G X l R D nL k n (md_W h a ca S) pc lv (.ref h :: st) :=
  dc_get (C := R_MD) (T := F_MD) (N := 107) (ci := 1) (ref := "SignalEngineModel") hC i_MD 0 rfl rfl 49 (by decide +kernel) w_1611 rfl rfl d kk
theorem md_p49 (hC : dc_K X D (md_T ca) ad de cc nL "SignalEngineModel") {x : Int32} (d : decode cc pc = .ok (.putfield 504, 3)) (kk : dc_G X l R D nL k n (md_W h a ca (md_i S 49 x)) (pc + 3) lv st) : dc_G X l R D nL k n (md_W h a ca S) pc lv (.int x :: .ref h :: st) :=
  dc_put (C := R_MD) (T := F_MD) (N := 107) (ci := 1) (ref := "SignalEngineModel") (ty := .int) hC i_MD t_MD t_MD_ok n_MD 0 rfl rfl 49 (by decide +kernel) w_1611 rfl rfl (by decide +kernel) rfl rfl (Nat.le_of_ble_eq_true rfl) rfl d kk
/-- instances -/
theorem md_g50 (hC : dc_K X D (md_T ca) ad de cc nL "SignalEngineModel") (d : decode cc pc = .ok (.getfield 561, 3)) (kk : dc_G X l R D nL k n (md_W h a ca S) (pc + 3) lv (.int (S.1 50) :: st)) : dc_G X l R D nL k n (md_W h a ca S) pc lv (.ref h :: st) :=
  dc_get (C := R_MD) (T := F_MD) (N := 107) (ci := 1) (ref := "SignalEngineModel") hC i_MD 0 rfl rfl 50 (by decide +kernel) w_1612 rfl rfl d kk
theorem md_p50 (hC : dc_K X D (md_T ca) ad de cc nL "SignalEngineModel") {x : Int32} (d : decode cc pc = .ok (.putfield 561, 3)) (kk : dc_G X l R D nL k n (md_W h a ca (md_i S 50 x)) (pc + 3) lv st) : dc_G X l R D nL k n (md_W h a ca S) pc lv (.int x :: .ref h :: st) :=
  dc_put (C := R_MD) (T := F_MD) (N := 107) (ci := 1) (ref := "SignalEngineModel") (ty := .int) hC i_MD t_MD t_MD_ok n_MD 0 rfl rfl 50 (by decide +kernel) w_1612 rfl rfl (by decide +kernel) rfl rfl (Nat.le_of_ble_eq_true rfl) rfl d kk
/-- kind -/
theorem md_g51 (hC : dc_K X D (md_T ca) ad de cc nL "SignalEngineModel") (d : decode cc pc = .ok (.getfield 66, 3)) (kk : dc_G X l R D nL k n (md_W h a ca S) (pc + 3) lv (.ref (a 51) :: st)) : dc_G X l R D nL k n (md_W h a ca S) pc lv (.ref h :: st) :=
  dc_get (C := R_MD) (T := F_MD) (N := 107) (ci := 1) (ref := "SignalEngineModel") hC i_MD 0 rfl rfl 51 (by decide +kernel) w_1613 rfl rfl d kk
theorem md_l51 (hC : dc_K X D (md_T ca) ad de cc nL "SignalEngineModel") {τ : Type} {E : Nat → Option τ} {F : τ → Prop} {i : Int32} (d : decode cc pc = .ok (.iaload, 1)) (h0 : dc_wp ((dc_ix i 1200).bind E) F) (kk : ∀ j : Nat, dc_wp (E j) F → dc_G X l R D nL k n (md_W h a ca S) (pc + 1) lv (.int (S.2.1 51 j) :: st)) : dc_G X l R D nL k n (md_W h a ca S) pc lv (.int i :: .ref (a 51) :: st) :=
  dc_iald hC 19 18 rfl rfl d h0 kk
theorem md_s51 (hC : dc_K X D (md_T ca) ad de cc nL "SignalEngineModel") {τ : Type} {E : Nat → Option τ} {F : τ → Prop} {i : Int32} {x : Int32} (d : decode cc pc = .ok (.iastore, 1)) (h0 : dc_wp ((dc_ix i 1200).bind E) F) (kk : ∀ j : Nat, dc_wp (E j) F → dc_G X l R D nL k n (md_W h a ca (md_a S 51 j x)) (pc + 1) lv st) : dc_G X l R D nL k n (md_W h a ca S) pc lv (.int x :: .int i :: .ref (a 51) :: st) :=
  dc_iast (ws' := fun j => md_W h a ca (md_a S 51 j x)) hC 19 18 rfl rfl (fun _ => rfl) d h0 kk
/-- first -/
theorem md_g52 (hC : dc_K X D (md_T ca) ad de cc nL "SignalEngineModel") (d : decode cc pc = .ok (.getfield 69, 3)) (kk : dc_G X l R D nL k n (md_W h a ca S) (pc + 3) lv (.ref (a 52) :: st)) : dc_G X l R D nL k n (md_W h a ca S) pc lv (.ref h :: st) :=
  dc_get (C := R_MD) (T := F_MD) (N := 107) (ci := 1) (ref := "SignalEngineModel") hC i_MD 0 rfl rfl 52 (by decide +kernel) w_1614 rfl rfl d kk
theorem md_l52 (hC : dc_K X D (md_T ca) ad de cc nL "SignalEngineModel") {τ : Type} {E : Nat → Option τ} {F : τ → Prop} {i : Int32} (d : decode cc pc = .ok (.iaload, 1)) (h0 : dc_wp ((dc_ix i 1200).bind E) F) (kk : ∀ j : Nat, dc_wp (E j) F → dc_G X l R D nL k n (md_W h a ca S) (pc + 1) lv (.int (S.2.1 52 j) :: st)) : dc_G X l R D nL k n (md_W h a ca S) pc lv (.int i :: .ref (a 52) :: st) :=
  dc_iald hC 20 19 rfl rfl d h0 kk
theorem md_s52 (hC : dc_K X D (md_T ca) ad de cc nL "SignalEngineModel") {τ : Type} {E : Nat → Option τ} {F : τ → Prop} {i : Int32} {x : Int32} (d : decode cc pc = .ok (.iastore, 1)) (h0 : dc_wp ((dc_ix i 1200).bind E) F) (kk : ∀ j : Nat, dc_wp (E j) F → dc_G X l R D nL k n (md_W h a ca (md_a S 52 j x)) (pc + 1) lv st) : dc_G X l R D nL k n (md_W h a ca S) pc lv (.int x :: .int i :: .ref (a 52) :: st) :=
  dc_iast (ws' := fun j => md_W h a ca (md_a S 52 j x)) hC 20 19 rfl rfl (fun _ => rfl) d h0 kk
/-- second -/
theorem md_g53 (hC : dc_K X D (md_T ca) ad de cc nL "SignalEngineModel") (d : decode cc pc = .ok (.getfield 72, 3)) (kk : dc_G X l R D nL k n (md_W h a ca S) (pc + 3) lv (.ref (a 53) :: st)) : dc_G X l R D nL k n (md_W h a ca S) pc lv (.ref h :: st) :=
  dc_get (C := R_MD) (T := F_MD) (N := 107) (ci := 1) (ref := "SignalEngineModel") hC i_MD 0 rfl rfl 53 (by decide +kernel) w_1615 rfl rfl d kk
theorem md_l53 (hC : dc_K X D (md_T ca) ad de cc nL "SignalEngineModel") {τ : Type} {E : Nat → Option τ} {F : τ → Prop} {i : Int32} (d : decode cc pc = .ok (.iaload, 1)) (h0 : dc_wp ((dc_ix i 1200).bind E) F) (kk : ∀ j : Nat, dc_wp (E j) F → dc_G X l R D nL k n (md_W h a ca S) (pc + 1) lv (.int (S.2.1 53 j) :: st)) : dc_G X l R D nL k n (md_W h a ca S) pc lv (.int i :: .ref (a 53) :: st) :=
  dc_iald hC 21 20 rfl rfl d h0 kk
theorem md_s53 (hC : dc_K X D (md_T ca) ad de cc nL "SignalEngineModel") {τ : Type} {E : Nat → Option τ} {F : τ → Prop} {i : Int32} {x : Int32} (d : decode cc pc = .ok (.iastore, 1)) (h0 : dc_wp ((dc_ix i 1200).bind E) F) (kk : ∀ j : Nat, dc_wp (E j) F → dc_G X l R D nL k n (md_W h a ca (md_a S 53 j x)) (pc + 1) lv st) : dc_G X l R D nL k n (md_W h a ca S) pc lv (.int x :: .int i :: .ref (a 53) :: st) :=
  dc_iast (ws' := fun j => md_W h a ca (md_a S 53 j x)) hC 21 20 rfl rfl (fun _ => rfl) d h0 kk
/-- number -/
theorem md_g54 (hC : dc_K X D (md_T ca) ad de cc nL "SignalEngineModel") (d : decode cc pc = .ok (.getfield 75, 3)) (kk : dc_G X l R D nL k n (md_W h a ca S) (pc + 3) lv (.ref (a 54) :: st)) : dc_G X l R D nL k n (md_W h a ca S) pc lv (.ref h :: st) :=
  dc_get (C := R_MD) (T := F_MD) (N := 107) (ci := 1) (ref := "SignalEngineModel") hC i_MD 0 rfl rfl 54 (by decide +kernel) w_1616 rfl rfl d kk
theorem md_l54 (hC : dc_K X D (md_T ca) ad de cc nL "SignalEngineModel") {τ : Type} {E : Nat → Option τ} {F : τ → Prop} {i : Int32} (d : decode cc pc = .ok (.iaload, 1)) (h0 : dc_wp ((dc_ix i 1200).bind E) F) (kk : ∀ j : Nat, dc_wp (E j) F → dc_G X l R D nL k n (md_W h a ca S) (pc + 1) lv (.int (S.2.1 54 j) :: st)) : dc_G X l R D nL k n (md_W h a ca S) pc lv (.int i :: .ref (a 54) :: st) :=
  dc_iald hC 22 21 rfl rfl d h0 kk
theorem md_s54 (hC : dc_K X D (md_T ca) ad de cc nL "SignalEngineModel") {τ : Type} {E : Nat → Option τ} {F : τ → Prop} {i : Int32} {x : Int32} (d : decode cc pc = .ok (.iastore, 1)) (h0 : dc_wp ((dc_ix i 1200).bind E) F) (kk : ∀ j : Nat, dc_wp (E j) F → dc_G X l R D nL k n (md_W h a ca (md_a S 54 j x)) (pc + 1) lv st) : dc_G X l R D nL k n (md_W h a ca S) pc lv (.int x :: .int i :: .ref (a 54) :: st) :=
  dc_iast (ws' := fun j => md_W h a ca (md_a S 54 j x)) hC 22 21 rfl rfl (fun _ => rfl) d h0 kk
/-- code -/
theorem md_g55 (hC : dc_K X D (md_T ca) ad de cc nL "SignalEngineModel") (d : decode cc pc = .ok (.getfield 78, 3)) (kk : dc_G X l R D nL k n (md_W h a ca S) (pc + 3) lv (.ref (a 55) :: st)) : dc_G X l R D nL k n (md_W h a ca S) pc lv (.ref h :: st) :=
  dc_get (C := R_MD) (T := F_MD) (N := 107) (ci := 1) (ref := "SignalEngineModel") hC i_MD 0 rfl rfl 55 (by decide +kernel) w_1617 rfl rfl d kk
theorem md_l55 (hC : dc_K X D (md_T ca) ad de cc nL "SignalEngineModel") {τ : Type} {E : Nat → Option τ} {F : τ → Prop} {i : Int32} (d : decode cc pc = .ok (.iaload, 1)) (h0 : dc_wp ((dc_ix i 1200).bind E) F) (kk : ∀ j : Nat, dc_wp (E j) F → dc_G X l R D nL k n (md_W h a ca S) (pc + 1) lv (.int (S.2.1 55 j) :: st)) : dc_G X l R D nL k n (md_W h a ca S) pc lv (.int i :: .ref (a 55) :: st) :=
  dc_iald hC 23 22 rfl rfl d h0 kk
theorem md_s55 (hC : dc_K X D (md_T ca) ad de cc nL "SignalEngineModel") {τ : Type} {E : Nat → Option τ} {F : τ → Prop} {i : Int32} {x : Int32} (d : decode cc pc = .ok (.iastore, 1)) (h0 : dc_wp ((dc_ix i 1200).bind E) F) (kk : ∀ j : Nat, dc_wp (E j) F → dc_G X l R D nL k n (md_W h a ca (md_a S 55 j x)) (pc + 1) lv st) : dc_G X l R D nL k n (md_W h a ca S) pc lv (.int x :: .int i :: .ref (a 55) :: st) :=
  dc_iast (ws' := fun j => md_W h a ca (md_a S 55 j x)) hC 23 22 rfl rfl (fun _ => rfl) d h0 kk
/-- lines -/
theorem md_g56 (hC : dc_K X D (md_T ca) ad de cc nL "SignalEngineModel") (d : decode cc pc = .ok (.getfield 81, 3)) (kk : dc_G X l R D nL k n (md_W h a ca S) (pc + 3) lv (.ref (a 56) :: st)) : dc_G X l R D nL k n (md_W h a ca S) pc lv (.ref h :: st) :=
  dc_get (C := R_MD) (T := F_MD) (N := 107) (ci := 1) (ref := "SignalEngineModel") hC i_MD 0 rfl rfl 56 (by decide +kernel) w_1618 rfl rfl d kk
theorem md_l56 (hC : dc_K X D (md_T ca) ad de cc nL "SignalEngineModel") {τ : Type} {E : Nat → Option τ} {F : τ → Prop} {i : Int32} (d : decode cc pc = .ok (.iaload, 1)) (h0 : dc_wp ((dc_ix i 1200).bind E) F) (kk : ∀ j : Nat, dc_wp (E j) F → dc_G X l R D nL k n (md_W h a ca S) (pc + 1) lv (.int (S.2.1 56 j) :: st)) : dc_G X l R D nL k n (md_W h a ca S) pc lv (.int i :: .ref (a 56) :: st) :=
  dc_iald hC 24 23 rfl rfl d h0 kk
theorem md_s56 (hC : dc_K X D (md_T ca) ad de cc nL "SignalEngineModel") {τ : Type} {E : Nat → Option τ} {F : τ → Prop} {i : Int32} {x : Int32} (d : decode cc pc = .ok (.iastore, 1)) (h0 : dc_wp ((dc_ix i 1200).bind E) F) (kk : ∀ j : Nat, dc_wp (E j) F → dc_G X l R D nL k n (md_W h a ca (md_a S 56 j x)) (pc + 1) lv st) : dc_G X l R D nL k n (md_W h a ca S) pc lv (.int x :: .int i :: .ref (a 56) :: st) :=
  dc_iast (ws' := fun j => md_W h a ca (md_a S 56 j x)) hC 24 23 rfl rfl (fun _ => rfl) d h0 kk
/-- weight -/
theorem md_g57 (hC : dc_K X D (md_T ca) ad de cc nL "SignalEngineModel") (d : decode cc pc = .ok (.getfield 84, 3)) (kk : dc_G X l R D nL k n (md_W h a ca S) (pc + 3) lv (.ref (a 57) :: st)) : dc_G X l R D nL k n (md_W h a ca S) pc lv (.ref h :: st) :=
  dc_get (C := R_MD) (T := F_MD) (N := 107) (ci := 1) (ref := "SignalEngineModel") hC i_MD 0 rfl rfl 57 (by decide +kernel) w_1619 rfl rfl d kk
theorem md_l57 (hC : dc_K X D (md_T ca) ad de cc nL "SignalEngineModel") {τ : Type} {E : Nat → Option τ} {F : τ → Prop} {i : Int32} (d : decode cc pc = .ok (.iaload, 1)) (h0 : dc_wp ((dc_ix i 1200).bind E) F) (kk : ∀ j : Nat, dc_wp (E j) F → dc_G X l R D nL k n (md_W h a ca S) (pc + 1) lv (.int (S.2.1 57 j) :: st)) : dc_G X l R D nL k n (md_W h a ca S) pc lv (.int i :: .ref (a 57) :: st) :=
  dc_iald hC 25 24 rfl rfl d h0 kk
theorem md_s57 (hC : dc_K X D (md_T ca) ad de cc nL "SignalEngineModel") {τ : Type} {E : Nat → Option τ} {F : τ → Prop} {i : Int32} {x : Int32} (d : decode cc pc = .ok (.iastore, 1)) (h0 : dc_wp ((dc_ix i 1200).bind E) F) (kk : ∀ j : Nat, dc_wp (E j) F → dc_G X l R D nL k n (md_W h a ca (md_a S 57 j x)) (pc + 1) lv st) : dc_G X l R D nL k n (md_W h a ca S) pc lv (.int x :: .int i :: .ref (a 57) :: st) :=
  dc_iast (ws' := fun j => md_W h a ca (md_a S 57 j x)) hC 25 24 rfl rfl (fun _ => rfl) d h0 kk
/-- parent -/
theorem md_g58 (hC : dc_K X D (md_T ca) ad de cc nL "SignalEngineModel") (d : decode cc pc = .ok (.getfield 87, 3)) (kk : dc_G X l R D nL k n (md_W h a ca S) (pc + 3) lv (.ref (a 58) :: st)) : dc_G X l R D nL k n (md_W h a ca S) pc lv (.ref h :: st) :=
  dc_get (C := R_MD) (T := F_MD) (N := 107) (ci := 1) (ref := "SignalEngineModel") hC i_MD 0 rfl rfl 58 (by decide +kernel) w_1620 rfl rfl d kk
theorem md_l58 (hC : dc_K X D (md_T ca) ad de cc nL "SignalEngineModel") {τ : Type} {E : Nat → Option τ} {F : τ → Prop} {i : Int32} (d : decode cc pc = .ok (.iaload, 1)) (h0 : dc_wp ((dc_ix i 1200).bind E) F) (kk : ∀ j : Nat, dc_wp (E j) F → dc_G X l R D nL k n (md_W h a ca S) (pc + 1) lv (.int (S.2.1 58 j) :: st)) : dc_G X l R D nL k n (md_W h a ca S) pc lv (.int i :: .ref (a 58) :: st) :=
  dc_iald hC 26 25 rfl rfl d h0 kk
theorem md_s58 (hC : dc_K X D (md_T ca) ad de cc nL "SignalEngineModel") {τ : Type} {E : Nat → Option τ} {F : τ → Prop} {i : Int32} {x : Int32} (d : decode cc pc = .ok (.iastore, 1)) (h0 : dc_wp ((dc_ix i 1200).bind E) F) (kk : ∀ j : Nat, dc_wp (E j) F → dc_G X l R D nL k n (md_W h a ca (md_a S 58 j x)) (pc + 1) lv st) : dc_G X l R D nL k n (md_W h a ca S) pc lv (.int x :: .int i :: .ref (a 58) :: st) :=
  dc_iast (ws' := fun j => md_W h a ca (md_a S 58 j x)) hC 26 25 rfl rfl (fun _ => rfl) d h0 kk
/-- last -/
theorem md_g59 (hC : dc_K X D (md_T ca) ad de cc nL "SignalEngineModel") (d : decode cc pc = .ok (.getfield 90, 3)) (kk : dc_G X l R D nL k n (md_W h a ca S) (pc + 3) lv (.ref (a 59) :: st)) : dc_G X l R D nL k n (md_W h a ca S) pc lv (.ref h :: st) :=
  dc_get (C := R_MD) (T := F_MD) (N := 107) (ci := 1) (ref := "SignalEngineModel") hC i_MD 0 rfl rfl 59 (by decide +kernel) w_1621 rfl rfl d kk
theorem md_l59 (hC : dc_K X D (md_T ca) ad de cc nL "SignalEngineModel") {τ : Type} {E : Nat → Option τ} {F : τ → Prop} {i : Int32} (d : decode cc pc = .ok (.iaload, 1)) (h0 : dc_wp ((dc_ix i 1200).bind E) F) (kk : ∀ j : Nat, dc_wp (E j) F → dc_G X l R D nL k n (md_W h a ca S) (pc + 1) lv (.int (S.2.1 59 j) :: st)) : dc_G X l R D nL k n (md_W h a ca S) pc lv (.int i :: .ref (a 59) :: st) :=
  dc_iald hC 27 26 rfl rfl d h0 kk
theorem md_s59 (hC : dc_K X D (md_T ca) ad de cc nL "SignalEngineModel") {τ : Type} {E : Nat → Option τ} {F : τ → Prop} {i : Int32} {x : Int32} (d : decode cc pc = .ok (.iastore, 1)) (h0 : dc_wp ((dc_ix i 1200).bind E) F) (kk : ∀ j : Nat, dc_wp (E j) F → dc_G X l R D nL k n (md_W h a ca (md_a S 59 j x)) (pc + 1) lv st) : dc_G X l R D nL k n (md_W h a ca S) pc lv (.int x :: .int i :: .ref (a 59) :: st) :=
  dc_iast (ws' := fun j => md_W h a ca (md_a S 59 j x)) hC 27 26 rfl rfl (fun _ => rfl) d h0 kk
/-- trapOf -/
theorem md_g60 (hC : dc_K X D (md_T ca) ad de cc nL "SignalEngineModel") (d : decode cc pc = .ok (.getfield 93, 3)) (kk : dc_G X l R D nL k n (md_W h a ca S) (pc + 3) lv (.ref (a 60) :: st)) : dc_G X l R D nL k n (md_W h a ca S) pc lv (.ref h :: st) :=
  dc_get (C := R_MD) (T := F_MD) (N := 107) (ci := 1) (ref := "SignalEngineModel") hC i_MD 0 rfl rfl 60 (by decide +kernel) w_1622 rfl rfl d kk
theorem md_l60 (hC : dc_K X D (md_T ca) ad de cc nL "SignalEngineModel") {τ : Type} {E : Nat → Option τ} {F : τ → Prop} {i : Int32} (d : decode cc pc = .ok (.iaload, 1)) (h0 : dc_wp ((dc_ix i 1200).bind E) F) (kk : ∀ j : Nat, dc_wp (E j) F → dc_G X l R D nL k n (md_W h a ca S) (pc + 1) lv (.int (S.2.1 60 j) :: st)) : dc_G X l R D nL k n (md_W h a ca S) pc lv (.int i :: .ref (a 60) :: st) :=
  dc_iald hC 28 27 rfl rfl d h0 kk
theorem md_s60 (hC : dc_K X D (md_T ca) ad de cc nL "SignalEngineModel") {τ : Type} {E : Nat → Option τ} {F : τ → Prop} {i : Int32} {x : Int32} (d : decode cc pc = .ok (.iastore, 1)) (h0 : dc_wp ((dc_ix i 1200).bind E) F) (kk : ∀ j : Nat, dc_wp (E j) F → dc_G X l R D nL k n (md_W h a ca (md_a S 60 j x)) (pc + 1) lv st) : dc_G X l R D nL k n (md_W h a ca S) pc lv (.int x :: .int i :: .ref (a 60) :: st) :=
  dc_iast (ws' := fun j => md_W h a ca (md_a S 60 j x)) hC 28 27 rfl rfl (fun _ => rfl) d h0 kk
/-- base -/
theorem md_g61 (hC : dc_K X D (md_T ca) ad de cc nL "SignalEngineModel") (d : decode cc pc = .ok (.getfield 96, 3)) (kk : dc_G X l R D nL k n (md_W h a ca S) (pc + 3) lv (.ref (a 61) :: st)) : dc_G X l R D nL k n (md_W h a ca S) pc lv (.ref h :: st) :=
  dc_get (C := R_MD) (T := F_MD) (N := 107) (ci := 1) (ref := "SignalEngineModel") hC i_MD 0 rfl rfl 61 (by decide +kernel) w_1623 rfl rfl d kk
theorem md_l61 (hC : dc_K X D (md_T ca) ad de cc nL "SignalEngineModel") {τ : Type} {E : Nat → Option τ} {F : τ → Prop} {i : Int32} (d : decode cc pc = .ok (.iaload, 1)) (h0 : dc_wp ((dc_ix i 1200).bind E) F) (kk : ∀ j : Nat, dc_wp (E j) F → dc_G X l R D nL k n (md_W h a ca S) (pc + 1) lv (.int (S.2.1 61 j) :: st)) : dc_G X l R D nL k n (md_W h a ca S) pc lv (.int i :: .ref (a 61) :: st) :=
  dc_iald hC 29 28 rfl rfl d h0 kk
theorem md_s61 (hC : dc_K X D (md_T ca) ad de cc nL "SignalEngineModel") {τ : Type} {E : Nat → Option τ} {F : τ → Prop} {i : Int32} {x : Int32} (d : decode cc pc = .ok (.iastore, 1)) (h0 : dc_wp ((dc_ix i 1200).bind E) F) (kk : ∀ j : Nat, dc_wp (E j) F → dc_G X l R D nL k n (md_W h a ca (md_a S 61 j x)) (pc + 1) lv st) : dc_G X l R D nL k n (md_W h a ca S) pc lv (.int x :: .int i :: .ref (a 61) :: st) :=
  dc_iast (ws' := fun j => md_W h a ca (md_a S 61 j x)) hC 29 28 rfl rfl (fun _ => rfl) d h0 kk
/-- pausesAhead -/
theorem md_g62 (hC : dc_K X D (md_T ca) ad de cc nL "SignalEngineModel") (d : decode cc pc = .ok (.getfield 99, 3)) (kk : dc_G X l R D nL k n (md_W h a ca S) (pc + 3) lv (.ref (a 62) :: st)) : dc_G X l R D nL k n (md_W h a ca S) pc lv (.ref h :: st) :=
  dc_get (C := R_MD) (T := F_MD) (N := 107) (ci := 1) (ref := "SignalEngineModel") hC i_MD 0 rfl rfl 62 (by decide +kernel) w_1624 rfl rfl d kk
theorem md_l62 (hC : dc_K X D (md_T ca) ad de cc nL "SignalEngineModel") {τ : Type} {E : Nat → Option τ} {F : τ → Prop} {i : Int32} (d : decode cc pc = .ok (.iaload, 1)) (h0 : dc_wp ((dc_ix i 1201).bind E) F) (kk : ∀ j : Nat, dc_wp (E j) F → dc_G X l R D nL k n (md_W h a ca S) (pc + 1) lv (.int (S.2.1 62 j) :: st)) : dc_G X l R D nL k n (md_W h a ca S) pc lv (.int i :: .ref (a 62) :: st) :=
  dc_iald hC 30 29 rfl rfl d h0 kk
theorem md_s62 (hC : dc_K X D (md_T ca) ad de cc nL "SignalEngineModel") {τ : Type} {E : Nat → Option τ} {F : τ → Prop} {i : Int32} {x : Int32} (d : decode cc pc = .ok (.iastore, 1)) (h0 : dc_wp ((dc_ix i 1201).bind E) F) (kk : ∀ j : Nat, dc_wp (E j) F → dc_G X l R D nL k n (md_W h a ca (md_a S 62 j x)) (pc + 1) lv st) : dc_G X l R D nL k n (md_W h a ca S) pc lv (.int x :: .int i :: .ref (a 62) :: st) :=
  dc_iast (ws' := fun j => md_W h a ca (md_a S 62 j x)) hC 30 29 rfl rfl (fun _ => rfl) d h0 kk
/-- pieceKind -/
theorem md_g63 (hC : dc_K X D (md_T ca) ad de cc nL "SignalEngineModel") (d : decode cc pc = .ok (.getfield 102, 3)) (kk : dc_G X l R D nL k n (md_W h a ca S) (pc + 3) lv (.ref (a 63) :: st)) : dc_G X l R D nL k n (md_W h a ca S) pc lv (.ref h :: st) :=
  dc_get (C := R_MD) (T := F_MD) (N := 107) (ci := 1) (ref := "SignalEngineModel") hC i_MD 0 rfl rfl 63 (by decide +kernel) w_1625 rfl rfl d kk
theorem md_l63 (hC : dc_K X D (md_T ca) ad de cc nL "SignalEngineModel") {τ : Type} {E : Nat → Option τ} {F : τ → Prop} {i : Int32} (d : decode cc pc = .ok (.iaload, 1)) (h0 : dc_wp ((dc_ix i 1000).bind E) F) (kk : ∀ j : Nat, dc_wp (E j) F → dc_G X l R D nL k n (md_W h a ca S) (pc + 1) lv (.int (S.2.1 63 j) :: st)) : dc_G X l R D nL k n (md_W h a ca S) pc lv (.int i :: .ref (a 63) :: st) :=
  dc_iald hC 31 30 rfl rfl d h0 kk
theorem md_s63 (hC : dc_K X D (md_T ca) ad de cc nL "SignalEngineModel") {τ : Type} {E : Nat → Option τ} {F : τ → Prop} {i : Int32} {x : Int32} (d : decode cc pc = .ok (.iastore, 1)) (h0 : dc_wp ((dc_ix i 1000).bind E) F) (kk : ∀ j : Nat, dc_wp (E j) F → dc_G X l R D nL k n (md_W h a ca (md_a S 63 j x)) (pc + 1) lv st) : dc_G X l R D nL k n (md_W h a ca S) pc lv (.int x :: .int i :: .ref (a 63) :: st) :=
  dc_iast (ws' := fun j => md_W h a ca (md_a S 63 j x)) hC 31 30 rfl rfl (fun _ => rfl) d h0 kk
/-- pieceFirst -/
theorem md_g64 (hC : dc_K X D (md_T ca) ad de cc nL "SignalEngineModel") (d : decode cc pc = .ok (.getfield 105, 3)) (kk : dc_G X l R D nL k n (md_W h a ca S) (pc + 3) lv (.ref (a 64) :: st)) : dc_G X l R D nL k n (md_W h a ca S) pc lv (.ref h :: st) :=
  dc_get (C := R_MD) (T := F_MD) (N := 107) (ci := 1) (ref := "SignalEngineModel") hC i_MD 0 rfl rfl 64 (by decide +kernel) w_1626 rfl rfl d kk
theorem md_l64 (hC : dc_K X D (md_T ca) ad de cc nL "SignalEngineModel") {τ : Type} {E : Nat → Option τ} {F : τ → Prop} {i : Int32} (d : decode cc pc = .ok (.iaload, 1)) (h0 : dc_wp ((dc_ix i 1000).bind E) F) (kk : ∀ j : Nat, dc_wp (E j) F → dc_G X l R D nL k n (md_W h a ca S) (pc + 1) lv (.int (S.2.1 64 j) :: st)) : dc_G X l R D nL k n (md_W h a ca S) pc lv (.int i :: .ref (a 64) :: st) :=
  dc_iald hC 32 31 rfl rfl d h0 kk
theorem md_s64 (hC : dc_K X D (md_T ca) ad de cc nL "SignalEngineModel") {τ : Type} {E : Nat → Option τ} {F : τ → Prop} {i : Int32} {x : Int32} (d : decode cc pc = .ok (.iastore, 1)) (h0 : dc_wp ((dc_ix i 1000).bind E) F) (kk : ∀ j : Nat, dc_wp (E j) F → dc_G X l R D nL k n (md_W h a ca (md_a S 64 j x)) (pc + 1) lv st) : dc_G X l R D nL k n (md_W h a ca S) pc lv (.int x :: .int i :: .ref (a 64) :: st) :=
  dc_iast (ws' := fun j => md_W h a ca (md_a S 64 j x)) hC 32 31 rfl rfl (fun _ => rfl) d h0 kk
/-- pieceSecond -/
theorem md_g65 (hC : dc_K X D (md_T ca) ad de cc nL "SignalEngineModel") (d : decode cc pc = .ok (.getfield 108, 3)) (kk : dc_G X l R D nL k n (md_W h a ca S) (pc + 3) lv (.ref (a 65) :: st)) : dc_G X l R D nL k n (md_W h a ca S) pc lv (.ref h :: st) :=
  dc_get (C := R_MD) (T := F_MD) (N := 107) (ci := 1) (ref := "SignalEngineModel") hC i_MD 0 rfl rfl 65 (by decide +kernel) w_1627 rfl rfl d kk
theorem md_l65 (hC : dc_K X D (md_T ca) ad de cc nL "SignalEngineModel") {τ : Type} {E : Nat → Option τ} {F : τ → Prop} {i : Int32} (d : decode cc pc = .ok (.iaload, 1)) (h0 : dc_wp ((dc_ix i 1000).bind E) F) (kk : ∀ j : Nat, dc_wp (E j) F → dc_G X l R D nL k n (md_W h a ca S) (pc + 1) lv (.int (S.2.1 65 j) :: st)) : dc_G X l R D nL k n (md_W h a ca S) pc lv (.int i :: .ref (a 65) :: st) :=
  dc_iald hC 33 32 rfl rfl d h0 kk
theorem md_s65 (hC : dc_K X D (md_T ca) ad de cc nL "SignalEngineModel") {τ : Type} {E : Nat → Option τ} {F : τ → Prop} {i : Int32} {x : Int32} (d : decode cc pc = .ok (.iastore, 1)) (h0 : dc_wp ((dc_ix i 1000).bind E) F) (kk : ∀ j : Nat, dc_wp (E j) F → dc_G X l R D nL k n (md_W h a ca (md_a S 65 j x)) (pc + 1) lv st) : dc_G X l R D nL k n (md_W h a ca S) pc lv (.int x :: .int i :: .ref (a 65) :: st) :=
  dc_iast (ws' := fun j => md_W h a ca (md_a S 65 j x)) hC 33 32 rfl rfl (fun _ => rfl) d h0 kk
/-- pieceLast -/
theorem md_g66 (hC : dc_K X D (md_T ca) ad de cc nL "SignalEngineModel") (d : decode cc pc = .ok (.getfield 111, 3)) (kk : dc_G X l R D nL k n (md_W h a ca S) (pc + 3) lv (.ref (a 66) :: st)) : dc_G X l R D nL k n (md_W h a ca S) pc lv (.ref h :: st) :=
  dc_get (C := R_MD) (T := F_MD) (N := 107) (ci := 1) (ref := "SignalEngineModel") hC i_MD 0 rfl rfl 66 (by decide +kernel) w_1628 rfl rfl d kk
theorem md_l66 (hC : dc_K X D (md_T ca) ad de cc nL "SignalEngineModel") {τ : Type} {E : Nat → Option τ} {F : τ → Prop} {i : Int32} (d : decode cc pc = .ok (.iaload, 1)) (h0 : dc_wp ((dc_ix i 1000).bind E) F) (kk : ∀ j : Nat, dc_wp (E j) F → dc_G X l R D nL k n (md_W h a ca S) (pc + 1) lv (.int (S.2.1 66 j) :: st)) : dc_G X l R D nL k n (md_W h a ca S) pc lv (.int i :: .ref (a 66) :: st) :=
  dc_iald hC 34 33 rfl rfl d h0 kk
theorem md_s66 (hC : dc_K X D (md_T ca) ad de cc nL "SignalEngineModel") {τ : Type} {E : Nat → Option τ} {F : τ → Prop} {i : Int32} {x : Int32} (d : decode cc pc = .ok (.iastore, 1)) (h0 : dc_wp ((dc_ix i 1000).bind E) F) (kk : ∀ j : Nat, dc_wp (E j) F → dc_G X l R D nL k n (md_W h a ca (md_a S 66 j x)) (pc + 1) lv st) : dc_G X l R D nL k n (md_W h a ca S) pc lv (.int x :: .int i :: .ref (a 66) :: st) :=
  dc_iast (ws' := fun j => md_W h a ca (md_a S 66 j x)) hC 34 33 rfl rfl (fun _ => rfl) d h0 kk
/-- truth -/
theorem md_g67 (hC : dc_K X D (md_T ca) ad de cc nL "SignalEngineModel") (d : decode cc pc = .ok (.getfield 114, 3)) (kk : dc_G X l R D nL k n (md_W h a ca S) (pc + 3) lv (.ref (a 67) :: st)) : dc_G X l R D nL k n (md_W h a ca S) pc lv (.ref h :: st) :=
  dc_get (C := R_MD) (T := F_MD) (N := 107) (ci := 1) (ref := "SignalEngineModel") hC i_MD 0 rfl rfl 67 (by decide +kernel) w_1629 rfl rfl d kk
theorem md_l67 (hC : dc_K X D (md_T ca) ad de cc nL "SignalEngineModel") {τ : Type} {E : Nat → Option τ} {F : τ → Prop} {i : Int32} (d : decode cc pc = .ok (.iaload, 1)) (h0 : dc_wp ((dc_ix i 1000).bind E) F) (kk : ∀ j : Nat, dc_wp (E j) F → dc_G X l R D nL k n (md_W h a ca S) (pc + 1) lv (.int (S.2.1 67 j) :: st)) : dc_G X l R D nL k n (md_W h a ca S) pc lv (.int i :: .ref (a 67) :: st) :=
  dc_iald hC 35 34 rfl rfl d h0 kk
theorem md_s67 (hC : dc_K X D (md_T ca) ad de cc nL "SignalEngineModel") {τ : Type} {E : Nat → Option τ} {F : τ → Prop} {i : Int32} {x : Int32} (d : decode cc pc = .ok (.iastore, 1)) (h0 : dc_wp ((dc_ix i 1000).bind E) F) (kk : ∀ j : Nat, dc_wp (E j) F → dc_G X l R D nL k n (md_W h a ca (md_a S 67 j x)) (pc + 1) lv st) : dc_G X l R D nL k n (md_W h a ca S) pc lv (.int x :: .int i :: .ref (a 67) :: st) :=
  dc_iast (ws' := fun j => md_W h a ca (md_a S 67 j x)) hC 35 34 rfl rfl (fun _ => rfl) d h0 kk
/-- letters -/
theorem md_g68 (hC : dc_K X D (md_T ca) ad de cc nL "SignalEngineModel") (d : decode cc pc = .ok (.getfield 117, 3)) (kk : dc_G X l R D nL k n (md_W h a ca S) (pc + 3) lv (.ref (a 68) :: st)) : dc_G X l R D nL k n (md_W h a ca S) pc lv (.ref h :: st) :=
  dc_get (C := R_MD) (T := F_MD) (N := 107) (ci := 1) (ref := "SignalEngineModel") hC i_MD 0 rfl rfl 68 (by decide +kernel) w_1630 rfl rfl d kk
theorem md_l68 (hC : dc_K X D (md_T ca) ad de cc nL "SignalEngineModel") {τ : Type} {E : Nat → Option τ} {F : τ → Prop} {i : Int32} (d : decode cc pc = .ok (.baload, 1)) (h0 : dc_wp ((dc_ix i 12400).bind E) F) (kk : ∀ j : Nat, dc_wp (E j) F → dc_G X l R D nL k n (md_W h a ca S) (pc + 1) lv (.int (S.2.1 68 j) :: st)) : dc_G X l R D nL k n (md_W h a ca S) pc lv (.int i :: .ref (a 68) :: st) :=
  dc_bald hC 36 35 rfl rfl d h0 kk
theorem md_s68 (hC : dc_K X D (md_T ca) ad de cc nL "SignalEngineModel") {τ : Type} {E : Nat → Option τ} {F : τ → Prop} {i : Int32} {x : Int32} (d : decode cc pc = .ok (.bastore, 1)) (h0 : dc_wp ((dc_ix i 12400).bind E) F) (kk : ∀ j : Nat, dc_wp (E j) F → dc_G X l R D nL k n (md_W h a ca (md_a S 68 j (vp_nar .byte x))) (pc + 1) lv st) : dc_G X l R D nL k n (md_W h a ca S) pc lv (.int x :: .int i :: .ref (a 68) :: st) :=
  dc_bast (ws' := fun j => md_W h a ca (md_a S 68 j (vp_nar .byte x))) hC 36 35 rfl rfl (fun _ => rfl) d h0 kk
/-- lengths -/
theorem md_g69 (hC : dc_K X D (md_T ca) ad de cc nL "SignalEngineModel") (d : decode cc pc = .ok (.getfield 120, 3)) (kk : dc_G X l R D nL k n (md_W h a ca S) (pc + 3) lv (.ref (a 69) :: st)) : dc_G X l R D nL k n (md_W h a ca S) pc lv (.ref h :: st) :=
  dc_get (C := R_MD) (T := F_MD) (N := 107) (ci := 1) (ref := "SignalEngineModel") hC i_MD 0 rfl rfl 69 (by decide +kernel) w_1631 rfl rfl d kk
theorem md_l69 (hC : dc_K X D (md_T ca) ad de cc nL "SignalEngineModel") {τ : Type} {E : Nat → Option τ} {F : τ → Prop} {i : Int32} (d : decode cc pc = .ok (.iaload, 1)) (h0 : dc_wp ((dc_ix i 400).bind E) F) (kk : ∀ j : Nat, dc_wp (E j) F → dc_G X l R D nL k n (md_W h a ca S) (pc + 1) lv (.int (S.2.1 69 j) :: st)) : dc_G X l R D nL k n (md_W h a ca S) pc lv (.int i :: .ref (a 69) :: st) :=
  dc_iald hC 37 36 rfl rfl d h0 kk
theorem md_s69 (hC : dc_K X D (md_T ca) ad de cc nL "SignalEngineModel") {τ : Type} {E : Nat → Option τ} {F : τ → Prop} {i : Int32} {x : Int32} (d : decode cc pc = .ok (.iastore, 1)) (h0 : dc_wp ((dc_ix i 400).bind E) F) (kk : ∀ j : Nat, dc_wp (E j) F → dc_G X l R D nL k n (md_W h a ca (md_a S 69 j x)) (pc + 1) lv st) : dc_G X l R D nL k n (md_W h a ca S) pc lv (.int x :: .int i :: .ref (a 69) :: st) :=
  dc_iast (ws' := fun j => md_W h a ca (md_a S 69 j x)) hC 37 36 rfl rfl (fun _ => rfl) d h0 kk
/-- status -/
theorem md_g70 (hC : dc_K X D (md_T ca) ad de cc nL "SignalEngineModel") (d : decode cc pc = .ok (.getfield 123, 3)) (kk : dc_G X l R D nL k n (md_W h a ca S) (pc + 3) lv (.ref (a 70) :: st)) : dc_G X l R D nL k n (md_W h a ca S) pc lv (.ref h :: st) :=
  dc_get (C := R_MD) (T := F_MD) (N := 107) (ci := 1) (ref := "SignalEngineModel") hC i_MD 0 rfl rfl 70 (by decide +kernel) w_1632 rfl rfl d kk
theorem md_l70 (hC : dc_K X D (md_T ca) ad de cc nL "SignalEngineModel") {τ : Type} {E : Nat → Option τ} {F : τ → Prop} {i : Int32} (d : decode cc pc = .ok (.iaload, 1)) (h0 : dc_wp ((dc_ix i 1662).bind E) F) (kk : ∀ j : Nat, dc_wp (E j) F → dc_G X l R D nL k n (md_W h a ca S) (pc + 1) lv (.int (S.2.1 70 j) :: st)) : dc_G X l R D nL k n (md_W h a ca S) pc lv (.int i :: .ref (a 70) :: st) :=
  dc_iald hC 38 37 rfl rfl d h0 kk
theorem md_s70 (hC : dc_K X D (md_T ca) ad de cc nL "SignalEngineModel") {τ : Type} {E : Nat → Option τ} {F : τ → Prop} {i : Int32} {x : Int32} (d : decode cc pc = .ok (.iastore, 1)) (h0 : dc_wp ((dc_ix i 1662).bind E) F) (kk : ∀ j : Nat, dc_wp (E j) F → dc_G X l R D nL k n (md_W h a ca (md_a S 70 j x)) (pc + 1) lv st) : dc_G X l R D nL k n (md_W h a ca S) pc lv (.int x :: .int i :: .ref (a 70) :: st) :=
  dc_iast (ws' := fun j => md_W h a ca (md_a S 70 j x)) hC 38 37 rfl rfl (fun _ => rfl) d h0 kk
/-- must -/
theorem md_g71 (hC : dc_K X D (md_T ca) ad de cc nL "SignalEngineModel") (d : decode cc pc = .ok (.getfield 126, 3)) (kk : dc_G X l R D nL k n (md_W h a ca S) (pc + 3) lv (.ref (a 71) :: st)) : dc_G X l R D nL k n (md_W h a ca S) pc lv (.ref h :: st) :=
  dc_get (C := R_MD) (T := F_MD) (N := 107) (ci := 1) (ref := "SignalEngineModel") hC i_MD 0 rfl rfl 71 (by decide +kernel) w_1633 rfl rfl d kk
theorem md_l71 (hC : dc_K X D (md_T ca) ad de cc nL "SignalEngineModel") {τ : Type} {E : Nat → Option τ} {F : τ → Prop} {i : Int32} (d : decode cc pc = .ok (.baload, 1)) (h0 : dc_wp ((dc_ix i 1662).bind E) F) (kk : ∀ j : Nat, dc_wp (E j) F → dc_G X l R D nL k n (md_W h a ca S) (pc + 1) lv (.int (S.2.1 71 j) :: st)) : dc_G X l R D nL k n (md_W h a ca S) pc lv (.int i :: .ref (a 71) :: st) :=
  dc_zald hC 39 38 rfl rfl d h0 kk
theorem md_s71 (hC : dc_K X D (md_T ca) ad de cc nL "SignalEngineModel") {τ : Type} {E : Nat → Option τ} {F : τ → Prop} {i : Int32} {x : Int32} (hz : x = 0 ∨ x = 1) (d : decode cc pc = .ok (.bastore, 1)) (h0 : dc_wp ((dc_ix i 1662).bind E) F) (kk : ∀ j : Nat, dc_wp (E j) F → dc_G X l R D nL k n (md_W h a ca (md_a S 71 j x)) (pc + 1) lv st) : dc_G X l R D nL k n (md_W h a ca S) pc lv (.int x :: .int i :: .ref (a 71) :: st) :=
  dc_zast (ws' := fun j => md_W h a ca (md_a S 71 j x)) hC 39 38 rfl rfl hz (fun _ => rfl) d h0 kk
/-- can -/
theorem md_g72 (hC : dc_K X D (md_T ca) ad de cc nL "SignalEngineModel") (d : decode cc pc = .ok (.getfield 130, 3)) (kk : dc_G X l R D nL k n (md_W h a ca S) (pc + 3) lv (.ref (a 72) :: st)) : dc_G X l R D nL k n (md_W h a ca S) pc lv (.ref h :: st) :=
  dc_get (C := R_MD) (T := F_MD) (N := 107) (ci := 1) (ref := "SignalEngineModel") hC i_MD 0 rfl rfl 72 (by decide +kernel) w_1634 rfl rfl d kk
theorem md_l72 (hC : dc_K X D (md_T ca) ad de cc nL "SignalEngineModel") {τ : Type} {E : Nat → Option τ} {F : τ → Prop} {i : Int32} (d : decode cc pc = .ok (.baload, 1)) (h0 : dc_wp ((dc_ix i 1662).bind E) F) (kk : ∀ j : Nat, dc_wp (E j) F → dc_G X l R D nL k n (md_W h a ca S) (pc + 1) lv (.int (S.2.1 72 j) :: st)) : dc_G X l R D nL k n (md_W h a ca S) pc lv (.int i :: .ref (a 72) :: st) :=
  dc_zald hC 40 39 rfl rfl d h0 kk
theorem md_s72 (hC : dc_K X D (md_T ca) ad de cc nL "SignalEngineModel") {τ : Type} {E : Nat → Option τ} {F : τ → Prop} {i : Int32} {x : Int32} (hz : x = 0 ∨ x = 1) (d : decode cc pc = .ok (.bastore, 1)) (h0 : dc_wp ((dc_ix i 1662).bind E) F) (kk : ∀ j : Nat, dc_wp (E j) F → dc_G X l R D nL k n (md_W h a ca (md_a S 72 j x)) (pc + 1) lv st) : dc_G X l R D nL k n (md_W h a ca S) pc lv (.int x :: .int i :: .ref (a 72) :: st) :=
  dc_zast (ws' := fun j => md_W h a ca (md_a S 72 j x)) hC 40 39 rfl rfl hz (fun _ => rfl) d h0 kk
/-- meant -/
theorem md_g73 (hC : dc_K X D (md_T ca) ad de cc nL "SignalEngineModel") (d : decode cc pc = .ok (.getfield 133, 3)) (kk : dc_G X l R D nL k n (md_W h a ca S) (pc + 3) lv (.ref (a 73) :: st)) : dc_G X l R D nL k n (md_W h a ca S) pc lv (.ref h :: st) :=
  dc_get (C := R_MD) (T := F_MD) (N := 107) (ci := 1) (ref := "SignalEngineModel") hC i_MD 0 rfl rfl 73 (by decide +kernel) w_1635 rfl rfl d kk
theorem md_l73 (hC : dc_K X D (md_T ca) ad de cc nL "SignalEngineModel") {τ : Type} {E : Nat → Option τ} {F : τ → Prop} {i : Int32} (d : decode cc pc = .ok (.iaload, 1)) (h0 : dc_wp ((dc_ix i 400).bind E) F) (kk : ∀ j : Nat, dc_wp (E j) F → dc_G X l R D nL k n (md_W h a ca S) (pc + 1) lv (.int (S.2.1 73 j) :: st)) : dc_G X l R D nL k n (md_W h a ca S) pc lv (.int i :: .ref (a 73) :: st) :=
  dc_iald hC 41 40 rfl rfl d h0 kk
theorem md_s73 (hC : dc_K X D (md_T ca) ad de cc nL "SignalEngineModel") {τ : Type} {E : Nat → Option τ} {F : τ → Prop} {i : Int32} {x : Int32} (d : decode cc pc = .ok (.iastore, 1)) (h0 : dc_wp ((dc_ix i 400).bind E) F) (kk : ∀ j : Nat, dc_wp (E j) F → dc_G X l R D nL k n (md_W h a ca (md_a S 73 j x)) (pc + 1) lv st) : dc_G X l R D nL k n (md_W h a ca S) pc lv (.int x :: .int i :: .ref (a 73) :: st) :=
  dc_iast (ws' := fun j => md_W h a ca (md_a S 73 j x)) hC 41 40 rfl rfl (fun _ => rfl) d h0 kk
/-- selected -/
theorem md_g74 (hC : dc_K X D (md_T ca) ad de cc nL "SignalEngineModel") (d : decode cc pc = .ok (.getfield 136, 3)) (kk : dc_G X l R D nL k n (md_W h a ca S) (pc + 3) lv (.ref (a 74) :: st)) : dc_G X l R D nL k n (md_W h a ca S) pc lv (.ref h :: st) :=
  dc_get (C := R_MD) (T := F_MD) (N := 107) (ci := 1) (ref := "SignalEngineModel") hC i_MD 0 rfl rfl 74 (by decide +kernel) w_1636 rfl rfl d kk
theorem md_l74 (hC : dc_K X D (md_T ca) ad de cc nL "SignalEngineModel") {τ : Type} {E : Nat → Option τ} {F : τ → Prop} {i : Int32} (d : decode cc pc = .ok (.baload, 1)) (h0 : dc_wp ((dc_ix i 200).bind E) F) (kk : ∀ j : Nat, dc_wp (E j) F → dc_G X l R D nL k n (md_W h a ca S) (pc + 1) lv (.int (S.2.1 74 j) :: st)) : dc_G X l R D nL k n (md_W h a ca S) pc lv (.int i :: .ref (a 74) :: st) :=
  dc_zald hC 42 41 rfl rfl d h0 kk
theorem md_s74 (hC : dc_K X D (md_T ca) ad de cc nL "SignalEngineModel") {τ : Type} {E : Nat → Option τ} {F : τ → Prop} {i : Int32} {x : Int32} (hz : x = 0 ∨ x = 1) (d : decode cc pc = .ok (.bastore, 1)) (h0 : dc_wp ((dc_ix i 200).bind E) F) (kk : ∀ j : Nat, dc_wp (E j) F → dc_G X l R D nL k n (md_W h a ca (md_a S 74 j x)) (pc + 1) lv st) : dc_G X l R D nL k n (md_W h a ca S) pc lv (.int x :: .int i :: .ref (a 74) :: st) :=
  dc_zast (ws' := fun j => md_W h a ca (md_a S 74 j x)) hC 42 41 rfl rfl hz (fun _ => rfl) d h0 kk
/-- next -/
theorem md_g75 (hC : dc_K X D (md_T ca) ad de cc nL "SignalEngineModel") (d : decode cc pc = .ok (.getfield 139, 3)) (kk : dc_G X l R D nL k n (md_W h a ca S) (pc + 3) lv (.ref (a 75) :: st)) : dc_G X l R D nL k n (md_W h a ca S) pc lv (.ref h :: st) :=
  dc_get (C := R_MD) (T := F_MD) (N := 107) (ci := 1) (ref := "SignalEngineModel") hC i_MD 0 rfl rfl 75 (by decide +kernel) w_1637 rfl rfl d kk
theorem md_l75 (hC : dc_K X D (md_T ca) ad de cc nL "SignalEngineModel") {τ : Type} {E : Nat → Option τ} {F : τ → Prop} {i : Int32} (d : decode cc pc = .ok (.baload, 1)) (h0 : dc_wp ((dc_ix i 200).bind E) F) (kk : ∀ j : Nat, dc_wp (E j) F → dc_G X l R D nL k n (md_W h a ca S) (pc + 1) lv (.int (S.2.1 75 j) :: st)) : dc_G X l R D nL k n (md_W h a ca S) pc lv (.int i :: .ref (a 75) :: st) :=
  dc_zald hC 43 42 rfl rfl d h0 kk
theorem md_s75 (hC : dc_K X D (md_T ca) ad de cc nL "SignalEngineModel") {τ : Type} {E : Nat → Option τ} {F : τ → Prop} {i : Int32} {x : Int32} (hz : x = 0 ∨ x = 1) (d : decode cc pc = .ok (.bastore, 1)) (h0 : dc_wp ((dc_ix i 200).bind E) F) (kk : ∀ j : Nat, dc_wp (E j) F → dc_G X l R D nL k n (md_W h a ca (md_a S 75 j x)) (pc + 1) lv st) : dc_G X l R D nL k n (md_W h a ca S) pc lv (.int x :: .int i :: .ref (a 75) :: st) :=
  dc_zast (ws' := fun j => md_W h a ca (md_a S 75 j x)) hC 43 42 rfl rfl hz (fun _ => rfl) d h0 kk
/-- chosen -/
theorem md_g76 (hC : dc_K X D (md_T ca) ad de cc nL "SignalEngineModel") (d : decode cc pc = .ok (.getfield 142, 3)) (kk : dc_G X l R D nL k n (md_W h a ca S) (pc + 3) lv (.ref (a 76) :: st)) : dc_G X l R D nL k n (md_W h a ca S) pc lv (.ref h :: st) :=
  dc_get (C := R_MD) (T := F_MD) (N := 107) (ci := 1) (ref := "SignalEngineModel") hC i_MD 0 rfl rfl 76 (by decide +kernel) w_1638 rfl rfl d kk
theorem md_l76 (hC : dc_K X D (md_T ca) ad de cc nL "SignalEngineModel") {τ : Type} {E : Nat → Option τ} {F : τ → Prop} {i : Int32} (d : decode cc pc = .ok (.iaload, 1)) (h0 : dc_wp ((dc_ix i 201).bind E) F) (kk : ∀ j : Nat, dc_wp (E j) F → dc_G X l R D nL k n (md_W h a ca S) (pc + 1) lv (.int (S.2.1 76 j) :: st)) : dc_G X l R D nL k n (md_W h a ca S) pc lv (.int i :: .ref (a 76) :: st) :=
  dc_iald hC 44 43 rfl rfl d h0 kk
theorem md_s76 (hC : dc_K X D (md_T ca) ad de cc nL "SignalEngineModel") {τ : Type} {E : Nat → Option τ} {F : τ → Prop} {i : Int32} {x : Int32} (d : decode cc pc = .ok (.iastore, 1)) (h0 : dc_wp ((dc_ix i 201).bind E) F) (kk : ∀ j : Nat, dc_wp (E j) F → dc_G X l R D nL k n (md_W h a ca (md_a S 76 j x)) (pc + 1) lv st) : dc_G X l R D nL k n (md_W h a ca S) pc lv (.int x :: .int i :: .ref (a 76) :: st) :=
  dc_iast (ws' := fun j => md_W h a ca (md_a S 76 j x)) hC 44 43 rfl rfl (fun _ => rfl) d h0 kk
/-- begins -/
theorem md_g77 (hC : dc_K X D (md_T ca) ad de cc nL "SignalEngineModel") (d : decode cc pc = .ok (.getfield 513, 3)) (kk : dc_G X l R D nL k n (md_W h a ca S) (pc + 3) lv (.int (S.1 77) :: st)) : dc_G X l R D nL k n (md_W h a ca S) pc lv (.ref h :: st) :=
  dc_get (C := R_MD) (T := F_MD) (N := 107) (ci := 1) (ref := "SignalEngineModel") hC i_MD 0 rfl rfl 77 (by decide +kernel) w_1639 rfl rfl d kk
theorem md_p77 (hC : dc_K X D (md_T ca) ad de cc nL "SignalEngineModel") {x : Int32} (hz : x = 0 ∨ x = 1) (d : decode cc pc = .ok (.putfield 513, 3)) (kk : dc_G X l R D nL k n (md_W h a ca (md_i S 77 x)) (pc + 3) lv st) : dc_G X l R D nL k n (md_W h a ca S) pc lv (.int x :: .ref h :: st) :=
  dc_put (C := R_MD) (T := F_MD) (N := 107) (ci := 1) (ref := "SignalEngineModel") (ty := .boolean) hC i_MD t_MD t_MD_ok n_MD 0 rfl rfl 77 (by decide +kernel) w_1639 rfl rfl (by decide +kernel) (dc_nar hz).2.1 (dc_nar hz).2.2 (Nat.le_of_ble_eq_true rfl) rfl d kk
/-- doubt -/
theorem md_g78 (hC : dc_K X D (md_T ca) ad de cc nL "SignalEngineModel") (d : decode cc pc = .ok (.getfield 573, 3)) (kk : dc_G X l R D nL k n (md_W h a ca S) (pc + 3) lv (.int (S.1 78) :: st)) : dc_G X l R D nL k n (md_W h a ca S) pc lv (.ref h :: st) :=
  dc_get (C := R_MD) (T := F_MD) (N := 107) (ci := 1) (ref := "SignalEngineModel") hC i_MD 0 rfl rfl 78 (by decide +kernel) w_1640 rfl rfl d kk
theorem md_p78 (hC : dc_K X D (md_T ca) ad de cc nL "SignalEngineModel") {x : Int32} (hz : x = 0 ∨ x = 1) (d : decode cc pc = .ok (.putfield 573, 3)) (kk : dc_G X l R D nL k n (md_W h a ca (md_i S 78 x)) (pc + 3) lv st) : dc_G X l R D nL k n (md_W h a ca S) pc lv (.int x :: .ref h :: st) :=
  dc_put (C := R_MD) (T := F_MD) (N := 107) (ci := 1) (ref := "SignalEngineModel") (ty := .boolean) hC i_MD t_MD t_MD_ok n_MD 0 rfl rfl 78 (by decide +kernel) w_1640 rfl rfl (by decide +kernel) (dc_nar hz).2.1 (dc_nar hz).2.2 (Nat.le_of_ble_eq_true rfl) rfl d kk
/-- way -/
theorem md_g79 (hC : dc_K X D (md_T ca) ad de cc nL "SignalEngineModel") (d : decode cc pc = .ok (.getfield 570, 3)) (kk : dc_G X l R D nL k n (md_W h a ca S) (pc + 3) lv (.int (S.1 79) :: st)) : dc_G X l R D nL k n (md_W h a ca S) pc lv (.ref h :: st) :=
  dc_get (C := R_MD) (T := F_MD) (N := 107) (ci := 1) (ref := "SignalEngineModel") hC i_MD 0 rfl rfl 79 (by decide +kernel) w_1641 rfl rfl d kk
theorem md_p79 (hC : dc_K X D (md_T ca) ad de cc nL "SignalEngineModel") {x : Int32} (d : decode cc pc = .ok (.putfield 570, 3)) (kk : dc_G X l R D nL k n (md_W h a ca (md_i S 79 x)) (pc + 3) lv st) : dc_G X l R D nL k n (md_W h a ca S) pc lv (.int x :: .ref h :: st) :=
  dc_put (C := R_MD) (T := F_MD) (N := 107) (ci := 1) (ref := "SignalEngineModel") (ty := .int) hC i_MD t_MD t_MD_ok n_MD 0 rfl rfl 79 (by decide +kernel) w_1641 rfl rfl (by decide +kernel) rfl rfl (Nat.le_of_ble_eq_true rfl) rfl d kk
/-- mustCode -/
theorem md_g80 (hC : dc_K X D (md_T ca) ad de cc nL "SignalEngineModel") (d : decode cc pc = .ok (.getfield 567, 3)) (kk : dc_G X l R D nL k n (md_W h a ca S) (pc + 3) lv (.int (S.1 80) :: st)) : dc_G X l R D nL k n (md_W h a ca S) pc lv (.ref h :: st) :=
  dc_get (C := R_MD) (T := F_MD) (N := 107) (ci := 1) (ref := "SignalEngineModel") hC i_MD 0 rfl rfl 80 (by decide +kernel) w_1642 rfl rfl d kk
theorem md_p80 (hC : dc_K X D (md_T ca) ad de cc nL "SignalEngineModel") {x : Int32} (d : decode cc pc = .ok (.putfield 567, 3)) (kk : dc_G X l R D nL k n (md_W h a ca (md_i S 80 x)) (pc + 3) lv st) : dc_G X l R D nL k n (md_W h a ca S) pc lv (.int x :: .ref h :: st) :=
  dc_put (C := R_MD) (T := F_MD) (N := 107) (ci := 1) (ref := "SignalEngineModel") (ty := .int) hC i_MD t_MD t_MD_ok n_MD 0 rfl rfl 80 (by decide +kernel) w_1642 rfl rfl (by decide +kernel) rfl rfl (Nat.le_of_ble_eq_true rfl) rfl d kk
/-- canCodes -/
theorem md_g81 (hC : dc_K X D (md_T ca) ad de cc nL "SignalEngineModel") (d : decode cc pc = .ok (.getfield 564, 3)) (kk : dc_G X l R D nL k n (md_W h a ca S) (pc + 3) lv (.int (S.1 81) :: st)) : dc_G X l R D nL k n (md_W h a ca S) pc lv (.ref h :: st) :=
  dc_get (C := R_MD) (T := F_MD) (N := 107) (ci := 1) (ref := "SignalEngineModel") hC i_MD 0 rfl rfl 81 (by decide +kernel) w_1643 rfl rfl d kk
theorem md_p81 (hC : dc_K X D (md_T ca) ad de cc nL "SignalEngineModel") {x : Int32} (d : decode cc pc = .ok (.putfield 564, 3)) (kk : dc_G X l R D nL k n (md_W h a ca (md_i S 81 x)) (pc + 3) lv st) : dc_G X l R D nL k n (md_W h a ca S) pc lv (.int x :: .ref h :: st) :=
  dc_put (C := R_MD) (T := F_MD) (N := 107) (ci := 1) (ref := "SignalEngineModel") (ty := .int) hC i_MD t_MD t_MD_ok n_MD 0 rfl rfl 81 (by decide +kernel) w_1643 rfl rfl (by decide +kernel) rfl rfl (Nat.le_of_ble_eq_true rfl) rfl d kk
/-- going -/
theorem md_g82 (hC : dc_K X D (md_T ca) ad de cc nL "SignalEngineModel") (d : decode cc pc = .ok (.getfield 545, 3)) (kk : dc_G X l R D nL k n (md_W h a ca S) (pc + 3) lv (.int (S.1 82) :: st)) : dc_G X l R D nL k n (md_W h a ca S) pc lv (.ref h :: st) :=
  dc_get (C := R_MD) (T := F_MD) (N := 107) (ci := 1) (ref := "SignalEngineModel") hC i_MD 0 rfl rfl 82 (by decide +kernel) w_1644 rfl rfl d kk
theorem md_p82 (hC : dc_K X D (md_T ca) ad de cc nL "SignalEngineModel") {x : Int32} (d : decode cc pc = .ok (.putfield 545, 3)) (kk : dc_G X l R D nL k n (md_W h a ca (md_i S 82 x)) (pc + 3) lv st) : dc_G X l R D nL k n (md_W h a ca S) pc lv (.int x :: .ref h :: st) :=
  dc_put (C := R_MD) (T := F_MD) (N := 107) (ci := 1) (ref := "SignalEngineModel") (ty := .int) hC i_MD t_MD t_MD_ok n_MD 0 rfl rfl 82 (by decide +kernel) w_1644 rfl rfl (by decide +kernel) rfl rfl (Nat.le_of_ble_eq_true rfl) rfl d kk
/-- reactions -/
theorem md_g83 (hC : dc_K X D (md_T ca) ad de cc nL "SignalEngineModel") (d : decode cc pc = .ok (.getfield 542, 3)) (kk : dc_G X l R D nL k n (md_W h a ca S) (pc + 3) lv (.int (S.1 83) :: st)) : dc_G X l R D nL k n (md_W h a ca S) pc lv (.ref h :: st) :=
  dc_get (C := R_MD) (T := F_MD) (N := 107) (ci := 1) (ref := "SignalEngineModel") hC i_MD 0 rfl rfl 83 (by decide +kernel) w_1645 rfl rfl d kk
theorem md_p83 (hC : dc_K X D (md_T ca) ad de cc nL "SignalEngineModel") {x : Int32} (d : decode cc pc = .ok (.putfield 542, 3)) (kk : dc_G X l R D nL k n (md_W h a ca (md_i S 83 x)) (pc + 3) lv st) : dc_G X l R D nL k n (md_W h a ca S) pc lv (.int x :: .ref h :: st) :=
  dc_put (C := R_MD) (T := F_MD) (N := 107) (ci := 1) (ref := "SignalEngineModel") (ty := .int) hC i_MD t_MD t_MD_ok n_MD 0 rfl rfl 83 (by decide +kernel) w_1645 rfl rfl (by decide +kernel) rfl rfl (Nat.le_of_ble_eq_true rfl) rfl d kk
/-- shown -/
theorem md_g84 (hC : dc_K X D (md_T ca) ad de cc nL "SignalEngineModel") (d : decode cc pc = .ok (.getfield 145, 3)) (kk : dc_G X l R D nL k n (md_W h a ca S) (pc + 3) lv (.ref (a 84) :: st)) : dc_G X l R D nL k n (md_W h a ca S) pc lv (.ref h :: st) :=
  dc_get (C := R_MD) (T := F_MD) (N := 107) (ci := 1) (ref := "SignalEngineModel") hC i_MD 0 rfl rfl 84 (by decide +kernel) w_1646 rfl rfl d kk
theorem md_l84 (hC : dc_K X D (md_T ca) ad de cc nL "SignalEngineModel") {τ : Type} {E : Nat → Option τ} {F : τ → Prop} {i : Int32} (d : decode cc pc = .ok (.iaload, 1)) (h0 : dc_wp ((dc_ix i 62).bind E) F) (kk : ∀ j : Nat, dc_wp (E j) F → dc_G X l R D nL k n (md_W h a ca S) (pc + 1) lv (.int (S.2.1 84 j) :: st)) : dc_G X l R D nL k n (md_W h a ca S) pc lv (.int i :: .ref (a 84) :: st) :=
  dc_iald hC 45 44 rfl rfl d h0 kk
theorem md_s84 (hC : dc_K X D (md_T ca) ad de cc nL "SignalEngineModel") {τ : Type} {E : Nat → Option τ} {F : τ → Prop} {i : Int32} {x : Int32} (d : decode cc pc = .ok (.iastore, 1)) (h0 : dc_wp ((dc_ix i 62).bind E) F) (kk : ∀ j : Nat, dc_wp (E j) F → dc_G X l R D nL k n (md_W h a ca (md_a S 84 j x)) (pc + 1) lv st) : dc_G X l R D nL k n (md_W h a ca S) pc lv (.int x :: .int i :: .ref (a 84) :: st) :=
  dc_iast (ws' := fun j => md_W h a ca (md_a S 84 j x)) hC 45 44 rfl rfl (fun _ => rfl) d h0 kk
/-- explored -/
theorem md_g85 (hC : dc_K X D (md_T ca) ad de cc nL "SignalEngineModel") (d : decode cc pc = .ok (.getfield 518, 3)) (kk : dc_G X l R D nL k n (md_W h a ca S) (pc + 3) lv (.int (S.1 85) :: st)) : dc_G X l R D nL k n (md_W h a ca S) pc lv (.ref h :: st) :=
  dc_get (C := R_MD) (T := F_MD) (N := 107) (ci := 1) (ref := "SignalEngineModel") hC i_MD 0 rfl rfl 85 (by decide +kernel) w_1647 rfl rfl d kk
theorem md_p85 (hC : dc_K X D (md_T ca) ad de cc nL "SignalEngineModel") {x : Int32} (hz : x = 0 ∨ x = 1) (d : decode cc pc = .ok (.putfield 518, 3)) (kk : dc_G X l R D nL k n (md_W h a ca (md_i S 85 x)) (pc + 3) lv st) : dc_G X l R D nL k n (md_W h a ca S) pc lv (.int x :: .ref h :: st) :=
  dc_put (C := R_MD) (T := F_MD) (N := 107) (ci := 1) (ref := "SignalEngineModel") (ty := .boolean) hC i_MD t_MD t_MD_ok n_MD 0 rfl rfl 85 (by decide +kernel) w_1647 rfl rfl (by decide +kernel) (dc_nar hz).2.1 (dc_nar hz).2.2 (Nat.le_of_ble_eq_true rfl) rfl d kk
/-- laid -/
theorem md_g86 (hC : dc_K X D (md_T ca) ad de cc nL "SignalEngineModel") (d : decode cc pc = .ok (.getfield 515, 3)) (kk : dc_G X l R D nL k n (md_W h a ca S) (pc + 3) lv (.int (S.1 86) :: st)) : dc_G X l R D nL k n (md_W h a ca S) pc lv (.ref h :: st) :=
  dc_get (C := R_MD) (T := F_MD) (N := 107) (ci := 1) (ref := "SignalEngineModel") hC i_MD 0 rfl rfl 86 (by decide +kernel) w_1648 rfl rfl d kk
theorem md_p86 (hC : dc_K X D (md_T ca) ad de cc nL "SignalEngineModel") {x : Int32} (hz : x = 0 ∨ x = 1) (d : decode cc pc = .ok (.putfield 515, 3)) (kk : dc_G X l R D nL k n (md_W h a ca (md_i S 86 x)) (pc + 3) lv st) : dc_G X l R D nL k n (md_W h a ca S) pc lv (.int x :: .ref h :: st) :=
  dc_put (C := R_MD) (T := F_MD) (N := 107) (ci := 1) (ref := "SignalEngineModel") (ty := .boolean) hC i_MD t_MD t_MD_ok n_MD 0 rfl rfl 86 (by decide +kernel) w_1648 rfl rfl (by decide +kernel) (dc_nar hz).2.1 (dc_nar hz).2.2 (Nat.le_of_ble_eq_true rfl) rfl d kk
/-- states -/
theorem md_g87 (hC : dc_K X D (md_T ca) ad de cc nL "SignalEngineModel") (d : decode cc pc = .ok (.getfield 527, 3)) (kk : dc_G X l R D nL k n (md_W h a ca S) (pc + 3) lv (.int (S.1 87) :: st)) : dc_G X l R D nL k n (md_W h a ca S) pc lv (.ref h :: st) :=
  dc_get (C := R_MD) (T := F_MD) (N := 107) (ci := 1) (ref := "SignalEngineModel") hC i_MD 0 rfl rfl 87 (by decide +kernel) w_1649 rfl rfl d kk
theorem md_p87 (hC : dc_K X D (md_T ca) ad de cc nL "SignalEngineModel") {x : Int32} (d : decode cc pc = .ok (.putfield 527, 3)) (kk : dc_G X l R D nL k n (md_W h a ca (md_i S 87 x)) (pc + 3) lv st) : dc_G X l R D nL k n (md_W h a ca S) pc lv (.int x :: .ref h :: st) :=
  dc_put (C := R_MD) (T := F_MD) (N := 107) (ci := 1) (ref := "SignalEngineModel") (ty := .int) hC i_MD t_MD t_MD_ok n_MD 0 rfl rfl 87 (by decide +kernel) w_1649 rfl rfl (by decide +kernel) rfl rfl (Nat.le_of_ble_eq_true rfl) rfl d kk
/-- state -/
theorem md_g88 (hC : dc_K X D (md_T ca) ad de cc nL "SignalEngineModel") (d : decode cc pc = .ok (.getfield 148, 3)) (kk : dc_G X l R D nL k n (md_W h a ca S) (pc + 3) lv (.ref (a 88) :: st)) : dc_G X l R D nL k n (md_W h a ca S) pc lv (.ref h :: st) :=
  dc_get (C := R_MD) (T := F_MD) (N := 107) (ci := 1) (ref := "SignalEngineModel") hC i_MD 0 rfl rfl 88 (by decide +kernel) w_1650 rfl rfl d kk
theorem md_l88 (hC : dc_K X D (md_T ca) ad de cc nL "SignalEngineModel") {τ : Type} {E : Nat → Option τ} {F : τ → Prop} {i : Int32} (d : decode cc pc = .ok (.iaload, 1)) (h0 : dc_wp ((dc_ix i 257).bind E) F) (kk : ∀ j : Nat, dc_wp (E j) F → dc_G X l R D nL k n (md_W h a ca S) (pc + 1) lv (.int (S.2.1 88 j) :: st)) : dc_G X l R D nL k n (md_W h a ca S) pc lv (.int i :: .ref (a 88) :: st) :=
  dc_iald hC 46 45 rfl rfl d h0 kk
theorem md_s88 (hC : dc_K X D (md_T ca) ad de cc nL "SignalEngineModel") {τ : Type} {E : Nat → Option τ} {F : τ → Prop} {i : Int32} {x : Int32} (d : decode cc pc = .ok (.iastore, 1)) (h0 : dc_wp ((dc_ix i 257).bind E) F) (kk : ∀ j : Nat, dc_wp (E j) F → dc_G X l R D nL k n (md_W h a ca (md_a S 88 j x)) (pc + 1) lv st) : dc_G X l R D nL k n (md_W h a ca S) pc lv (.int x :: .int i :: .ref (a 88) :: st) :=
  dc_iast (ws' := fun j => md_W h a ca (md_a S 88 j x)) hC 46 45 rfl rfl (fun _ => rfl) d h0 kk
/-- distance -/
theorem md_g89 (hC : dc_K X D (md_T ca) ad de cc nL "SignalEngineModel") (d : decode cc pc = .ok (.getfield 151, 3)) (kk : dc_G X l R D nL k n (md_W h a ca S) (pc + 3) lv (.ref (a 89) :: st)) : dc_G X l R D nL k n (md_W h a ca S) pc lv (.ref h :: st) :=
  dc_get (C := R_MD) (T := F_MD) (N := 107) (ci := 1) (ref := "SignalEngineModel") hC i_MD 0 rfl rfl 89 (by decide +kernel) w_1651 rfl rfl d kk
theorem md_l89 (hC : dc_K X D (md_T ca) ad de cc nL "SignalEngineModel") {τ : Type} {E : Nat → Option τ} {F : τ → Prop} {i : Int32} (d : decode cc pc = .ok (.iaload, 1)) (h0 : dc_wp ((dc_ix i 257).bind E) F) (kk : ∀ j : Nat, dc_wp (E j) F → dc_G X l R D nL k n (md_W h a ca S) (pc + 1) lv (.int (S.2.1 89 j) :: st)) : dc_G X l R D nL k n (md_W h a ca S) pc lv (.int i :: .ref (a 89) :: st) :=
  dc_iald hC 47 46 rfl rfl d h0 kk
theorem md_s89 (hC : dc_K X D (md_T ca) ad de cc nL "SignalEngineModel") {τ : Type} {E : Nat → Option τ} {F : τ → Prop} {i : Int32} {x : Int32} (d : decode cc pc = .ok (.iastore, 1)) (h0 : dc_wp ((dc_ix i 257).bind E) F) (kk : ∀ j : Nat, dc_wp (E j) F → dc_G X l R D nL k n (md_W h a ca (md_a S 89 j x)) (pc + 1) lv st) : dc_G X l R D nL k n (md_W h a ca S) pc lv (.int x :: .int i :: .ref (a 89) :: st) :=
  dc_iast (ws' := fun j => md_W h a ca (md_a S 89 j x)) hC 47 46 rfl rfl (fun _ => rfl) d h0 kk
/-- came -/
theorem md_g90 (hC : dc_K X D (md_T ca) ad de cc nL "SignalEngineModel") (d : decode cc pc = .ok (.getfield 154, 3)) (kk : dc_G X l R D nL k n (md_W h a ca S) (pc + 3) lv (.ref (a 90) :: st)) : dc_G X l R D nL k n (md_W h a ca S) pc lv (.ref h :: st) :=
  dc_get (C := R_MD) (T := F_MD) (N := 107) (ci := 1) (ref := "SignalEngineModel") hC i_MD 0 rfl rfl 90 (by decide +kernel) w_1652 rfl rfl d kk
theorem md_l90 (hC : dc_K X D (md_T ca) ad de cc nL "SignalEngineModel") {τ : Type} {E : Nat → Option τ} {F : τ → Prop} {i : Int32} (d : decode cc pc = .ok (.iaload, 1)) (h0 : dc_wp ((dc_ix i 257).bind E) F) (kk : ∀ j : Nat, dc_wp (E j) F → dc_G X l R D nL k n (md_W h a ca S) (pc + 1) lv (.int (S.2.1 90 j) :: st)) : dc_G X l R D nL k n (md_W h a ca S) pc lv (.int i :: .ref (a 90) :: st) :=
  dc_iald hC 48 47 rfl rfl d h0 kk
theorem md_s90 (hC : dc_K X D (md_T ca) ad de cc nL "SignalEngineModel") {τ : Type} {E : Nat → Option τ} {F : τ → Prop} {i : Int32} {x : Int32} (d : decode cc pc = .ok (.iastore, 1)) (h0 : dc_wp ((dc_ix i 257).bind E) F) (kk : ∀ j : Nat, dc_wp (E j) F → dc_G X l R D nL k n (md_W h a ca (md_a S 90 j x)) (pc + 1) lv st) : dc_G X l R D nL k n (md_W h a ca S) pc lv (.int x :: .int i :: .ref (a 90) :: st) :=
  dc_iast (ws' := fun j => md_W h a ca (md_a S 90 j x)) hC 48 47 rfl rfl (fun _ => rfl) d h0 kk
/-- cameBy -/
theorem md_g91 (hC : dc_K X D (md_T ca) ad de cc nL "SignalEngineModel") (d : decode cc pc = .ok (.getfield 157, 3)) (kk : dc_G X l R D nL k n (md_W h a ca S) (pc + 3) lv (.ref (a 91) :: st)) : dc_G X l R D nL k n (md_W h a ca S) pc lv (.ref h :: st) :=
  dc_get (C := R_MD) (T := F_MD) (N := 107) (ci := 1) (ref := "SignalEngineModel") hC i_MD 0 rfl rfl 91 (by decide +kernel) w_1653 rfl rfl d kk
theorem md_l91 (hC : dc_K X D (md_T ca) ad de cc nL "SignalEngineModel") {τ : Type} {E : Nat → Option τ} {F : τ → Prop} {i : Int32} (d : decode cc pc = .ok (.iaload, 1)) (h0 : dc_wp ((dc_ix i 257).bind E) F) (kk : ∀ j : Nat, dc_wp (E j) F → dc_G X l R D nL k n (md_W h a ca S) (pc + 1) lv (.int (S.2.1 91 j) :: st)) : dc_G X l R D nL k n (md_W h a ca S) pc lv (.int i :: .ref (a 91) :: st) :=
  dc_iald hC 49 48 rfl rfl d h0 kk
theorem md_s91 (hC : dc_K X D (md_T ca) ad de cc nL "SignalEngineModel") {τ : Type} {E : Nat → Option τ} {F : τ → Prop} {i : Int32} {x : Int32} (d : decode cc pc = .ok (.iastore, 1)) (h0 : dc_wp ((dc_ix i 257).bind E) F) (kk : ∀ j : Nat, dc_wp (E j) F → dc_G X l R D nL k n (md_W h a ca (md_a S 91 j x)) (pc + 1) lv st) : dc_G X l R D nL k n (md_W h a ca S) pc lv (.int x :: .int i :: .ref (a 91) :: st) :=
  dc_iast (ws' := fun j => md_W h a ca (md_a S 91 j x)) hC 49 48 rfl rfl (fun _ => rfl) d h0 kk
/-- to -/
theorem md_g92 (hC : dc_K X D (md_T ca) ad de cc nL "SignalEngineModel") (d : decode cc pc = .ok (.getfield 160, 3)) (kk : dc_G X l R D nL k n (md_W h a ca S) (pc + 3) lv (.ref (a 92) :: st)) : dc_G X l R D nL k n (md_W h a ca S) pc lv (.ref h :: st) :=
  dc_get (C := R_MD) (T := F_MD) (N := 107) (ci := 1) (ref := "SignalEngineModel") hC i_MD 0 rfl rfl 92 (by decide +kernel) w_1654 rfl rfl d kk
theorem md_l92 (hC : dc_K X D (md_T ca) ad de cc nL "SignalEngineModel") {τ : Type} {E : Nat → Option τ} {F : τ → Prop} {i : Int32} (d : decode cc pc = .ok (.iaload, 1)) (h0 : dc_wp ((dc_ix i 4112).bind E) F) (kk : ∀ j : Nat, dc_wp (E j) F → dc_G X l R D nL k n (md_W h a ca S) (pc + 1) lv (.int (S.2.1 92 j) :: st)) : dc_G X l R D nL k n (md_W h a ca S) pc lv (.int i :: .ref (a 92) :: st) :=
  dc_iald hC 50 49 rfl rfl d h0 kk
theorem md_s92 (hC : dc_K X D (md_T ca) ad de cc nL "SignalEngineModel") {τ : Type} {E : Nat → Option τ} {F : τ → Prop} {i : Int32} {x : Int32} (d : decode cc pc = .ok (.iastore, 1)) (h0 : dc_wp ((dc_ix i 4112).bind E) F) (kk : ∀ j : Nat, dc_wp (E j) F → dc_G X l R D nL k n (md_W h a ca (md_a S 92 j x)) (pc + 1) lv st) : dc_G X l R D nL k n (md_W h a ca S) pc lv (.int x :: .int i :: .ref (a 92) :: st) :=
  dc_iast (ws' := fun j => md_W h a ca (md_a S 92 j x)) hC 50 49 rfl rfl (fun _ => rfl) d h0 kk
/-- shows -/
theorem md_g93 (hC : dc_K X D (md_T ca) ad de cc nL "SignalEngineModel") (d : decode cc pc = .ok (.getfield 163, 3)) (kk : dc_G X l R D nL k n (md_W h a ca S) (pc + 3) lv (.ref (a 93) :: st)) : dc_G X l R D nL k n (md_W h a ca S) pc lv (.ref h :: st) :=
  dc_get (C := R_MD) (T := F_MD) (N := 107) (ci := 1) (ref := "SignalEngineModel") hC i_MD 0 rfl rfl 93 (by decide +kernel) w_1655 rfl rfl d kk
theorem md_l93 (hC : dc_K X D (md_T ca) ad de cc nL "SignalEngineModel") {τ : Type} {E : Nat → Option τ} {F : τ → Prop} {i : Int32} (d : decode cc pc = .ok (.iaload, 1)) (h0 : dc_wp ((dc_ix i 4112).bind E) F) (kk : ∀ j : Nat, dc_wp (E j) F → dc_G X l R D nL k n (md_W h a ca S) (pc + 1) lv (.int (S.2.1 93 j) :: st)) : dc_G X l R D nL k n (md_W h a ca S) pc lv (.int i :: .ref (a 93) :: st) :=
  dc_iald hC 51 50 rfl rfl d h0 kk
theorem md_s93 (hC : dc_K X D (md_T ca) ad de cc nL "SignalEngineModel") {τ : Type} {E : Nat → Option τ} {F : τ → Prop} {i : Int32} {x : Int32} (d : decode cc pc = .ok (.iastore, 1)) (h0 : dc_wp ((dc_ix i 4112).bind E) F) (kk : ∀ j : Nat, dc_wp (E j) F → dc_G X l R D nL k n (md_W h a ca (md_a S 93 j x)) (pc + 1) lv st) : dc_G X l R D nL k n (md_W h a ca S) pc lv (.int x :: .int i :: .ref (a 93) :: st) :=
  dc_iast (ws' := fun j => md_W h a ca (md_a S 93 j x)) hC 51 50 rfl rfl (fun _ => rfl) d h0 kk
/-- apart -/
theorem md_g94 (hC : dc_K X D (md_T ca) ad de cc nL "SignalEngineModel") (d : decode cc pc = .ok (.getfield 167, 3)) (kk : dc_G X l R D nL k n (md_W h a ca S) (pc + 3) lv (.ref (a 94) :: st)) : dc_G X l R D nL k n (md_W h a ca S) pc lv (.ref h :: st) :=
  dc_get (C := R_MD) (T := F_MD) (N := 107) (ci := 1) (ref := "SignalEngineModel") hC i_MD 0 rfl rfl 94 (by decide +kernel) w_1656 rfl rfl d kk
theorem md_l94 (hC : dc_K X D (md_T ca) ad de cc nL "SignalEngineModel") {τ : Type} {E : Nat → Option τ} {F : τ → Prop} {i : Int32} (d : decode cc pc = .ok (.baload, 1)) (h0 : dc_wp ((dc_ix i 66049).bind E) F) (kk : ∀ j : Nat, dc_wp (E j) F → dc_G X l R D nL k n (md_W h a ca S) (pc + 1) lv (.int (S.2.1 94 j) :: st)) : dc_G X l R D nL k n (md_W h a ca S) pc lv (.int i :: .ref (a 94) :: st) :=
  dc_zald hC 52 51 rfl rfl d h0 kk
theorem md_s94 (hC : dc_K X D (md_T ca) ad de cc nL "SignalEngineModel") {τ : Type} {E : Nat → Option τ} {F : τ → Prop} {i : Int32} {x : Int32} (hz : x = 0 ∨ x = 1) (d : decode cc pc = .ok (.bastore, 1)) (h0 : dc_wp ((dc_ix i 66049).bind E) F) (kk : ∀ j : Nat, dc_wp (E j) F → dc_G X l R D nL k n (md_W h a ca (md_a S 94 j x)) (pc + 1) lv st) : dc_G X l R D nL k n (md_W h a ca S) pc lv (.int x :: .int i :: .ref (a 94) :: st) :=
  dc_zast (ws' := fun j => md_W h a ca (md_a S 94 j x)) hC 52 51 rfl rfl hz (fun _ => rfl) d h0 kk
/-- pairsOpen -/
theorem md_g95 (hC : dc_K X D (md_T ca) ad de cc nL "SignalEngineModel") (d : decode cc pc = .ok (.getfield 171, 3)) (kk : dc_G X l R D nL k n (md_W h a ca S) (pc + 3) lv (.ref (a 95) :: st)) : dc_G X l R D nL k n (md_W h a ca S) pc lv (.ref h :: st) :=
  dc_get (C := R_MD) (T := F_MD) (N := 107) (ci := 1) (ref := "SignalEngineModel") hC i_MD 0 rfl rfl 95 (by decide +kernel) w_1657 rfl rfl d kk
theorem md_l95 (hC : dc_K X D (md_T ca) ad de cc nL "SignalEngineModel") {τ : Type} {E : Nat → Option τ} {F : τ → Prop} {i : Int32} (d : decode cc pc = .ok (.iaload, 1)) (h0 : dc_wp ((dc_ix i 33000).bind E) F) (kk : ∀ j : Nat, dc_wp (E j) F → dc_G X l R D nL k n (md_W h a ca S) (pc + 1) lv (.int (S.2.1 95 j) :: st)) : dc_G X l R D nL k n (md_W h a ca S) pc lv (.int i :: .ref (a 95) :: st) :=
  dc_iald hC 53 52 rfl rfl d h0 kk
theorem md_s95 (hC : dc_K X D (md_T ca) ad de cc nL "SignalEngineModel") {τ : Type} {E : Nat → Option τ} {F : τ → Prop} {i : Int32} {x : Int32} (d : decode cc pc = .ok (.iastore, 1)) (h0 : dc_wp ((dc_ix i 33000).bind E) F) (kk : ∀ j : Nat, dc_wp (E j) F → dc_G X l R D nL k n (md_W h a ca (md_a S 95 j x)) (pc + 1) lv st) : dc_G X l R D nL k n (md_W h a ca S) pc lv (.int x :: .int i :: .ref (a 95) :: st) :=
  dc_iast (ws' := fun j => md_W h a ca (md_a S 95 j x)) hC 53 52 rfl rfl (fun _ => rfl) d h0 kk
/-- heads -/
theorem md_g96 (hC : dc_K X D (md_T ca) ad de cc nL "SignalEngineModel") (d : decode cc pc = .ok (.getfield 174, 3)) (kk : dc_G X l R D nL k n (md_W h a ca S) (pc + 3) lv (.ref (a 96) :: st)) : dc_G X l R D nL k n (md_W h a ca S) pc lv (.ref h :: st) :=
  dc_get (C := R_MD) (T := F_MD) (N := 107) (ci := 1) (ref := "SignalEngineModel") hC i_MD 0 rfl rfl 96 (by decide +kernel) w_1658 rfl rfl d kk
theorem md_l96 (hC : dc_K X D (md_T ca) ad de cc nL "SignalEngineModel") {τ : Type} {E : Nat → Option τ} {F : τ → Prop} {i : Int32} (d : decode cc pc = .ok (.iaload, 1)) (h0 : dc_wp ((dc_ix i 4112).bind E) F) (kk : ∀ j : Nat, dc_wp (E j) F → dc_G X l R D nL k n (md_W h a ca S) (pc + 1) lv (.int (S.2.1 96 j) :: st)) : dc_G X l R D nL k n (md_W h a ca S) pc lv (.int i :: .ref (a 96) :: st) :=
  dc_iald hC 54 53 rfl rfl d h0 kk
theorem md_s96 (hC : dc_K X D (md_T ca) ad de cc nL "SignalEngineModel") {τ : Type} {E : Nat → Option τ} {F : τ → Prop} {i : Int32} {x : Int32} (d : decode cc pc = .ok (.iastore, 1)) (h0 : dc_wp ((dc_ix i 4112).bind E) F) (kk : ∀ j : Nat, dc_wp (E j) F → dc_G X l R D nL k n (md_W h a ca (md_a S 96 j x)) (pc + 1) lv st) : dc_G X l R D nL k n (md_W h a ca S) pc lv (.int x :: .int i :: .ref (a 96) :: st) :=
  dc_iast (ws' := fun j => md_W h a ca (md_a S 96 j x)) hC 54 53 rfl rfl (fun _ => rfl) d h0 kk
/-- links -/
theorem md_g97 (hC : dc_K X D (md_T ca) ad de cc nL "SignalEngineModel") (d : decode cc pc = .ok (.getfield 177, 3)) (kk : dc_G X l R D nL k n (md_W h a ca S) (pc + 3) lv (.ref (a 97) :: st)) : dc_G X l R D nL k n (md_W h a ca S) pc lv (.ref h :: st) :=
  dc_get (C := R_MD) (T := F_MD) (N := 107) (ci := 1) (ref := "SignalEngineModel") hC i_MD 0 rfl rfl 97 (by decide +kernel) w_1659 rfl rfl d kk
theorem md_l97 (hC : dc_K X D (md_T ca) ad de cc nL "SignalEngineModel") {τ : Type} {E : Nat → Option τ} {F : τ → Prop} {i : Int32} (d : decode cc pc = .ok (.iaload, 1)) (h0 : dc_wp ((dc_ix i 4112).bind E) F) (kk : ∀ j : Nat, dc_wp (E j) F → dc_G X l R D nL k n (md_W h a ca S) (pc + 1) lv (.int (S.2.1 97 j) :: st)) : dc_G X l R D nL k n (md_W h a ca S) pc lv (.int i :: .ref (a 97) :: st) :=
  dc_iald hC 55 54 rfl rfl d h0 kk
theorem md_s97 (hC : dc_K X D (md_T ca) ad de cc nL "SignalEngineModel") {τ : Type} {E : Nat → Option τ} {F : τ → Prop} {i : Int32} {x : Int32} (d : decode cc pc = .ok (.iastore, 1)) (h0 : dc_wp ((dc_ix i 4112).bind E) F) (kk : ∀ j : Nat, dc_wp (E j) F → dc_G X l R D nL k n (md_W h a ca (md_a S 97 j x)) (pc + 1) lv st) : dc_G X l R D nL k n (md_W h a ca S) pc lv (.int x :: .int i :: .ref (a 97) :: st) :=
  dc_iast (ws' := fun j => md_W h a ca (md_a S 97 j x)) hC 55 54 rfl rfl (fun _ => rfl) d h0 kk
/-- table -/
theorem md_g98 (hC : dc_K X D (md_T ca) ad de cc nL "SignalEngineModel") (d : decode cc pc = .ok (.getfield 180, 3)) (kk : dc_G X l R D nL k n (md_W h a ca S) (pc + 3) lv (.ref (a 98) :: st)) : dc_G X l R D nL k n (md_W h a ca S) pc lv (.ref h :: st) :=
  dc_get (C := R_MD) (T := F_MD) (N := 107) (ci := 1) (ref := "SignalEngineModel") hC i_MD 0 rfl rfl 98 (by decide +kernel) w_1660 rfl rfl d kk
theorem md_l98 (hC : dc_K X D (md_T ca) ad de cc nL "SignalEngineModel") {τ : Type} {E : Nat → Option τ} {F : τ → Prop} {i : Int32} (d : decode cc pc = .ok (.laload, 1)) (h0 : dc_wp ((dc_ix i 8192).bind E) F) (kk : ∀ j : Nat, dc_wp (E j) F → dc_G X l R D nL k n (md_W h a ca S) (pc + 1) lv (.long (S.2.2.2 j) :: st)) : dc_G X l R D nL k n (md_W h a ca S) pc lv (.int i :: .ref (a 98) :: st) :=
  dc_lald hC 56 55 rfl rfl d h0 kk
theorem md_s98 (hC : dc_K X D (md_T ca) ad de cc nL "SignalEngineModel") {τ : Type} {E : Nat → Option τ} {F : τ → Prop} {i : Int32} {x : Int64} (d : decode cc pc = .ok (.lastore, 1)) (h0 : dc_wp ((dc_ix i 8192).bind E) F) (kk : ∀ j : Nat, dc_wp (E j) F → dc_G X l R D nL k n (md_W h a ca (md_t S j x)) (pc + 1) lv st) : dc_G X l R D nL k n (md_W h a ca S) pc lv (.long x :: .int i :: .ref (a 98) :: st) :=
  dc_last (ws' := fun j => md_W h a ca (md_t S j x)) hC 56 55 rfl rfl (fun _ => rfl) d h0 kk
/-- block -/
theorem md_g99 (hC : dc_K X D (md_T ca) ad de cc nL "SignalEngineModel") (d : decode cc pc = .ok (.getfield 184, 3)) (kk : dc_G X l R D nL k n (md_W h a ca S) (pc + 3) lv (.ref (a 99) :: st)) : dc_G X l R D nL k n (md_W h a ca S) pc lv (.ref h :: st) :=
  dc_get (C := R_MD) (T := F_MD) (N := 107) (ci := 1) (ref := "SignalEngineModel") hC i_MD 0 rfl rfl 99 (by decide +kernel) w_1661 rfl rfl d kk
theorem md_l99 (hC : dc_K X D (md_T ca) ad de cc nL "SignalEngineModel") {τ : Type} {E : Nat → Option τ} {F : τ → Prop} {i : Int32} (d : decode cc pc = .ok (.iaload, 1)) (h0 : dc_wp ((dc_ix i 8192).bind E) F) (kk : ∀ j : Nat, dc_wp (E j) F → dc_G X l R D nL k n (md_W h a ca S) (pc + 1) lv (.int (S.2.1 99 j) :: st)) : dc_G X l R D nL k n (md_W h a ca S) pc lv (.int i :: .ref (a 99) :: st) :=
  dc_iald hC 57 56 rfl rfl d h0 kk
theorem md_s99 (hC : dc_K X D (md_T ca) ad de cc nL "SignalEngineModel") {τ : Type} {E : Nat → Option τ} {F : τ → Prop} {i : Int32} {x : Int32} (d : decode cc pc = .ok (.iastore, 1)) (h0 : dc_wp ((dc_ix i 8192).bind E) F) (kk : ∀ j : Nat, dc_wp (E j) F → dc_G X l R D nL k n (md_W h a ca (md_a S 99 j x)) (pc + 1) lv st) : dc_G X l R D nL k n (md_W h a ca S) pc lv (.int x :: .int i :: .ref (a 99) :: st) :=
  dc_iast (ws' := fun j => md_W h a ca (md_a S 99 j x)) hC 57 56 rfl rfl (fun _ => rfl) d h0 kk
/-- roots -/
theorem md_g100 (hC : dc_K X D (md_T ca) ad de cc nL "SignalEngineModel") (d : decode cc pc = .ok (.getfield 187, 3)) (kk : dc_G X l R D nL k n (md_W h a ca S) (pc + 3) lv (.ref (a 100) :: st)) : dc_G X l R D nL k n (md_W h a ca S) pc lv (.ref h :: st) :=
  dc_get (C := R_MD) (T := F_MD) (N := 107) (ci := 1) (ref := "SignalEngineModel") hC i_MD 0 rfl rfl 100 (by decide +kernel) w_1662 rfl rfl d kk
theorem md_l100 (hC : dc_K X D (md_T ca) ad de cc nL "SignalEngineModel") {τ : Type} {E : Nat → Option τ} {F : τ → Prop} {i : Int32} (d : decode cc pc = .ok (.iaload, 1)) (h0 : dc_wp ((dc_ix i 40).bind E) F) (kk : ∀ j : Nat, dc_wp (E j) F → dc_G X l R D nL k n (md_W h a ca S) (pc + 1) lv (.int (S.2.1 100 j) :: st)) : dc_G X l R D nL k n (md_W h a ca S) pc lv (.int i :: .ref (a 100) :: st) :=
  dc_iald hC 58 57 rfl rfl d h0 kk
theorem md_s100 (hC : dc_K X D (md_T ca) ad de cc nL "SignalEngineModel") {τ : Type} {E : Nat → Option τ} {F : τ → Prop} {i : Int32} {x : Int32} (d : decode cc pc = .ok (.iastore, 1)) (h0 : dc_wp ((dc_ix i 40).bind E) F) (kk : ∀ j : Nat, dc_wp (E j) F → dc_G X l R D nL k n (md_W h a ca (md_a S 100 j x)) (pc + 1) lv st) : dc_G X l R D nL k n (md_W h a ca S) pc lv (.int x :: .int i :: .ref (a 100) :: st) :=
  dc_iast (ws' := fun j => md_W h a ca (md_a S 100 j x)) hC 58 57 rfl rfl (fun _ => rfl) d h0 kk
/-- level -/
theorem md_g101 (hC : dc_K X D (md_T ca) ad de cc nL "SignalEngineModel") (d : decode cc pc = .ok (.getfield 190, 3)) (kk : dc_G X l R D nL k n (md_W h a ca S) (pc + 3) lv (.ref (a 101) :: st)) : dc_G X l R D nL k n (md_W h a ca S) pc lv (.ref h :: st) :=
  dc_get (C := R_MD) (T := F_MD) (N := 107) (ci := 1) (ref := "SignalEngineModel") hC i_MD 0 rfl rfl 101 (by decide +kernel) w_1663 rfl rfl d kk
theorem md_l101 (hC : dc_K X D (md_T ca) ad de cc nL "SignalEngineModel") {τ : Type} {E : Nat → Option τ} {F : τ → Prop} {i : Int32} (d : decode cc pc = .ok (.iaload, 1)) (h0 : dc_wp ((dc_ix i 24000).bind E) F) (kk : ∀ j : Nat, dc_wp (E j) F → dc_G X l R D nL k n (md_W h a ca S) (pc + 1) lv (.int (S.2.1 101 j) :: st)) : dc_G X l R D nL k n (md_W h a ca S) pc lv (.int i :: .ref (a 101) :: st) :=
  dc_iald hC 59 58 rfl rfl d h0 kk
theorem md_s101 (hC : dc_K X D (md_T ca) ad de cc nL "SignalEngineModel") {τ : Type} {E : Nat → Option τ} {F : τ → Prop} {i : Int32} {x : Int32} (d : decode cc pc = .ok (.iastore, 1)) (h0 : dc_wp ((dc_ix i 24000).bind E) F) (kk : ∀ j : Nat, dc_wp (E j) F → dc_G X l R D nL k n (md_W h a ca (md_a S 101 j x)) (pc + 1) lv st) : dc_G X l R D nL k n (md_W h a ca S) pc lv (.int x :: .int i :: .ref (a 101) :: st) :=
  dc_iast (ws' := fun j => md_W h a ca (md_a S 101 j x)) hC 59 58 rfl rfl (fun _ => rfl) d h0 kk
/-- low -/
theorem md_g102 (hC : dc_K X D (md_T ca) ad de cc nL "SignalEngineModel") (d : decode cc pc = .ok (.getfield 193, 3)) (kk : dc_G X l R D nL k n (md_W h a ca S) (pc + 3) lv (.ref (a 102) :: st)) : dc_G X l R D nL k n (md_W h a ca S) pc lv (.ref h :: st) :=
  dc_get (C := R_MD) (T := F_MD) (N := 107) (ci := 1) (ref := "SignalEngineModel") hC i_MD 0 rfl rfl 102 (by decide +kernel) w_1664 rfl rfl d kk
theorem md_l102 (hC : dc_K X D (md_T ca) ad de cc nL "SignalEngineModel") {τ : Type} {E : Nat → Option τ} {F : τ → Prop} {i : Int32} (d : decode cc pc = .ok (.iaload, 1)) (h0 : dc_wp ((dc_ix i 24000).bind E) F) (kk : ∀ j : Nat, dc_wp (E j) F → dc_G X l R D nL k n (md_W h a ca S) (pc + 1) lv (.int (S.2.1 102 j) :: st)) : dc_G X l R D nL k n (md_W h a ca S) pc lv (.int i :: .ref (a 102) :: st) :=
  dc_iald hC 60 59 rfl rfl d h0 kk
theorem md_s102 (hC : dc_K X D (md_T ca) ad de cc nL "SignalEngineModel") {τ : Type} {E : Nat → Option τ} {F : τ → Prop} {i : Int32} {x : Int32} (d : decode cc pc = .ok (.iastore, 1)) (h0 : dc_wp ((dc_ix i 24000).bind E) F) (kk : ∀ j : Nat, dc_wp (E j) F → dc_G X l R D nL k n (md_W h a ca (md_a S 102 j x)) (pc + 1) lv st) : dc_G X l R D nL k n (md_W h a ca S) pc lv (.int x :: .int i :: .ref (a 102) :: st) :=
  dc_iast (ws' := fun j => md_W h a ca (md_a S 102 j x)) hC 60 59 rfl rfl (fun _ => rfl) d h0 kk
/-- high -/
theorem md_g103 (hC : dc_K X D (md_T ca) ad de cc nL "SignalEngineModel") (d : decode cc pc = .ok (.getfield 196, 3)) (kk : dc_G X l R D nL k n (md_W h a ca S) (pc + 3) lv (.ref (a 103) :: st)) : dc_G X l R D nL k n (md_W h a ca S) pc lv (.ref h :: st) :=
  dc_get (C := R_MD) (T := F_MD) (N := 107) (ci := 1) (ref := "SignalEngineModel") hC i_MD 0 rfl rfl 103 (by decide +kernel) w_1665 rfl rfl d kk
theorem md_l103 (hC : dc_K X D (md_T ca) ad de cc nL "SignalEngineModel") {τ : Type} {E : Nat → Option τ} {F : τ → Prop} {i : Int32} (d : decode cc pc = .ok (.iaload, 1)) (h0 : dc_wp ((dc_ix i 24000).bind E) F) (kk : ∀ j : Nat, dc_wp (E j) F → dc_G X l R D nL k n (md_W h a ca S) (pc + 1) lv (.int (S.2.1 103 j) :: st)) : dc_G X l R D nL k n (md_W h a ca S) pc lv (.int i :: .ref (a 103) :: st) :=
  dc_iald hC 61 60 rfl rfl d h0 kk
theorem md_s103 (hC : dc_K X D (md_T ca) ad de cc nL "SignalEngineModel") {τ : Type} {E : Nat → Option τ} {F : τ → Prop} {i : Int32} {x : Int32} (d : decode cc pc = .ok (.iastore, 1)) (h0 : dc_wp ((dc_ix i 24000).bind E) F) (kk : ∀ j : Nat, dc_wp (E j) F → dc_G X l R D nL k n (md_W h a ca (md_a S 103 j x)) (pc + 1) lv st) : dc_G X l R D nL k n (md_W h a ca S) pc lv (.int x :: .int i :: .ref (a 103) :: st) :=
  dc_iast (ws' := fun j => md_W h a ca (md_a S 103 j x)) hC 61 60 rfl rfl (fun _ => rfl) d h0 kk
/-- found -/
theorem md_g104 (hC : dc_K X D (md_T ca) ad de cc nL "SignalEngineModel") (d : decode cc pc = .ok (.getfield 200, 3)) (kk : dc_G X l R D nL k n (md_W h a ca S) (pc + 3) lv (.ref (a 104) :: st)) : dc_G X l R D nL k n (md_W h a ca S) pc lv (.ref h :: st) :=
  dc_get (C := R_MD) (T := F_MD) (N := 107) (ci := 1) (ref := "SignalEngineModel") hC i_MD 0 rfl rfl 104 (by decide +kernel) w_1666 rfl rfl d kk
theorem md_l104 (hC : dc_K X D (md_T ca) ad de cc nL "SignalEngineModel") {τ : Type} {E : Nat → Option τ} {F : τ → Prop} {i : Int32} (d : decode cc pc = .ok (.iaload, 1)) (h0 : dc_wp ((dc_ix i 65536).bind E) F) (kk : ∀ j : Nat, dc_wp (E j) F → dc_G X l R D nL k n (md_W h a ca S) (pc + 1) lv (.int (S.2.1 104 j) :: st)) : dc_G X l R D nL k n (md_W h a ca S) pc lv (.int i :: .ref (a 104) :: st) :=
  dc_iald hC 62 61 rfl rfl d h0 kk
theorem md_s104 (hC : dc_K X D (md_T ca) ad de cc nL "SignalEngineModel") {τ : Type} {E : Nat → Option τ} {F : τ → Prop} {i : Int32} {x : Int32} (d : decode cc pc = .ok (.iastore, 1)) (h0 : dc_wp ((dc_ix i 65536).bind E) F) (kk : ∀ j : Nat, dc_wp (E j) F → dc_G X l R D nL k n (md_W h a ca (md_a S 104 j x)) (pc + 1) lv st) : dc_G X l R D nL k n (md_W h a ca S) pc lv (.int x :: .int i :: .ref (a 104) :: st) :=
  dc_iast (ws' := fun j => md_W h a ca (md_a S 104 j x)) hC 62 61 rfl rfl (fun _ => rfl) d h0 kk
/-- marked -/
theorem md_g105 (hC : dc_K X D (md_T ca) ad de cc nL "SignalEngineModel") (d : decode cc pc = .ok (.getfield 203, 3)) (kk : dc_G X l R D nL k n (md_W h a ca S) (pc + 3) lv (.ref (a 105) :: st)) : dc_G X l R D nL k n (md_W h a ca S) pc lv (.ref h :: st) :=
  dc_get (C := R_MD) (T := F_MD) (N := 107) (ci := 1) (ref := "SignalEngineModel") hC i_MD 0 rfl rfl 105 (by decide +kernel) w_1667 rfl rfl d kk
theorem md_l105 (hC : dc_K X D (md_T ca) ad de cc nL "SignalEngineModel") {τ : Type} {E : Nat → Option τ} {F : τ → Prop} {i : Int32} (d : decode cc pc = .ok (.baload, 1)) (h0 : dc_wp ((dc_ix i 24000).bind E) F) (kk : ∀ j : Nat, dc_wp (E j) F → dc_G X l R D nL k n (md_W h a ca S) (pc + 1) lv (.int (S.2.1 105 j) :: st)) : dc_G X l R D nL k n (md_W h a ca S) pc lv (.int i :: .ref (a 105) :: st) :=
  dc_zald hC 63 62 rfl rfl d h0 kk
theorem md_s105 (hC : dc_K X D (md_T ca) ad de cc nL "SignalEngineModel") {τ : Type} {E : Nat → Option τ} {F : τ → Prop} {i : Int32} {x : Int32} (hz : x = 0 ∨ x = 1) (d : decode cc pc = .ok (.bastore, 1)) (h0 : dc_wp ((dc_ix i 24000).bind E) F) (kk : ∀ j : Nat, dc_wp (E j) F → dc_G X l R D nL k n (md_W h a ca (md_a S 105 j x)) (pc + 1) lv st) : dc_G X l R D nL k n (md_W h a ca S) pc lv (.int x :: .int i :: .ref (a 105) :: st) :=
  dc_zast (ws' := fun j => md_W h a ca (md_a S 105 j x)) hC 63 62 rfl rfl hz (fun _ => rfl) d h0 kk
/-- multiplexers -/
theorem md_g106 (hC : dc_K X D (md_T ca) ad de cc nL "SignalEngineModel") (d : decode cc pc = .ok (.getfield 524, 3)) (kk : dc_G X l R D nL k n (md_W h a ca S) (pc + 3) lv (.int (S.1 106) :: st)) : dc_G X l R D nL k n (md_W h a ca S) pc lv (.ref h :: st) :=
  dc_get (C := R_MD) (T := F_MD) (N := 107) (ci := 1) (ref := "SignalEngineModel") hC i_MD 0 rfl rfl 106 (by decide +kernel) w_1668 rfl rfl d kk
theorem md_p106 (hC : dc_K X D (md_T ca) ad de cc nL "SignalEngineModel") {x : Int32} (d : decode cc pc = .ok (.putfield 524, 3)) (kk : dc_G X l R D nL k n (md_W h a ca (md_i S 106 x)) (pc + 3) lv st) : dc_G X l R D nL k n (md_W h a ca S) pc lv (.int x :: .ref h :: st) :=
  dc_put (C := R_MD) (T := F_MD) (N := 107) (ci := 1) (ref := "SignalEngineModel") (ty := .int) hC i_MD t_MD t_MD_ok n_MD 0 rfl rfl 106 (by decide +kernel) w_1668 rfl rfl (by decide +kernel) rfl rfl (Nat.le_of_ble_eq_true rfl) rfl d kk
end MDR
