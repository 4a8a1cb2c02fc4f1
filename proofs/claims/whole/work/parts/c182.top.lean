/-! the stack's top by another name -/
theorem hg_top {X : dc_X} {l : Launch} {R : Room} {D : va_G} {nL pc : Nat} {S : hg_S} {lv : List (Nat × Value)} {st : List Value} {r r2 : Option Nat} (e : r = r2) (kk : hg_G X l R D nL S pc lv (va_rf r2 :: st)) : hg_G X l R D nL S pc lv (va_rf r :: st) := by
  subst e; exact kk
theorem hg_top2 {X : dc_X} {l : Launch} {R : Room} {D : va_G} {nL pc : Nat} {S : hg_S} {lv : List (Nat × Value)} {st : List Value} {v : Value} {r r2 : Option Nat} (e : r = r2) (kk : hg_G X l R D nL S pc lv (v :: va_rf r2 :: st)) : hg_G X l R D nL S pc lv (v :: va_rf r :: st) := by
  subst e; exact kk
theorem hg_nok_of {ty : FieldType} {v : Int32} {u : Unit} (h : hg_nok ty v = some u) : narrow ty (.int v) = .int v := by
  unfold hg_nok at h
  by_cases hn : narrow ty (.int v) = .int v
  · exact hn
  · rw [if_neg hn] at h; cases h
