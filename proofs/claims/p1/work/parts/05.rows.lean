/-! small rows: a computed top by its number; how a throwing method ends; empty objects -/
section XS5
variable {p : Program} {l : Launch} {e : Env} {R : Room} {s : State} {m : MethodId} {args : Array Value} {below : List Frame} {meth : Method} {c : Code} {H : Heap} {locs : List Loc} {cells slots : Nat} {Q : State → Prop} {pc : Nat} {ls : Array Slot} {rest : List Value}
theorem xtopi {x v : Int32} (h : x = v) (k : W p l e R s m args below meth c H locs cells slots Q (F0 m pc ls (.int v :: rest))) : W p l e R s m args below meth c H locs cells slots Q (F0 m pc ls (.int x :: rest)) := by
  subst h; exact k
theorem xtopl {x v : Int64} (h : x = v) (k : W p l e R s m args below meth c H locs cells slots Q (F0 m pc ls (.long v :: rest))) : W p l e R s m args below meth c H locs cells slots Q (F0 m pc ls (.long x :: rest)) := by
  subst h; exact k
end XS5
theorem xc_fin {C : String} {D : va_G} {A : Nat → Prop} {ws : va_W} {tys : List (ClassId × FieldType)} {s t : State} {H : Heap} {locs : List Loc} {x : Nat} {a : Array Value} (hP : va_P D cl ws H) (hK : va_K D cl tys s) (hD : va_D A ws) (hS : va_S A s.heap H locs) (hz : H.size ≤ t.heap.size) (hk : ∀ q : Nat, q < H.size → t.heap[q]? = H[q]?) (hob : xc_Ob C x t t.heap) (hW : s.WarmedH t.vm) :
    xc_Q C (fun (_ : Unit) => True) (fun (_ : Unit) t => xq D A ws tys t) A a s x t :=
  ⟨⟨(), hob, trivial, hP.kept (fun k q hq => hk q.1 ((hP k q hq).lt)), va_K.moved hW.alike hK, hD⟩, Nat.le_trans hS.1 hz, fun q h1 h2 => (hk q (Nat.lt_of_lt_of_le h1 hS.1)).trans (hS.2.1 q h1 h2)⟩
theorem xc_fin2 {C : String} {D : va_G} {A : Nat → Prop} {ws : va_W} {tys : List (ClassId × FieldType)} {s t : State} {H : Heap} {locs : List Loc} {x : Nat} {a : Array Value} (hP : va_P D cl ws H) (hK : va_K D cl tys s) (hD : va_D A ws) (hS : va_S A s.heap H locs) (ht : t.heap = H) (hob : xc_Ob C x s H) (hW : s.WarmedH t.vm) :
    xc_Q C (fun (_ : Unit) => True) (fun (_ : Unit) t => xq D A ws tys t) A a s x t := by
  obtain ⟨cell, o1, o2, o3⟩ := hob
  exact ⟨⟨(), ⟨cell, by rw [ht]; exact o1, o2, by rw [hW.alike.findClass]; exact o3⟩, trivial, by rw [ht]; exact hP, va_K.moved hW.alike hK, hD⟩, hS.F ht⟩
def ex_up : List String := ["java/lang/RuntimeException", "java/lang/Exception"]
