/-! the class's reactor: tests, their tables -/
theorem sv_0 {a : Int32} (h : v3 a) : hg_cst (hk_sv 0) a = some (n3 a) := by
  rcases h with h | h | h <;> subst h <;> decide +kernel
theorem sv_1 {a b : Int32} (h : v3 a) (g : v3 b) : hg_cst (hk_sv 1) (3 * a + b) = some (an3 a b) := by
  rcases h with h | h | h <;> rcases g with g | g | g <;> subst h <;> subst g <;> decide +kernel
theorem sv_2 {a b : Int32} (h : v3 a) (g : v3 b) : hg_cst (hk_sv 2) (3 * a + b) = some (or3 a b) := by
  rcases h with h | h | h <;> rcases g with g | g | g <;> subst h <;> subst g <;> decide +kernel
