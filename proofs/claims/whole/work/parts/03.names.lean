/-! names: the words of the tables that stay; classes, fields; written by wip/gen/names.py -/
/-- the words that a walk may carry from state to state -/
def tt : List Cond := lw_tbl.filter goodWord
theorem tt_of {w : Cond} (i : Nat) (h : tables_1[i]? = some w) (hg : goodWord w = true) : w ∈ tt := List.mem_filter.mpr ⟨List.mem_append_right _ (List.mem_of_getElem? h), hg⟩
theorem tt_sel {w : Cond} (i : Nat) (h : (k2_sels lw_privs)[i]? = some w) (hg : goodWord w = true) : w ∈ tt := List.mem_filter.mpr ⟨List.mem_append_left _ (List.mem_of_getElem? h), hg⟩
theorem tt_good : ∀ w ∈ tt, goodWord w = true := fun w h => (List.mem_filter.mp h).2
theorem tt_tbl : ∀ w ∈ tt, w ∈ lw_tbl := fun w h => (List.mem_filter.mp h).1
theorem tt_all {ws : List Cond} (ps : List Nat) (h : ws = ps.filterMap (fun i => tables_1[i]?)) (hg : ws.all goodWord = true) : ∀ w ∈ ws, w ∈ tt := by
  intro w hw
  have hgw := List.all_eq_true.mp hg w hw
  rw [h] at hw
  obtain ⟨i, -, hi⟩ := List.mem_filterMap.mp hw
  exact tt_of i hi hgw
/-- a method's words: its own code, and all of these -/
abbrev tw (y : MethodName) (b : ByteArray) (n : Nat) (r : Option FieldType) : List Cond := .code y b n r :: tt
theorem tw_good {c : Cond} {y : MethodName} {b : ByteArray} {n : Nat} {r : Option FieldType} (h : Cond.code y b n r ∈ tt) : GoodIn (c :: tt) (tw y b n r) := fun w hw => (List.mem_cons.mp hw).elim (fun e => by subst e; exact ⟨List.mem_cons_of_mem _ h, good_of_word (tt_good _ h)⟩) (fun h => ⟨List.mem_cons_of_mem _ h, good_of_word (tt_good _ h)⟩)
theorem tw_goodL {y : MethodName} {b : ByteArray} {n : Nat} {r : Option FieldType} (h : Cond.code y b n r ∈ tt) : GoodIn tt (tw y b n r) := fun w hw => (List.mem_cons.mp hw).elim (fun e => by subst e; exact ⟨h, good_of_word (tt_good _ h)⟩) (fun h => ⟨h, good_of_word (tt_good _ h)⟩)
theorem tw_goodC {c d : Cond} (h : d ∈ tt) : GoodIn (c :: tt) (d :: tt) := fun w hw => (List.mem_cons.mp hw).elim (fun e => by subst e; exact ⟨List.mem_cons_of_mem _ h, good_of_word (tt_good _ h)⟩) (fun h => ⟨List.mem_cons_of_mem _ h, good_of_word (tt_good _ h)⟩)
theorem tw_goodT {d : Cond} (h : d ∈ tt) : GoodIn tt (d :: tt) := fun w hw => (List.mem_cons.mp hw).elim (fun e => by subst e; exact ⟨h, good_of_word (tt_good _ h)⟩) (fun h => ⟨h, good_of_word (tt_good _ h)⟩)
theorem tw_mem {c w : Cond} (h : w ∈ tt) : w ∈ c :: tt := List.mem_cons_of_mem _ h
theorem tw_sub {c : Cond} {ws : List Cond} (h : ∀ w ∈ ws, w ∈ tt) : ∀ w ∈ ws, w ∈ c :: tt := fun w hw => List.mem_cons_of_mem _ (h w hw)
def R_SE : String := "SignalEngine"
def F_SE : u_T := fun k => match k with
  | 0 => ("SignalEngine", "tape", "[B", false)
  | 1 => ("SignalEngine", "length", "I", false)
  | 2 => ("SignalEngine", "fed", "Z", false)
  | 3 => ("SignalEngine", "program", "LSignalEngine$Program;", false)
  | 4 => ("SignalEngine", "reactor", "LSignalEngine$Reactor;", false)
  | 5 => ("SignalEngine", "started", "Z", false)
  | 6 => ("SignalEngine", "ended", "Z", false)
  | 7 => ("SignalEngine", "held", "[Z", false)
  | 8 => ("SignalEngine", "shown", "[I", false)
  | 9 => ("SignalEngine", "reactions", "I", false)
  | 10 => ("SignalEngine", "atlas", "LSignalEngine$Atlas;", false)
  | 11 => ("SignalEngine", "net", "LSignalEngine$Net;", false)
  | 12 => ("SignalEngine", "explored", "Z", false)
  | _ => ("SignalEngine", "laid", "Z", false)
def t_SE : Nat → FieldType := fun k => match k with
  | 0 => .array .byte
  | 1 => .int
  | 2 => .boolean
  | 3 => .object "SignalEngine$Program"
  | 4 => .object "SignalEngine$Reactor"
  | 5 => .boolean
  | 6 => .boolean
  | 7 => .array .boolean
  | 8 => .array .int
  | 9 => .int
  | 10 => .object "SignalEngine$Atlas"
  | 11 => .object "SignalEngine$Net"
  | 12 => .boolean
  | _ => .boolean
set_option maxRecDepth 100000 in
theorem n_SE : ∀ a, a < 14 → ∀ b, b < 14 → a ≠ b → (F_SE a).2.1 ≠ (F_SE b).2.1 := by decide +kernel
set_option maxRecDepth 100000 in
theorem t_SE_ok : ∀ k, k < 14 → parseFieldDescriptor (F_SE k).2.2.1 = some (t_SE k) := by decide +kernel
set_option maxRecDepth 100000 in
theorem i_SE : ∀ w ∈ u_ws R_SE F_SE 14, w ∈ tt := tt_all [56, 58, 60, 62, 64, 66, 68, 70, 72, 74, 76, 78, 80, 82] (by decide +kernel) (by decide +kernel)
def R_MD : String := "SignalEngineModel"
def F_MD : u_T := fun k => match k with
  | 0 => ("SignalEngineModel", "thrown", "I", false)
  | 1 => ("SignalEngineModel", "tape", "[B", true)
  | 2 => ("SignalEngineModel", "taped", "I", false)
  | 3 => ("SignalEngineModel", "fed", "Z", false)
  | 4 => ("SignalEngineModel", "at", "I", false)
  | 5 => ("SignalEngineModel", "line", "I", false)
  | 6 => ("SignalEngineModel", "sort", "I", false)
  | 7 => ("SignalEngineModel", "from", "I", false)
  | 8 => ("SignalEngineModel", "lineOf", "I", false)
  | 9 => ("SignalEngineModel", "word", "J", false)
  | 10 => ("SignalEngineModel", "fault", "I", false)
  | 11 => ("SignalEngineModel", "open", "I", false)
  | 12 => ("SignalEngineModel", "great", "Z", false)
  | 13 => ("SignalEngineModel", "turnsAt", "I", false)
  | 14 => ("SignalEngineModel", "turnsLine", "I", false)
  | 15 => ("SignalEngineModel", "names", "I", false)
  | 16 => ("SignalEngineModel", "inputs", "I", false)
  | 17 => ("SignalEngineModel", "outputs", "I", false)
  | 18 => ("SignalEngineModel", "scopes", "I", false)
  | 19 => ("SignalEngineModel", "trapScopes", "I", false)
  | 20 => ("SignalEngineModel", "serials", "I", false)
  | 21 => ("SignalEngineModel", "nameAt", "[I", true)
  | 22 => ("SignalEngineModel", "nameSize", "[I", true)
  | 23 => ("SignalEngineModel", "scope", "[I", true)
  | 24 => ("SignalEngineModel", "trapAt", "[I", true)
  | 25 => ("SignalEngineModel", "trapSize", "[I", true)
  | 26 => ("SignalEngineModel", "trapSerial", "[I", true)
  | 27 => ("SignalEngineModel", "built", "I", false)
  | 28 => ("SignalEngineModel", "pieced", "I", false)
  | 29 => ("SignalEngineModel", "codes", "I", false)
  | 30 => ("SignalEngineModel", "bKind", "[I", true)
  | 31 => ("SignalEngineModel", "bFirst", "[I", true)
  | 32 => ("SignalEngineModel", "bSecond", "[I", true)
  | 33 => ("SignalEngineModel", "bNumber", "[I", true)
  | 34 => ("SignalEngineModel", "bLine", "[I", true)
  | 35 => ("SignalEngineModel", "bAsked", "[I", true)
  | 36 => ("SignalEngineModel", "pKind", "[I", true)
  | 37 => ("SignalEngineModel", "pFirst", "[I", true)
  | 38 => ("SignalEngineModel", "pSecond", "[I", true)
  | 39 => ("SignalEngineModel", "pile", "[I", true)
  | 40 => ("SignalEngineModel", "pileParent", "[I", true)
  | 41 => ("SignalEngineModel", "there", "Z", false)
  | 42 => ("SignalEngineModel", "nodes", "I", false)
  | 43 => ("SignalEngineModel", "pieces", "I", false)
  | 44 => ("SignalEngineModel", "signals", "I", false)
  | 45 => ("SignalEngineModel", "ins", "I", false)
  | 46 => ("SignalEngineModel", "outs", "I", false)
  | 47 => ("SignalEngineModel", "pauses", "I", false)
  | 48 => ("SignalEngineModel", "weights", "I", false)
  | 49 => ("SignalEngineModel", "traps", "I", false)
  | 50 => ("SignalEngineModel", "instances", "I", false)
  | 51 => ("SignalEngineModel", "kind", "[I", true)
  | 52 => ("SignalEngineModel", "first", "[I", true)
  | 53 => ("SignalEngineModel", "second", "[I", true)
  | 54 => ("SignalEngineModel", "number", "[I", true)
  | 55 => ("SignalEngineModel", "code", "[I", true)
  | 56 => ("SignalEngineModel", "lines", "[I", true)
  | 57 => ("SignalEngineModel", "weight", "[I", true)
  | 58 => ("SignalEngineModel", "parent", "[I", true)
  | 59 => ("SignalEngineModel", "last", "[I", true)
  | 60 => ("SignalEngineModel", "trapOf", "[I", true)
  | 61 => ("SignalEngineModel", "base", "[I", true)
  | 62 => ("SignalEngineModel", "pausesAhead", "[I", true)
  | 63 => ("SignalEngineModel", "pieceKind", "[I", true)
  | 64 => ("SignalEngineModel", "pieceFirst", "[I", true)
  | 65 => ("SignalEngineModel", "pieceSecond", "[I", true)
  | 66 => ("SignalEngineModel", "pieceLast", "[I", true)
  | 67 => ("SignalEngineModel", "truth", "[I", true)
  | 68 => ("SignalEngineModel", "letters", "[B", true)
  | 69 => ("SignalEngineModel", "lengths", "[I", true)
  | 70 => ("SignalEngineModel", "status", "[I", true)
  | 71 => ("SignalEngineModel", "must", "[Z", true)
  | 72 => ("SignalEngineModel", "can", "[Z", true)
  | 73 => ("SignalEngineModel", "meant", "[I", true)
  | 74 => ("SignalEngineModel", "selected", "[Z", true)
  | 75 => ("SignalEngineModel", "next", "[Z", true)
  | 76 => ("SignalEngineModel", "chosen", "[I", true)
  | 77 => ("SignalEngineModel", "begins", "Z", false)
  | 78 => ("SignalEngineModel", "doubt", "Z", false)
  | 79 => ("SignalEngineModel", "way", "I", false)
  | 80 => ("SignalEngineModel", "mustCode", "I", false)
  | 81 => ("SignalEngineModel", "canCodes", "I", false)
  | 82 => ("SignalEngineModel", "going", "I", false)
  | 83 => ("SignalEngineModel", "reactions", "I", false)
  | 84 => ("SignalEngineModel", "shown", "[I", true)
  | 85 => ("SignalEngineModel", "explored", "Z", false)
  | 86 => ("SignalEngineModel", "laid", "Z", false)
  | 87 => ("SignalEngineModel", "states", "I", false)
  | 88 => ("SignalEngineModel", "state", "[I", true)
  | 89 => ("SignalEngineModel", "distance", "[I", true)
  | 90 => ("SignalEngineModel", "came", "[I", true)
  | 91 => ("SignalEngineModel", "cameBy", "[I", true)
  | 92 => ("SignalEngineModel", "to", "[I", true)
  | 93 => ("SignalEngineModel", "shows", "[I", true)
  | 94 => ("SignalEngineModel", "apart", "[Z", true)
  | 95 => ("SignalEngineModel", "pairsOpen", "[I", true)
  | 96 => ("SignalEngineModel", "heads", "[I", true)
  | 97 => ("SignalEngineModel", "links", "[I", true)
  | 98 => ("SignalEngineModel", "table", "[J", true)
  | 99 => ("SignalEngineModel", "block", "[I", true)
  | 100 => ("SignalEngineModel", "roots", "[I", true)
  | 101 => ("SignalEngineModel", "level", "[I", true)
  | 102 => ("SignalEngineModel", "low", "[I", true)
  | 103 => ("SignalEngineModel", "high", "[I", true)
  | 104 => ("SignalEngineModel", "found", "[I", true)
  | 105 => ("SignalEngineModel", "marked", "[Z", true)
  | _ => ("SignalEngineModel", "multiplexers", "I", false)
def t_MD : Nat → FieldType := fun k => match k with
  | 0 => .int
  | 1 => .array .byte
  | 2 => .int
  | 3 => .boolean
  | 4 => .int
  | 5 => .int
  | 6 => .int
  | 7 => .int
  | 8 => .int
  | 9 => .long
  | 10 => .int
  | 11 => .int
  | 12 => .boolean
  | 13 => .int
  | 14 => .int
  | 15 => .int
  | 16 => .int
  | 17 => .int
  | 18 => .int
  | 19 => .int
  | 20 => .int
  | 21 => .array .int
  | 22 => .array .int
  | 23 => .array .int
  | 24 => .array .int
  | 25 => .array .int
  | 26 => .array .int
  | 27 => .int
  | 28 => .int
  | 29 => .int
  | 30 => .array .int
  | 31 => .array .int
  | 32 => .array .int
  | 33 => .array .int
  | 34 => .array .int
  | 35 => .array .int
  | 36 => .array .int
  | 37 => .array .int
  | 38 => .array .int
  | 39 => .array .int
  | 40 => .array .int
  | 41 => .boolean
  | 42 => .int
  | 43 => .int
  | 44 => .int
  | 45 => .int
  | 46 => .int
  | 47 => .int
  | 48 => .int
  | 49 => .int
  | 50 => .int
  | 51 => .array .int
  | 52 => .array .int
  | 53 => .array .int
  | 54 => .array .int
  | 55 => .array .int
  | 56 => .array .int
  | 57 => .array .int
  | 58 => .array .int
  | 59 => .array .int
  | 60 => .array .int
  | 61 => .array .int
  | 62 => .array .int
  | 63 => .array .int
  | 64 => .array .int
  | 65 => .array .int
  | 66 => .array .int
  | 67 => .array .int
  | 68 => .array .byte
  | 69 => .array .int
  | 70 => .array .int
  | 71 => .array .boolean
  | 72 => .array .boolean
  | 73 => .array .int
  | 74 => .array .boolean
  | 75 => .array .boolean
  | 76 => .array .int
  | 77 => .boolean
  | 78 => .boolean
  | 79 => .int
  | 80 => .int
  | 81 => .int
  | 82 => .int
  | 83 => .int
  | 84 => .array .int
  | 85 => .boolean
  | 86 => .boolean
  | 87 => .int
  | 88 => .array .int
  | 89 => .array .int
  | 90 => .array .int
  | 91 => .array .int
  | 92 => .array .int
  | 93 => .array .int
  | 94 => .array .boolean
  | 95 => .array .int
  | 96 => .array .int
  | 97 => .array .int
  | 98 => .array .long
  | 99 => .array .int
  | 100 => .array .int
  | 101 => .array .int
  | 102 => .array .int
  | 103 => .array .int
  | 104 => .array .int
  | 105 => .array .boolean
  | _ => .int
set_option maxRecDepth 100000 in
theorem n_MD : ∀ a, a < 107 → ∀ b, b < 107 → a ≠ b → (F_MD a).2.1 ≠ (F_MD b).2.1 := by decide +kernel
set_option maxRecDepth 100000 in
theorem t_MD_ok : ∀ k, k < 107 → parseFieldDescriptor (F_MD k).2.2.1 = some (t_MD k) := by decide +kernel
set_option maxRecDepth 100000 in
theorem i_MD : ∀ w ∈ u_ws R_MD F_MD 107, w ∈ tt := tt_all [1669, 1671, 1673, 1675, 1677, 1679, 1681, 1683, 1685, 1687, 1689, 1691, 1693, 1695, 1697, 1699, 1701, 1703, 1705, 1707, 1709, 1711, 1713, 1715, 1717, 1719, 1721, 1723, 1725, 1727, 1729, 1731, 1733, 1735, 1737, 1739, 1741, 1743, 1745, 1747, 1749, 1751, 1753, 1755, 1757, 1759, 1761, 1763, 1765, 1767, 1769, 1771, 1773, 1775, 1777, 1779, 1781, 1783, 1785, 1787, 1789, 1791, 1793, 1795, 1797, 1799, 1801, 1803, 1805, 1807, 1809, 1811, 1813, 1815, 1817, 1819, 1821, 1823, 1825, 1827, 1829, 1831, 1833, 1835, 1837, 1839, 1841, 1843, 1845, 1847, 1849, 1851, 1853, 1855, 1857, 1859, 1861, 1863, 1865, 1867, 1869, 1871, 1873, 1875, 1877, 1879, 1881] (by decide +kernel) (by decide +kernel)
def R_LX : String := "SignalEngine$Lexer"
def F_LX : u_T := fun k => match k with
  | 0 => ("SignalEngine$Lexer", "text", "[B", true)
  | 1 => ("SignalEngine$Lexer", "token", "LSignalEngine$Token;", false)
  | 2 => ("SignalEngine$Lexer", "from", "I", false)
  | 3 => ("SignalEngine$Lexer", "to", "I", false)
  | 4 => ("SignalEngine$Lexer", "line", "I", false)
  | _ => ("SignalEngine$Lexer", "fault", "I", false)
def t_LX : Nat → FieldType := fun k => match k with
  | 0 => .array .byte
  | 1 => .object "SignalEngine$Token"
  | 2 => .int
  | 3 => .int
  | 4 => .int
  | _ => .int
set_option maxRecDepth 100000 in
theorem n_LX : ∀ a, a < 6 → ∀ b, b < 6 → a ≠ b → (F_LX a).2.1 ≠ (F_LX b).2.1 := by decide +kernel
set_option maxRecDepth 100000 in
theorem t_LX_ok : ∀ k, k < 6 → parseFieldDescriptor (F_LX k).2.2.1 = some (t_LX k) := by decide +kernel
set_option maxRecDepth 100000 in
theorem i_LX : ∀ w ∈ u_ws R_LX F_LX 6, w ∈ tt := tt_all [244, 246, 248, 250, 252, 254] (by decide +kernel) (by decide +kernel)
def R_NM : String := "SignalEngine$Names"
def F_NM : u_T := fun k => match k with
  | 0 => ("SignalEngine$Names", "text", "[B", true)
  | 1 => ("SignalEngine$Names", "from", "[I", false)
  | 2 => ("SignalEngine$Names", "extent", "[I", false)
  | 3 => ("SignalEngine$Names", "scope", "[I", false)
  | 4 => ("SignalEngine$Names", "made", "I", false)
  | _ => ("SignalEngine$Names", "inScope", "I", false)
def t_NM : Nat → FieldType := fun k => match k with
  | 0 => .array .byte
  | 1 => .array .int
  | 2 => .array .int
  | 3 => .array .int
  | 4 => .int
  | _ => .int
set_option maxRecDepth 100000 in
theorem n_NM : ∀ a, a < 6 → ∀ b, b < 6 → a ≠ b → (F_NM a).2.1 ≠ (F_NM b).2.1 := by decide +kernel
set_option maxRecDepth 100000 in
theorem t_NM_ok : ∀ k, k < 6 → parseFieldDescriptor (F_NM k).2.2.1 = some (t_NM k) := by decide +kernel
set_option maxRecDepth 100000 in
theorem i_NM : ∀ w ∈ u_ws R_NM F_NM 6, w ∈ tt := tt_all [273, 275, 277, 279, 281, 283] (by decide +kernel) (by decide +kernel)
def R_PA : String := "SignalEngine$Parser"
def F_PA : u_T := fun k => match k with
  | 0 => ("SignalEngine$Parser", "lexer", "LSignalEngine$Lexer;", true)
  | 1 => ("SignalEngine$Parser", "signals", "LSignalEngine$Names;", true)
  | 2 => ("SignalEngine$Parser", "traps", "LSignalEngine$Names;", true)
  | 3 => ("SignalEngine$Parser", "draft", "LSignalEngine$Draft;", true)
  | 4 => ("SignalEngine$Parser", "inputs", "I", false)
  | 5 => ("SignalEngine$Parser", "outputs", "I", false)
  | _ => ("SignalEngine$Parser", "open", "I", false)
def t_PA : Nat → FieldType := fun k => match k with
  | 0 => .object "SignalEngine$Lexer"
  | 1 => .object "SignalEngine$Names"
  | 2 => .object "SignalEngine$Names"
  | 3 => .object "SignalEngine$Draft"
  | 4 => .int
  | 5 => .int
  | _ => .int
set_option maxRecDepth 100000 in
theorem n_PA : ∀ a, a < 7 → ∀ b, b < 7 → a ≠ b → (F_PA a).2.1 ≠ (F_PA b).2.1 := by decide +kernel
set_option maxRecDepth 100000 in
theorem t_PA_ok : ∀ k, k < 7 → parseFieldDescriptor (F_PA k).2.2.1 = some (t_PA k) := by decide +kernel
set_option maxRecDepth 100000 in
theorem i_PA : ∀ w ∈ u_ws R_PA F_PA 7, w ∈ tt := tt_all [297, 299, 301, 303, 305, 307, 309] (by decide +kernel) (by decide +kernel)
def R_PI : String := "SignalEngine$Pieces"
def F_PI : u_T := fun k => match k with
  | 0 => ("SignalEngine$Pieces", "kind", "[I", false)
  | 1 => ("SignalEngine$Pieces", "first", "[I", false)
  | 2 => ("SignalEngine$Pieces", "second", "[I", false)
  | 3 => ("SignalEngine$Pieces", "extent", "[I", false)
  | 4 => ("SignalEngine$Pieces", "place", "[I", false)
  | _ => ("SignalEngine$Pieces", "made", "I", false)
def t_PI : Nat → FieldType := fun k => match k with
  | 0 => .array .int
  | 1 => .array .int
  | 2 => .array .int
  | 3 => .array .int
  | 4 => .array .int
  | _ => .int
set_option maxRecDepth 100000 in
theorem n_PI : ∀ a, a < 6 → ∀ b, b < 6 → a ≠ b → (F_PI a).2.1 ≠ (F_PI b).2.1 := by decide +kernel
set_option maxRecDepth 100000 in
theorem t_PI_ok : ∀ k, k < 6 → parseFieldDescriptor (F_PI k).2.2.1 = some (t_PI k) := by decide +kernel
set_option maxRecDepth 100000 in
theorem i_PI : ∀ w ∈ u_ws R_PI F_PI 6, w ∈ tt := tt_all [184, 186, 188, 190, 192, 194] (by decide +kernel) (by decide +kernel)
def R_DR : String := "SignalEngine$Draft"
def F_DR : u_T := fun k => match k with
  | 0 => ("SignalEngine$Draft", "nodes", "Ljava/util/ArrayList;", true)
  | 1 => ("SignalEngine$Draft", "pieces", "LSignalEngine$Pieces;", true)
  | 2 => ("SignalEngine$Draft", "weights", "I", false)
  | 3 => ("SignalEngine$Draft", "pauses", "I", false)
  | 4 => ("SignalEngine$Draft", "tests", "I", false)
  | _ => ("SignalEngine$Draft", "deepest", "I", false)
def t_DR : Nat → FieldType := fun k => match k with
  | 0 => .object "java/util/ArrayList"
  | 1 => .object "SignalEngine$Pieces"
  | 2 => .int
  | 3 => .int
  | 4 => .int
  | _ => .int
set_option maxRecDepth 100000 in
theorem n_DR : ∀ a, a < 6 → ∀ b, b < 6 → a ≠ b → (F_DR a).2.1 ≠ (F_DR b).2.1 := by decide +kernel
set_option maxRecDepth 100000 in
theorem t_DR_ok : ∀ k, k < 6 → parseFieldDescriptor (F_DR k).2.2.1 = some (t_DR k) := by decide +kernel
set_option maxRecDepth 100000 in
theorem i_DR : ∀ w ∈ u_ws R_DR F_DR 6, w ∈ tt := tt_all [211, 213, 215, 217, 219, 221] (by decide +kernel) (by decide +kernel)
def R_AL : String := "java/util/ArrayList"
def F_AL : u_T := fun k => match k with
  | 0 => ("java/util/ArrayList", "elementData", "[Ljava/lang/Object;", false)
  | 1 => ("java/util/ArrayList", "size", "I", false)
  | _ => ("java/util/AbstractList", "modCount", "I", false)
def t_AL : Nat → FieldType := fun k => match k with
  | 0 => .array (.object "java/lang/Object")
  | 1 => .int
  | _ => .int
set_option maxRecDepth 100000 in
theorem n_AL : ∀ a, a < 3 → ∀ b, b < 3 → a ≠ b → (F_AL a).2.1 ≠ (F_AL b).2.1 := by decide +kernel
set_option maxRecDepth 100000 in
theorem t_AL_ok : ∀ k, k < 3 → parseFieldDescriptor (F_AL k).2.2.1 = some (t_AL k) := by decide +kernel
set_option maxRecDepth 100000 in
theorem i_AL : ∀ w ∈ u_ws R_AL F_AL 3, w ∈ tt := tt_all [154, 156, 158] (by decide +kernel) (by decide +kernel)
def R_ND : String := "SignalEngine$Node"
def F_ND : u_T := fun k => match k with
  | 0 => ("SignalEngine$Node", "kind", "I", true)
  | 1 => ("SignalEngine$Node", "line", "I", true)
  | 2 => ("SignalEngine$Node", "first", "LSignalEngine$Node;", true)
  | 3 => ("SignalEngine$Node", "second", "LSignalEngine$Node;", true)
  | 4 => ("SignalEngine$Node", "number", "I", false)
  | 5 => ("SignalEngine$Node", "trap", "I", false)
  | 6 => ("SignalEngine$Node", "test", "I", false)
  | 7 => ("SignalEngine$Node", "extent", "I", false)
  | 8 => ("SignalEngine$Node", "place", "I", false)
  | 9 => ("SignalEngine$Node", "parent", "I", false)
  | 10 => ("SignalEngine$Node", "traps", "I", false)
  | 11 => ("SignalEngine$Node", "weight", "I", false)
  | _ => ("SignalEngine$Node", "codes", "I", false)
def t_ND : Nat → FieldType := fun k => match k with
  | 0 => .int
  | 1 => .int
  | 2 => .object "SignalEngine$Node"
  | 3 => .object "SignalEngine$Node"
  | 4 => .int
  | 5 => .int
  | 6 => .int
  | 7 => .int
  | 8 => .int
  | 9 => .int
  | 10 => .int
  | 11 => .int
  | _ => .int
set_option maxRecDepth 100000 in
theorem n_ND : ∀ a, a < 13 → ∀ b, b < 13 → a ≠ b → (F_ND a).2.1 ≠ (F_ND b).2.1 := by decide +kernel
set_option maxRecDepth 100000 in
theorem t_ND_ok : ∀ k, k < 13 → parseFieldDescriptor (F_ND k).2.2.1 = some (t_ND k) := by decide +kernel
set_option maxRecDepth 100000 in
theorem i_ND : ∀ w ∈ u_ws R_ND F_ND 13, w ∈ tt := tt_all [586, 588, 590, 592, 594, 596, 598, 600, 602, 604, 606, 608, 610] (by decide +kernel) (by decide +kernel)
def R_PG : String := "SignalEngine$Program"
def F_PG : u_T := fun k => match k with
  | 0 => ("SignalEngine$Program", "names", "LSignalEngine$Names;", true)
  | 1 => ("SignalEngine$Program", "inputs", "I", true)
  | 2 => ("SignalEngine$Program", "outputs", "I", true)
  | 3 => ("SignalEngine$Program", "pauses", "I", true)
  | 4 => ("SignalEngine$Program", "weights", "I", true)
  | 5 => ("SignalEngine$Program", "deepest", "I", true)
  | 6 => ("SignalEngine$Program", "pieces", "LSignalEngine$Pieces;", true)
  | 7 => ("SignalEngine$Program", "kind", "[I", true)
  | 8 => ("SignalEngine$Program", "first", "[I", true)
  | 9 => ("SignalEngine$Program", "second", "[I", true)
  | 10 => ("SignalEngine$Program", "parent", "[I", true)
  | 11 => ("SignalEngine$Program", "number", "[I", true)
  | 12 => ("SignalEngine$Program", "codes", "[I", true)
  | 13 => ("SignalEngine$Program", "line", "[I", true)
  | 14 => ("SignalEngine$Program", "weight", "[I", true)
  | 15 => ("SignalEngine$Program", "pauseFrom", "[I", true)
  | _ => ("SignalEngine$Program", "pauseTo", "[I", true)
def t_PG : Nat → FieldType := fun k => match k with
  | 0 => .object "SignalEngine$Names"
  | 1 => .int
  | 2 => .int
  | 3 => .int
  | 4 => .int
  | 5 => .int
  | 6 => .object "SignalEngine$Pieces"
  | 7 => .array .int
  | 8 => .array .int
  | 9 => .array .int
  | 10 => .array .int
  | 11 => .array .int
  | 12 => .array .int
  | 13 => .array .int
  | 14 => .array .int
  | 15 => .array .int
  | _ => .array .int
set_option maxRecDepth 100000 in
theorem n_PG : ∀ a, a < 17 → ∀ b, b < 17 → a ≠ b → (F_PG a).2.1 ≠ (F_PG b).2.1 := by decide +kernel
set_option maxRecDepth 100000 in
theorem t_PG_ok : ∀ k, k < 17 → parseFieldDescriptor (F_PG k).2.2.1 = some (t_PG k) := by decide +kernel
set_option maxRecDepth 100000 in
theorem i_PG : ∀ w ∈ u_ws R_PG F_PG 17, w ∈ tt := tt_all [939, 941, 943, 945, 947, 949, 951, 953, 955, 957, 959, 961, 963, 965, 967, 969, 971] (by decide +kernel) (by decide +kernel)
def R_RE : String := "SignalEngine$Reactor"
def F_RE : u_T := fun k => match k with
  | 0 => ("SignalEngine$Reactor", "program", "LSignalEngine$Program;", true)
  | 1 => ("SignalEngine$Reactor", "known", "[I", true)
  | 2 => ("SignalEngine$Reactor", "emitted", "[I", true)
  | 3 => ("SignalEngine$Reactor", "placeFrom", "[I", true)
  | 4 => ("SignalEngine$Reactor", "placeNow", "[I", true)
  | 5 => ("SignalEngine$Reactor", "truth", "[I", true)
  | 6 => ("SignalEngine$Reactor", "test", "[I", true)
  | 7 => ("SignalEngine$Reactor", "can", "[I", true)
  | 8 => ("SignalEngine$Reactor", "must", "[I", true)
  | 9 => ("SignalEngine$Reactor", "sure", "[Z", true)
  | 10 => ("SignalEngine$Reactor", "heldBefore", "[I", true)
  | 11 => ("SignalEngine$Reactor", "chosen", "[Z", true)
  | 12 => ("SignalEngine$Reactor", "round", "I", false)
  | 13 => ("SignalEngine$Reactor", "changed", "Z", false)
  | 14 => ("SignalEngine$Reactor", "doubtful", "Z", false)
  | 15 => ("SignalEngine$Reactor", "starting", "Z", false)
  | 16 => ("SignalEngine$Reactor", "startedBehind", "I", false)
  | _ => ("SignalEngine$Reactor", "begun", "I", false)
def t_RE : Nat → FieldType := fun k => match k with
  | 0 => .object "SignalEngine$Program"
  | 1 => .array .int
  | 2 => .array .int
  | 3 => .array .int
  | 4 => .array .int
  | 5 => .array .int
  | 6 => .array .int
  | 7 => .array .int
  | 8 => .array .int
  | 9 => .array .boolean
  | 10 => .array .int
  | 11 => .array .boolean
  | 12 => .int
  | 13 => .boolean
  | 14 => .boolean
  | 15 => .boolean
  | 16 => .int
  | _ => .int
set_option maxRecDepth 100000 in
theorem n_RE : ∀ a, a < 18 → ∀ b, b < 18 → a ≠ b → (F_RE a).2.1 ≠ (F_RE b).2.1 := by decide +kernel
set_option maxRecDepth 100000 in
theorem t_RE_ok : ∀ k, k < 18 → parseFieldDescriptor (F_RE k).2.2.1 = some (t_RE k) := by decide +kernel
set_option maxRecDepth 100000 in
theorem i_RE : ∀ w ∈ u_ws R_RE F_RE 18, w ∈ tt := tt_all [1006, 1008, 1010, 1012, 1014, 1016, 1018, 1020, 1022, 1024, 1026, 1028, 1030, 1032, 1034, 1036, 1038, 1040] (by decide +kernel) (by decide +kernel)
def R_AT : String := "SignalEngine$Atlas"
def F_AT : u_T := fun k => match k with
  | 0 => ("SignalEngine$Atlas", "follows", "[I", true)
  | 1 => ("SignalEngine$Atlas", "emits", "[I", true)
  | 2 => ("SignalEngine$Atlas", "far", "[I", true)
  | 3 => ("SignalEngine$Atlas", "cameFrom", "[I", true)
  | 4 => ("SignalEngine$Atlas", "cameOn", "[I", true)
  | 5 => ("SignalEngine$Atlas", "order", "[I", true)
  | 6 => ("SignalEngine$Atlas", "group", "[I", true)
  | 7 => ("SignalEngine$Atlas", "split", "[I", true)
  | 8 => ("SignalEngine$Atlas", "options", "I", false)
  | 9 => ("SignalEngine$Atlas", "reached", "I", false)
  | 10 => ("SignalEngine$Atlas", "reactions", "I", false)
  | 11 => ("SignalEngine$Atlas", "steady", "I", false)
  | 12 => ("SignalEngine$Atlas", "groups", "I", false)
  | 13 => ("SignalEngine$Atlas", "doubtState", "I", false)
  | _ => ("SignalEngine$Atlas", "doubtInputs", "I", false)
def t_AT : Nat → FieldType := fun k => match k with
  | 0 => .array .int
  | 1 => .array .int
  | 2 => .array .int
  | 3 => .array .int
  | 4 => .array .int
  | 5 => .array .int
  | 6 => .array .int
  | 7 => .array .int
  | 8 => .int
  | 9 => .int
  | 10 => .int
  | 11 => .int
  | 12 => .int
  | 13 => .int
  | _ => .int
set_option maxRecDepth 100000 in
theorem n_AT : ∀ a, a < 15 → ∀ b, b < 15 → a ≠ b → (F_AT a).2.1 ≠ (F_AT b).2.1 := by decide +kernel
set_option maxRecDepth 100000 in
theorem t_AT_ok : ∀ k, k < 15 → parseFieldDescriptor (F_AT k).2.2.1 = some (t_AT k) := by decide +kernel
set_option maxRecDepth 100000 in
theorem i_AT : ∀ w ∈ u_ws R_AT F_AT 15, w ∈ tt := tt_all [1347, 1349, 1351, 1353, 1355, 1357, 1359, 1361, 1363, 1365, 1367, 1369, 1371, 1373, 1375] (by decide +kernel) (by decide +kernel)
def R_NT : String := "SignalEngine$Net"
def F_NT : u_T := fun k => match k with
  | 0 => ("SignalEngine$Net", "layer", "[I", true)
  | 1 => ("SignalEngine$Net", "heads", "[I", true)
  | 2 => ("SignalEngine$Net", "atBit", "[I", true)
  | 3 => ("SignalEngine$Net", "roots", "[I", true)
  | 4 => ("SignalEngine$Net", "bit", "[I", false)
  | 5 => ("SignalEngine$Net", "low", "[I", false)
  | 6 => ("SignalEngine$Net", "high", "[I", false)
  | 7 => ("SignalEngine$Net", "chain", "[I", false)
  | 8 => ("SignalEngine$Net", "seen", "[I", false)
  | 9 => ("SignalEngine$Net", "made", "I", false)
  | 10 => ("SignalEngine$Net", "inputs", "I", false)
  | 11 => ("SignalEngine$Net", "outputs", "I", false)
  | 12 => ("SignalEngine$Net", "pauses", "I", false)
  | 13 => ("SignalEngine$Net", "functions", "I", false)
  | _ => ("SignalEngine$Net", "looks", "I", false)
def t_NT : Nat → FieldType := fun k => match k with
  | 0 => .array .int
  | 1 => .array .int
  | 2 => .array .int
  | 3 => .array .int
  | 4 => .array .int
  | 5 => .array .int
  | 6 => .array .int
  | 7 => .array .int
  | 8 => .array .int
  | 9 => .int
  | 10 => .int
  | 11 => .int
  | 12 => .int
  | 13 => .int
  | _ => .int
set_option maxRecDepth 100000 in
theorem n_NT : ∀ a, a < 15 → ∀ b, b < 15 → a ≠ b → (F_NT a).2.1 ≠ (F_NT b).2.1 := by decide +kernel
set_option maxRecDepth 100000 in
theorem t_NT_ok : ∀ k, k < 15 → parseFieldDescriptor (F_NT k).2.2.1 = some (t_NT k) := by decide +kernel
set_option maxRecDepth 100000 in
theorem i_NT : ∀ w ∈ u_ws R_NT F_NT 15, w ∈ tt := tt_all [1475, 1477, 1479, 1481, 1483, 1485, 1487, 1489, 1491, 1493, 1495, 1497, 1499, 1501, 1503] (by decide +kernel) (by decide +kernel)
abbrev cl : List vw_C := [(R_SE, F_SE, 14), (R_MD, F_MD, 107), (R_LX, F_LX, 6), (R_NM, F_NM, 6), (R_PA, F_PA, 7), (R_PI, F_PI, 6), (R_DR, F_DR, 6), (R_AL, F_AL, 3), (R_ND, F_ND, 13), (R_PG, F_PG, 17), (R_RE, F_RE, 18), (R_AT, F_AT, 15), (R_NT, F_NT, 15)]
