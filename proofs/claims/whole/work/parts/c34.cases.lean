noncomputable def lw_t0 (G : hg_E) (xs : Nat → Int32) (L ox : Nat) (S : hg_S) (v : Int64) (M : md_S) (i : Int32) : Option (hg_S × Int64 × md_S) :=
  (dc_ix (i + 1) L).bind fun j1 => (dc_ix (i + 2) L).bind fun j2 => (dc_ix (i + 3) L).bind fun j3 => (dc_ix (i + 4) L).bind fun j4 => (dc_ix (i + 5) L).bind fun j5 => (hg_chk S (some ox) 0).bind fun b6 => (hm_SE_feed G S ox (xs j1) (xs j2) (xs j3) (xs j4) (xs j5)).bind fun q7 => (dc_ix (i + 1) L).bind fun j8 => (dc_ix (i + 2) L).bind fun j9 => (dc_ix (i + 3) L).bind fun j10 => (dc_ix (i + 4) L).bind fun j11 => (dc_ix (i + 5) L).bind fun j12 => (mm_feed M (xs j8) (xs j9) (xs j10) (xs j11) (xs j12)).bind fun q13 => if q7.2 = q13.2 then (some (q7.1, v, q13.1)) else (none)
set_option maxHeartbeats 4000000 in
set_option maxRecDepth 100000 in
theorem lw_c0 {X : dc_X} {l : Launch} (hlt : l.stackTraces = false) {D : va_G} {G : hg_E} {w o ox sb L : Nat} {a : Nat → Nat} {ca : Nat → ClassId} {xs : Nat → Int32} (hC : hg_K X D G code 8 "SignalEngineLaw") (hKm : hl_KM X D (md_T ca)) (hX : lw_X X sb L xs) (hN : hl_N X) (S : hg_S) (v : Int64) (M : md_S) (i : Int32) (F : hg_S × Int64 × md_S → Prop) (lab : ∀ q, F q → hg_G X l room_1 D 8 (lw_W G w o a ca q.1 q.2.1 q.2.2) 1140 [(0, va_rf (some sb)), (1, va_rf (some ox)), (2, va_rf (some o)), (3, va_rf (some w)), (4, .int i)] []) (h : dc_wp (lw_t0 G xs L ox S v M i) F) : hg_G X l room_1 D 8 (lw_W G w o a ca S v M) 160 [(0, va_rf (some sb)), (1, va_rf (some ox)), (2, va_rf (some o)), (3, va_rf (some w)), (4, .int i)] [] := by
  delta lw_t0 at h
  refine hg_aloadn (pc := 160) (j := 1) (i := 1) (r := (some ox)) hC 1 rfl rfl (show decode code 160 = .ok (.aload_n 1, 1) by decide +kernel) ?_
  refine hg_aloadn (pc := 161) (j := 0) (i := 0) (r := (some sb)) hC 0 rfl rfl (show decode code 161 = .ok (.aload_n 0, 1) by decide +kernel) ?_
  refine hg_iload (pc := 162) (i := 4) hC 4 rfl (show decode code 162 = .ok (.iload 4, 2) by decide +kernel) ?_
  refine hg_iconst (pc := 164) (v := 1) hC (show decode code 164 = .ok (.iconst 1, 1) by decide +kernel) (by decide +kernel) ?_
  refine hg_iadd (pc := 165) hC (show decode code 165 = .ok (.iadd, 1) by decide +kernel) ?_
  refine lw_sld (pc := 166) hC hX (show decode code 166 = .ok (.iaload, 1) by decide +kernel) h ?_
  intro j1 h
  refine hg_aloadn (pc := 167) (j := 0) (i := 0) (r := (some sb)) hC 0 rfl rfl (show decode code 167 = .ok (.aload_n 0, 1) by decide +kernel) ?_
  refine hg_iload (pc := 168) (i := 4) hC 4 rfl (show decode code 168 = .ok (.iload 4, 2) by decide +kernel) ?_
  refine hg_iconst (pc := 170) (v := 2) hC (show decode code 170 = .ok (.iconst 2, 1) by decide +kernel) (by decide +kernel) ?_
  refine hg_iadd (pc := 171) hC (show decode code 171 = .ok (.iadd, 1) by decide +kernel) ?_
  refine lw_sld (pc := 172) hC hX (show decode code 172 = .ok (.iaload, 1) by decide +kernel) h ?_
  intro j2 h
  refine hg_aloadn (pc := 173) (j := 0) (i := 0) (r := (some sb)) hC 0 rfl rfl (show decode code 173 = .ok (.aload_n 0, 1) by decide +kernel) ?_
  refine hg_iload (pc := 174) (i := 4) hC 4 rfl (show decode code 174 = .ok (.iload 4, 2) by decide +kernel) ?_
  refine hg_iconst (pc := 176) (v := 3) hC (show decode code 176 = .ok (.iconst 3, 1) by decide +kernel) (by decide +kernel) ?_
  refine hg_iadd (pc := 177) hC (show decode code 177 = .ok (.iadd, 1) by decide +kernel) ?_
  refine lw_sld (pc := 178) hC hX (show decode code 178 = .ok (.iaload, 1) by decide +kernel) h ?_
  intro j3 h
  refine hg_aloadn (pc := 179) (j := 0) (i := 0) (r := (some sb)) hC 0 rfl rfl (show decode code 179 = .ok (.aload_n 0, 1) by decide +kernel) ?_
  refine hg_iload (pc := 180) (i := 4) hC 4 rfl (show decode code 180 = .ok (.iload 4, 2) by decide +kernel) ?_
  refine hg_iconst (pc := 182) (v := 4) hC (show decode code 182 = .ok (.iconst 4, 1) by decide +kernel) (by decide +kernel) ?_
  refine hg_iadd (pc := 183) hC (show decode code 183 = .ok (.iadd, 1) by decide +kernel) ?_
  refine lw_sld (pc := 184) hC hX (show decode code 184 = .ok (.iaload, 1) by decide +kernel) h ?_
  intro j4 h
  refine hg_aloadn (pc := 185) (j := 0) (i := 0) (r := (some sb)) hC 0 rfl rfl (show decode code 185 = .ok (.aload_n 0, 1) by decide +kernel) ?_
  refine hg_iload (pc := 186) (i := 4) hC 4 rfl (show decode code 186 = .ok (.iload 4, 2) by decide +kernel) ?_
  refine hg_iconst (pc := 188) (v := 5) hC (show decode code 188 = .ok (.iconst 5, 1) by decide +kernel) (by decide +kernel) ?_
  refine hg_iadd (pc := 189) hC (show decode code 189 = .ok (.iadd, 1) by decide +kernel) ?_
  refine lw_sld (pc := 190) hC hX (show decode code 190 = .ok (.iaload, 1) by decide +kernel) h ?_
  intro j5 h
  obtain ⟨b6, hb, h⟩ := dc_bind h
  obtain ⟨hb2, hv⟩ := hg_chk_of (C := R_SE) rfl hb
  have hbo : ox = b6 := Option.some.inj hb2
  subst hbo
  refine lw_ci (pc := 191) (b := ox) (As := [.int (xs j1), .int (xs j2), .int (xs j3), .int (xs j4), .int (xs j5)]) (rest := []) (vo := fun q => q.2) (so := fun q => q.1) hC cw_SignalEngineLaw_49 (fun q hq => hm_SE_feed_ok l D G S ox (xs j1) (xs j2) (xs j3) (xs j4) (xs j5) q hq) (Nat.le_of_ble_eq_true rfl) (Nat.le_of_ble_eq_true rfl) hv rfl (Nat.le_of_ble_eq_true rfl) (show decode code 191 = .ok (.invokevirtual 49, 3) by decide +kernel) h ?_
  intro q7 h
  refine hg_aloadn (pc := 194) (j := 2) (i := 2) (r := (some o)) hC 2 rfl rfl (show decode code 194 = .ok (.aload_n 2, 1) by decide +kernel) ?_
  refine hg_aloadn (pc := 195) (j := 0) (i := 0) (r := (some sb)) hC 0 rfl rfl (show decode code 195 = .ok (.aload_n 0, 1) by decide +kernel) ?_
  refine hg_iload (pc := 196) (i := 4) hC 4 rfl (show decode code 196 = .ok (.iload 4, 2) by decide +kernel) ?_
  refine hg_iconst (pc := 198) (v := 1) hC (show decode code 198 = .ok (.iconst 1, 1) by decide +kernel) (by decide +kernel) ?_
  refine hg_iadd (pc := 199) hC (show decode code 199 = .ok (.iadd, 1) by decide +kernel) ?_
  refine lw_sld (pc := 200) hC hX (show decode code 200 = .ok (.iaload, 1) by decide +kernel) h ?_
  intro j8 h
  refine hg_aloadn (pc := 201) (j := 0) (i := 0) (r := (some sb)) hC 0 rfl rfl (show decode code 201 = .ok (.aload_n 0, 1) by decide +kernel) ?_
  refine hg_iload (pc := 202) (i := 4) hC 4 rfl (show decode code 202 = .ok (.iload 4, 2) by decide +kernel) ?_
  refine hg_iconst (pc := 204) (v := 2) hC (show decode code 204 = .ok (.iconst 2, 1) by decide +kernel) (by decide +kernel) ?_
  refine hg_iadd (pc := 205) hC (show decode code 205 = .ok (.iadd, 1) by decide +kernel) ?_
  refine lw_sld (pc := 206) hC hX (show decode code 206 = .ok (.iaload, 1) by decide +kernel) h ?_
  intro j9 h
  refine hg_aloadn (pc := 207) (j := 0) (i := 0) (r := (some sb)) hC 0 rfl rfl (show decode code 207 = .ok (.aload_n 0, 1) by decide +kernel) ?_
  refine hg_iload (pc := 208) (i := 4) hC 4 rfl (show decode code 208 = .ok (.iload 4, 2) by decide +kernel) ?_
  refine hg_iconst (pc := 210) (v := 3) hC (show decode code 210 = .ok (.iconst 3, 1) by decide +kernel) (by decide +kernel) ?_
  refine hg_iadd (pc := 211) hC (show decode code 211 = .ok (.iadd, 1) by decide +kernel) ?_
  refine lw_sld (pc := 212) hC hX (show decode code 212 = .ok (.iaload, 1) by decide +kernel) h ?_
  intro j10 h
  refine hg_aloadn (pc := 213) (j := 0) (i := 0) (r := (some sb)) hC 0 rfl rfl (show decode code 213 = .ok (.aload_n 0, 1) by decide +kernel) ?_
  refine hg_iload (pc := 214) (i := 4) hC 4 rfl (show decode code 214 = .ok (.iload 4, 2) by decide +kernel) ?_
  refine hg_iconst (pc := 216) (v := 4) hC (show decode code 216 = .ok (.iconst 4, 1) by decide +kernel) (by decide +kernel) ?_
  refine hg_iadd (pc := 217) hC (show decode code 217 = .ok (.iadd, 1) by decide +kernel) ?_
  refine lw_sld (pc := 218) hC hX (show decode code 218 = .ok (.iaload, 1) by decide +kernel) h ?_
  intro j11 h
  refine hg_aloadn (pc := 219) (j := 0) (i := 0) (r := (some sb)) hC 0 rfl rfl (show decode code 219 = .ok (.aload_n 0, 1) by decide +kernel) ?_
  refine hg_iload (pc := 220) (i := 4) hC 4 rfl (show decode code 220 = .ok (.iload 4, 2) by decide +kernel) ?_
  refine hg_iconst (pc := 222) (v := 5) hC (show decode code 222 = .ok (.iconst 5, 1) by decide +kernel) (by decide +kernel) ?_
  refine hg_iadd (pc := 223) hC (show decode code 223 = .ok (.iadd, 1) by decide +kernel) ?_
  refine lw_sld (pc := 224) hC hX (show decode code 224 = .ok (.iaload, 1) by decide +kernel) h ?_
  intro j12 h
  refine lw_mi (pc := 225) (As := [.int (xs j8), .int (xs j9), .int (xs j10), .int (xs j11), .int (xs j12)]) (rest := [.int q7.2]) (rv := fun q => q.2) (sv := fun q => q.1) hC hKm cw_SignalEngineLaw_53 (fun F2 h2 => mm_feed_ok l D G.2.1 G.2.2.1 o a ca M (xs j8) (xs j9) (xs j10) (xs j11) (xs j12) F2 h2) (Nat.le_of_ble_eq_true rfl) (Nat.le_of_ble_eq_true rfl) rfl rfl (Nat.le_of_ble_eq_true rfl) (show decode code 225 = .ok (.invokevirtual 53, 3) by decide +kernel) h ?_
  intro q13 h
  refine hg_icmp_eq (pc := 228) (tgt := 1140) hC (show decode code 228 = .ok (.if_icmp .eq 912, 3) by decide +kernel) (by decide +kernel) h ?_ ?_
  · intro h
    exact lab (q7.1, v, q13.1) (dc_some h)
  · intro h
    exact (dc_not h).elim
noncomputable def lw_t1 (G : hg_E) (xs : Nat → Int32) (L ox : Nat) (S : hg_S) (v : Int64) (M : md_S) (i : Int32) : Option (hg_S × Int64 × md_S) :=
  (dc_ix (i + 1) L).bind fun j1 => (hg_chk S (some ox) 0).bind fun b2 => (hm_SE_end G S ox (xs j1)).bind fun q3 => (dc_ix (i + 1) L).bind fun j4 => (mm_end M (xs j4)).bind fun q5 => if q3.2 = q5.2 then (some (q3.1, v, q5.1)) else (none)
set_option maxHeartbeats 4000000 in
set_option maxRecDepth 100000 in
theorem lw_c1 {X : dc_X} {l : Launch} (hlt : l.stackTraces = false) {D : va_G} {G : hg_E} {w o ox sb L : Nat} {a : Nat → Nat} {ca : Nat → ClassId} {xs : Nat → Int32} (hC : hg_K X D G code 8 "SignalEngineLaw") (hKm : hl_KM X D (md_T ca)) (hX : lw_X X sb L xs) (hN : hl_N X) (S : hg_S) (v : Int64) (M : md_S) (i : Int32) (F : hg_S × Int64 × md_S → Prop) (lab : ∀ q, F q → hg_G X l room_1 D 8 (lw_W G w o a ca q.1 q.2.1 q.2.2) 1140 [(0, va_rf (some sb)), (1, va_rf (some ox)), (2, va_rf (some o)), (3, va_rf (some w)), (4, .int i)] []) (h : dc_wp (lw_t1 G xs L ox S v M i) F) : hg_G X l room_1 D 8 (lw_W G w o a ca S v M) 233 [(0, va_rf (some sb)), (1, va_rf (some ox)), (2, va_rf (some o)), (3, va_rf (some w)), (4, .int i)] [] := by
  delta lw_t1 at h
  refine hg_aloadn (pc := 233) (j := 1) (i := 1) (r := (some ox)) hC 1 rfl rfl (show decode code 233 = .ok (.aload_n 1, 1) by decide +kernel) ?_
  refine hg_aloadn (pc := 234) (j := 0) (i := 0) (r := (some sb)) hC 0 rfl rfl (show decode code 234 = .ok (.aload_n 0, 1) by decide +kernel) ?_
  refine hg_iload (pc := 235) (i := 4) hC 4 rfl (show decode code 235 = .ok (.iload 4, 2) by decide +kernel) ?_
  refine hg_iconst (pc := 237) (v := 1) hC (show decode code 237 = .ok (.iconst 1, 1) by decide +kernel) (by decide +kernel) ?_
  refine hg_iadd (pc := 238) hC (show decode code 238 = .ok (.iadd, 1) by decide +kernel) ?_
  refine lw_sld (pc := 239) hC hX (show decode code 239 = .ok (.iaload, 1) by decide +kernel) h ?_
  intro j1 h
  obtain ⟨b2, hb, h⟩ := dc_bind h
  obtain ⟨hb2, hv⟩ := hg_chk_of (C := R_SE) rfl hb
  have hbo : ox = b2 := Option.some.inj hb2
  subst hbo
  refine lw_ci (pc := 240) (b := ox) (As := [.int (xs j1)]) (rest := []) (vo := fun q => q.2) (so := fun q => q.1) hC cw_SignalEngineLaw_54 (fun q hq => hm_SE_end_ok l D G S ox (xs j1) q hq) (Nat.le_of_ble_eq_true rfl) (Nat.le_of_ble_eq_true rfl) hv rfl (Nat.le_of_ble_eq_true rfl) (show decode code 240 = .ok (.invokevirtual 54, 3) by decide +kernel) h ?_
  intro q3 h
  refine hg_aloadn (pc := 243) (j := 2) (i := 2) (r := (some o)) hC 2 rfl rfl (show decode code 243 = .ok (.aload_n 2, 1) by decide +kernel) ?_
  refine hg_aloadn (pc := 244) (j := 0) (i := 0) (r := (some sb)) hC 0 rfl rfl (show decode code 244 = .ok (.aload_n 0, 1) by decide +kernel) ?_
  refine hg_iload (pc := 245) (i := 4) hC 4 rfl (show decode code 245 = .ok (.iload 4, 2) by decide +kernel) ?_
  refine hg_iconst (pc := 247) (v := 1) hC (show decode code 247 = .ok (.iconst 1, 1) by decide +kernel) (by decide +kernel) ?_
  refine hg_iadd (pc := 248) hC (show decode code 248 = .ok (.iadd, 1) by decide +kernel) ?_
  refine lw_sld (pc := 249) hC hX (show decode code 249 = .ok (.iaload, 1) by decide +kernel) h ?_
  intro j4 h
  refine lw_mi (pc := 250) (As := [.int (xs j4)]) (rest := [.int q3.2]) (rv := fun q => q.2) (sv := fun q => q.1) hC hKm cw_SignalEngineLaw_57 (fun F2 h2 => mm_end_ok l D G.2.1 G.2.2.1 o a ca M (xs j4) F2 h2) (Nat.le_of_ble_eq_true rfl) (Nat.le_of_ble_eq_true rfl) rfl rfl (Nat.le_of_ble_eq_true rfl) (show decode code 250 = .ok (.invokevirtual 57, 3) by decide +kernel) h ?_
  intro q5 h
  refine hg_icmp_eq (pc := 253) (tgt := 1140) hC (show decode code 253 = .ok (.if_icmp .eq 887, 3) by decide +kernel) (by decide +kernel) h ?_ ?_
  · intro h
    exact lab (q3.1, v, q5.1) (dc_some h)
  · intro h
    exact (dc_not h).elim
noncomputable def lw_t2 (G : hg_E) (xs : Nat → Int32) (L ox : Nat) (S : hg_S) (v : Int64) (M : md_S) (i : Int32) : Option (hg_S × Int64 × md_S) :=
  (hg_chk S (some ox) 0).bind fun b1 => (hm_SE_read G S ox).bind fun q2 => (mm_read M).bind fun q3 => if q2.2 = q3.2 then (some (q2.1, v, q3.1)) else (none)
set_option maxHeartbeats 4000000 in
set_option maxRecDepth 100000 in
theorem lw_c2 {X : dc_X} {l : Launch} (hlt : l.stackTraces = false) {D : va_G} {G : hg_E} {w o ox sb L : Nat} {a : Nat → Nat} {ca : Nat → ClassId} {xs : Nat → Int32} (hC : hg_K X D G code 8 "SignalEngineLaw") (hKm : hl_KM X D (md_T ca)) (hX : lw_X X sb L xs) (hN : hl_N X) (S : hg_S) (v : Int64) (M : md_S) (i : Int32) (F : hg_S × Int64 × md_S → Prop) (lab : ∀ q, F q → hg_G X l room_1 D 8 (lw_W G w o a ca q.1 q.2.1 q.2.2) 1140 [(0, va_rf (some sb)), (1, va_rf (some ox)), (2, va_rf (some o)), (3, va_rf (some w)), (4, .int i)] []) (h : dc_wp (lw_t2 G xs L ox S v M i) F) : hg_G X l room_1 D 8 (lw_W G w o a ca S v M) 258 [(0, va_rf (some sb)), (1, va_rf (some ox)), (2, va_rf (some o)), (3, va_rf (some w)), (4, .int i)] [] := by
  delta lw_t2 at h
  refine hg_aloadn (pc := 258) (j := 1) (i := 1) (r := (some ox)) hC 1 rfl rfl (show decode code 258 = .ok (.aload_n 1, 1) by decide +kernel) ?_
  obtain ⟨b1, hb, h⟩ := dc_bind h
  obtain ⟨hb2, hv⟩ := hg_chk_of (C := R_SE) rfl hb
  have hbo : ox = b1 := Option.some.inj hb2
  subst hbo
  refine lw_ci (pc := 259) (b := ox) (As := []) (rest := []) (vo := fun q => q.2) (so := fun q => q.1) hC cw_SignalEngineLaw_58 (fun q hq => hm_SE_read_ok l hlt D G S ox q hq) (Nat.le_of_ble_eq_true rfl) (Nat.le_of_ble_eq_true rfl) hv rfl (Nat.le_of_ble_eq_true rfl) (show decode code 259 = .ok (.invokevirtual 58, 3) by decide +kernel) h ?_
  intro q2 h
  refine hg_aloadn (pc := 262) (j := 2) (i := 2) (r := (some o)) hC 2 rfl rfl (show decode code 262 = .ok (.aload_n 2, 1) by decide +kernel) ?_
  refine lw_mi (pc := 263) (As := []) (rest := [.int q2.2]) (rv := fun q => q.2) (sv := fun q => q.1) hC hKm cw_SignalEngineLaw_61 (fun F2 h2 => mm_read_ok l D G.2.1 G.2.2.1 o a ca M F2 h2) (Nat.le_of_ble_eq_true rfl) (Nat.le_of_ble_eq_true rfl) rfl rfl (Nat.le_of_ble_eq_true rfl) (show decode code 263 = .ok (.invokevirtual 61, 3) by decide +kernel) h ?_
  intro q3 h
  refine hg_icmp_eq (pc := 266) (tgt := 1140) hC (show decode code 266 = .ok (.if_icmp .eq 874, 3) by decide +kernel) (by decide +kernel) h ?_ ?_
  · intro h
    exact lab (q2.1, v, q3.1) (dc_some h)
  · intro h
    exact (dc_not h).elim
noncomputable def lw_t3 (G : hg_E) (xs : Nat → Int32) (L ox : Nat) (S : hg_S) (v : Int64) (M : md_S) (i : Int32) : Option (hg_S × Int64 × md_S) :=
  (dc_ix (i + 1) L).bind fun j1 => (dc_ix (i + 2) L).bind fun j2 => (hg_chk S (some ox) 0).bind fun b3 => (hm_SE_node G S ox (xs j1) (xs j2)).bind fun q4 => (dc_ix (i + 1) L).bind fun j5 => (dc_ix (i + 2) L).bind fun j6 => (mm_node_II M (xs j5) (xs j6)).bind fun q7 => if q4 = q7.2 then (some (S, v, q7.1)) else (none)
set_option maxHeartbeats 4000000 in
set_option maxRecDepth 100000 in
theorem lw_c3 {X : dc_X} {l : Launch} (hlt : l.stackTraces = false) {D : va_G} {G : hg_E} {w o ox sb L : Nat} {a : Nat → Nat} {ca : Nat → ClassId} {xs : Nat → Int32} (hC : hg_K X D G code 8 "SignalEngineLaw") (hKm : hl_KM X D (md_T ca)) (hX : lw_X X sb L xs) (hN : hl_N X) (S : hg_S) (v : Int64) (M : md_S) (i : Int32) (F : hg_S × Int64 × md_S → Prop) (lab : ∀ q, F q → hg_G X l room_1 D 8 (lw_W G w o a ca q.1 q.2.1 q.2.2) 1140 [(0, va_rf (some sb)), (1, va_rf (some ox)), (2, va_rf (some o)), (3, va_rf (some w)), (4, .int i)] []) (h : dc_wp (lw_t3 G xs L ox S v M i) F) : hg_G X l room_1 D 8 (lw_W G w o a ca S v M) 271 [(0, va_rf (some sb)), (1, va_rf (some ox)), (2, va_rf (some o)), (3, va_rf (some w)), (4, .int i)] [] := by
  delta lw_t3 at h
  refine hg_aloadn (pc := 271) (j := 1) (i := 1) (r := (some ox)) hC 1 rfl rfl (show decode code 271 = .ok (.aload_n 1, 1) by decide +kernel) ?_
  refine hg_aloadn (pc := 272) (j := 0) (i := 0) (r := (some sb)) hC 0 rfl rfl (show decode code 272 = .ok (.aload_n 0, 1) by decide +kernel) ?_
  refine hg_iload (pc := 273) (i := 4) hC 4 rfl (show decode code 273 = .ok (.iload 4, 2) by decide +kernel) ?_
  refine hg_iconst (pc := 275) (v := 1) hC (show decode code 275 = .ok (.iconst 1, 1) by decide +kernel) (by decide +kernel) ?_
  refine hg_iadd (pc := 276) hC (show decode code 276 = .ok (.iadd, 1) by decide +kernel) ?_
  refine lw_sld (pc := 277) hC hX (show decode code 277 = .ok (.iaload, 1) by decide +kernel) h ?_
  intro j1 h
  refine hg_aloadn (pc := 278) (j := 0) (i := 0) (r := (some sb)) hC 0 rfl rfl (show decode code 278 = .ok (.aload_n 0, 1) by decide +kernel) ?_
  refine hg_iload (pc := 279) (i := 4) hC 4 rfl (show decode code 279 = .ok (.iload 4, 2) by decide +kernel) ?_
  refine hg_iconst (pc := 281) (v := 2) hC (show decode code 281 = .ok (.iconst 2, 1) by decide +kernel) (by decide +kernel) ?_
  refine hg_iadd (pc := 282) hC (show decode code 282 = .ok (.iadd, 1) by decide +kernel) ?_
  refine lw_sld (pc := 283) hC hX (show decode code 283 = .ok (.iaload, 1) by decide +kernel) h ?_
  intro j2 h
  obtain ⟨b3, hb, h⟩ := dc_bind h
  obtain ⟨hb2, hv⟩ := hg_chk_of (C := R_SE) rfl hb
  have hbo : ox = b3 := Option.some.inj hb2
  subst hbo
  refine lw_ci (pc := 284) (b := ox) (As := [.int (xs j1), .int (xs j2)]) (rest := []) (vo := fun q => q) (so := fun q => S) hC cw_SignalEngineLaw_62 (fun q hq => hm_SE_node_ok l D G S ox (xs j1) (xs j2) q hq) (Nat.le_of_ble_eq_true rfl) (Nat.le_of_ble_eq_true rfl) hv rfl (Nat.le_of_ble_eq_true rfl) (show decode code 284 = .ok (.invokevirtual 62, 3) by decide +kernel) h ?_
  intro q4 h
  refine hg_aloadn (pc := 287) (j := 2) (i := 2) (r := (some o)) hC 2 rfl rfl (show decode code 287 = .ok (.aload_n 2, 1) by decide +kernel) ?_
  refine hg_aloadn (pc := 288) (j := 0) (i := 0) (r := (some sb)) hC 0 rfl rfl (show decode code 288 = .ok (.aload_n 0, 1) by decide +kernel) ?_
  refine hg_iload (pc := 289) (i := 4) hC 4 rfl (show decode code 289 = .ok (.iload 4, 2) by decide +kernel) ?_
  refine hg_iconst (pc := 291) (v := 1) hC (show decode code 291 = .ok (.iconst 1, 1) by decide +kernel) (by decide +kernel) ?_
  refine hg_iadd (pc := 292) hC (show decode code 292 = .ok (.iadd, 1) by decide +kernel) ?_
  refine lw_sld (pc := 293) hC hX (show decode code 293 = .ok (.iaload, 1) by decide +kernel) h ?_
  intro j5 h
  refine hg_aloadn (pc := 294) (j := 0) (i := 0) (r := (some sb)) hC 0 rfl rfl (show decode code 294 = .ok (.aload_n 0, 1) by decide +kernel) ?_
  refine hg_iload (pc := 295) (i := 4) hC 4 rfl (show decode code 295 = .ok (.iload 4, 2) by decide +kernel) ?_
  refine hg_iconst (pc := 297) (v := 2) hC (show decode code 297 = .ok (.iconst 2, 1) by decide +kernel) (by decide +kernel) ?_
  refine hg_iadd (pc := 298) hC (show decode code 298 = .ok (.iadd, 1) by decide +kernel) ?_
  refine lw_sld (pc := 299) hC hX (show decode code 299 = .ok (.iaload, 1) by decide +kernel) h ?_
  intro j6 h
  refine lw_mi (pc := 300) (As := [.int (xs j5), .int (xs j6)]) (rest := [.int q4]) (rv := fun q => q.2) (sv := fun q => q.1) hC hKm cw_SignalEngineLaw_65 (fun F2 h2 => mm_node_II_ok l D G.2.1 G.2.2.1 o a ca M (xs j5) (xs j6) F2 h2) (Nat.le_of_ble_eq_true rfl) (Nat.le_of_ble_eq_true rfl) rfl rfl (Nat.le_of_ble_eq_true rfl) (show decode code 300 = .ok (.invokevirtual 65, 3) by decide +kernel) h ?_
  intro q7 h
  refine hg_icmp_eq (pc := 303) (tgt := 1140) hC (show decode code 303 = .ok (.if_icmp .eq 837, 3) by decide +kernel) (by decide +kernel) h ?_ ?_
  · intro h
    exact lab (S, v, q7.1) (dc_some h)
  · intro h
    exact (dc_not h).elim
noncomputable def lw_t4 (G : hg_E) (xs : Nat → Int32) (L ox : Nat) (S : hg_S) (v : Int64) (M : md_S) (i : Int32) : Option (hg_S × Int64 × md_S) :=
  (dc_ix (i + 1) L).bind fun j1 => (dc_ix (i + 2) L).bind fun j2 => (hg_chk S (some ox) 0).bind fun b3 => (hm_SE_piece G S ox (xs j1) (xs j2)).bind fun q4 => (dc_ix (i + 1) L).bind fun j5 => (dc_ix (i + 2) L).bind fun j6 => (mm_piece_II M (xs j5) (xs j6)).bind fun q7 => if q4 = q7.2 then (some (S, v, q7.1)) else (none)
set_option maxHeartbeats 4000000 in
set_option maxRecDepth 100000 in
theorem lw_c4 {X : dc_X} {l : Launch} (hlt : l.stackTraces = false) {D : va_G} {G : hg_E} {w o ox sb L : Nat} {a : Nat → Nat} {ca : Nat → ClassId} {xs : Nat → Int32} (hC : hg_K X D G code 8 "SignalEngineLaw") (hKm : hl_KM X D (md_T ca)) (hX : lw_X X sb L xs) (hN : hl_N X) (S : hg_S) (v : Int64) (M : md_S) (i : Int32) (F : hg_S × Int64 × md_S → Prop) (lab : ∀ q, F q → hg_G X l room_1 D 8 (lw_W G w o a ca q.1 q.2.1 q.2.2) 1140 [(0, va_rf (some sb)), (1, va_rf (some ox)), (2, va_rf (some o)), (3, va_rf (some w)), (4, .int i)] []) (h : dc_wp (lw_t4 G xs L ox S v M i) F) : hg_G X l room_1 D 8 (lw_W G w o a ca S v M) 308 [(0, va_rf (some sb)), (1, va_rf (some ox)), (2, va_rf (some o)), (3, va_rf (some w)), (4, .int i)] [] := by
  delta lw_t4 at h
  refine hg_aloadn (pc := 308) (j := 1) (i := 1) (r := (some ox)) hC 1 rfl rfl (show decode code 308 = .ok (.aload_n 1, 1) by decide +kernel) ?_
  refine hg_aloadn (pc := 309) (j := 0) (i := 0) (r := (some sb)) hC 0 rfl rfl (show decode code 309 = .ok (.aload_n 0, 1) by decide +kernel) ?_
  refine hg_iload (pc := 310) (i := 4) hC 4 rfl (show decode code 310 = .ok (.iload 4, 2) by decide +kernel) ?_
  refine hg_iconst (pc := 312) (v := 1) hC (show decode code 312 = .ok (.iconst 1, 1) by decide +kernel) (by decide +kernel) ?_
  refine hg_iadd (pc := 313) hC (show decode code 313 = .ok (.iadd, 1) by decide +kernel) ?_
  refine lw_sld (pc := 314) hC hX (show decode code 314 = .ok (.iaload, 1) by decide +kernel) h ?_
  intro j1 h
  refine hg_aloadn (pc := 315) (j := 0) (i := 0) (r := (some sb)) hC 0 rfl rfl (show decode code 315 = .ok (.aload_n 0, 1) by decide +kernel) ?_
  refine hg_iload (pc := 316) (i := 4) hC 4 rfl (show decode code 316 = .ok (.iload 4, 2) by decide +kernel) ?_
  refine hg_iconst (pc := 318) (v := 2) hC (show decode code 318 = .ok (.iconst 2, 1) by decide +kernel) (by decide +kernel) ?_
  refine hg_iadd (pc := 319) hC (show decode code 319 = .ok (.iadd, 1) by decide +kernel) ?_
  refine lw_sld (pc := 320) hC hX (show decode code 320 = .ok (.iaload, 1) by decide +kernel) h ?_
  intro j2 h
  obtain ⟨b3, hb, h⟩ := dc_bind h
  obtain ⟨hb2, hv⟩ := hg_chk_of (C := R_SE) rfl hb
  have hbo : ox = b3 := Option.some.inj hb2
  subst hbo
  refine lw_ci (pc := 321) (b := ox) (As := [.int (xs j1), .int (xs j2)]) (rest := []) (vo := fun q => q) (so := fun q => S) hC cw_SignalEngineLaw_66 (fun q hq => hm_SE_piece_ok l D G S ox (xs j1) (xs j2) q hq) (Nat.le_of_ble_eq_true rfl) (Nat.le_of_ble_eq_true rfl) hv rfl (Nat.le_of_ble_eq_true rfl) (show decode code 321 = .ok (.invokevirtual 66, 3) by decide +kernel) h ?_
  intro q4 h
  refine hg_aloadn (pc := 324) (j := 2) (i := 2) (r := (some o)) hC 2 rfl rfl (show decode code 324 = .ok (.aload_n 2, 1) by decide +kernel) ?_
  refine hg_aloadn (pc := 325) (j := 0) (i := 0) (r := (some sb)) hC 0 rfl rfl (show decode code 325 = .ok (.aload_n 0, 1) by decide +kernel) ?_
  refine hg_iload (pc := 326) (i := 4) hC 4 rfl (show decode code 326 = .ok (.iload 4, 2) by decide +kernel) ?_
  refine hg_iconst (pc := 328) (v := 1) hC (show decode code 328 = .ok (.iconst 1, 1) by decide +kernel) (by decide +kernel) ?_
  refine hg_iadd (pc := 329) hC (show decode code 329 = .ok (.iadd, 1) by decide +kernel) ?_
  refine lw_sld (pc := 330) hC hX (show decode code 330 = .ok (.iaload, 1) by decide +kernel) h ?_
  intro j5 h
  refine hg_aloadn (pc := 331) (j := 0) (i := 0) (r := (some sb)) hC 0 rfl rfl (show decode code 331 = .ok (.aload_n 0, 1) by decide +kernel) ?_
  refine hg_iload (pc := 332) (i := 4) hC 4 rfl (show decode code 332 = .ok (.iload 4, 2) by decide +kernel) ?_
  refine hg_iconst (pc := 334) (v := 2) hC (show decode code 334 = .ok (.iconst 2, 1) by decide +kernel) (by decide +kernel) ?_
  refine hg_iadd (pc := 335) hC (show decode code 335 = .ok (.iadd, 1) by decide +kernel) ?_
  refine lw_sld (pc := 336) hC hX (show decode code 336 = .ok (.iaload, 1) by decide +kernel) h ?_
  intro j6 h
  refine lw_mi (pc := 337) (As := [.int (xs j5), .int (xs j6)]) (rest := [.int q4]) (rv := fun q => q.2) (sv := fun q => q.1) hC hKm cw_SignalEngineLaw_69 (fun F2 h2 => mm_piece_II_ok l D G.2.1 G.2.2.1 o a ca M (xs j5) (xs j6) F2 h2) (Nat.le_of_ble_eq_true rfl) (Nat.le_of_ble_eq_true rfl) rfl rfl (Nat.le_of_ble_eq_true rfl) (show decode code 337 = .ok (.invokevirtual 69, 3) by decide +kernel) h ?_
  intro q7 h
  refine hg_icmp_eq (pc := 340) (tgt := 1140) hC (show decode code 340 = .ok (.if_icmp .eq 800, 3) by decide +kernel) (by decide +kernel) h ?_ ?_
  · intro h
    exact lab (S, v, q7.1) (dc_some h)
  · intro h
    exact (dc_not h).elim
noncomputable def lw_t5 (G : hg_E) (xs : Nat → Int32) (L ox : Nat) (S : hg_S) (v : Int64) (M : md_S) (i : Int32) : Option (hg_S × Int64 × md_S) :=
  (dc_ix (i + 1) L).bind fun j1 => (dc_ix (i + 2) L).bind fun j2 => (hg_chk S (some ox) 0).bind fun b3 => (hm_SE_letter G S ox (xs j1) (xs j2)).bind fun q4 => (dc_ix (i + 1) L).bind fun j5 => (dc_ix (i + 2) L).bind fun j6 => (mm_letter_II M (xs j5) (xs j6)).bind fun q7 => if q4 = q7.2 then (some (S, v, q7.1)) else (none)
set_option maxHeartbeats 4000000 in
set_option maxRecDepth 100000 in
theorem lw_c5 {X : dc_X} {l : Launch} (hlt : l.stackTraces = false) {D : va_G} {G : hg_E} {w o ox sb L : Nat} {a : Nat → Nat} {ca : Nat → ClassId} {xs : Nat → Int32} (hC : hg_K X D G code 8 "SignalEngineLaw") (hKm : hl_KM X D (md_T ca)) (hX : lw_X X sb L xs) (hN : hl_N X) (S : hg_S) (v : Int64) (M : md_S) (i : Int32) (F : hg_S × Int64 × md_S → Prop) (lab : ∀ q, F q → hg_G X l room_1 D 8 (lw_W G w o a ca q.1 q.2.1 q.2.2) 1140 [(0, va_rf (some sb)), (1, va_rf (some ox)), (2, va_rf (some o)), (3, va_rf (some w)), (4, .int i)] []) (h : dc_wp (lw_t5 G xs L ox S v M i) F) : hg_G X l room_1 D 8 (lw_W G w o a ca S v M) 345 [(0, va_rf (some sb)), (1, va_rf (some ox)), (2, va_rf (some o)), (3, va_rf (some w)), (4, .int i)] [] := by
  delta lw_t5 at h
  refine hg_aloadn (pc := 345) (j := 1) (i := 1) (r := (some ox)) hC 1 rfl rfl (show decode code 345 = .ok (.aload_n 1, 1) by decide +kernel) ?_
  refine hg_aloadn (pc := 346) (j := 0) (i := 0) (r := (some sb)) hC 0 rfl rfl (show decode code 346 = .ok (.aload_n 0, 1) by decide +kernel) ?_
  refine hg_iload (pc := 347) (i := 4) hC 4 rfl (show decode code 347 = .ok (.iload 4, 2) by decide +kernel) ?_
  refine hg_iconst (pc := 349) (v := 1) hC (show decode code 349 = .ok (.iconst 1, 1) by decide +kernel) (by decide +kernel) ?_
  refine hg_iadd (pc := 350) hC (show decode code 350 = .ok (.iadd, 1) by decide +kernel) ?_
  refine lw_sld (pc := 351) hC hX (show decode code 351 = .ok (.iaload, 1) by decide +kernel) h ?_
  intro j1 h
  refine hg_aloadn (pc := 352) (j := 0) (i := 0) (r := (some sb)) hC 0 rfl rfl (show decode code 352 = .ok (.aload_n 0, 1) by decide +kernel) ?_
  refine hg_iload (pc := 353) (i := 4) hC 4 rfl (show decode code 353 = .ok (.iload 4, 2) by decide +kernel) ?_
  refine hg_iconst (pc := 355) (v := 2) hC (show decode code 355 = .ok (.iconst 2, 1) by decide +kernel) (by decide +kernel) ?_
  refine hg_iadd (pc := 356) hC (show decode code 356 = .ok (.iadd, 1) by decide +kernel) ?_
  refine lw_sld (pc := 357) hC hX (show decode code 357 = .ok (.iaload, 1) by decide +kernel) h ?_
  intro j2 h
  obtain ⟨b3, hb, h⟩ := dc_bind h
  obtain ⟨hb2, hv⟩ := hg_chk_of (C := R_SE) rfl hb
  have hbo : ox = b3 := Option.some.inj hb2
  subst hbo
  refine lw_ci (pc := 358) (b := ox) (As := [.int (xs j1), .int (xs j2)]) (rest := []) (vo := fun q => q) (so := fun q => S) hC cw_SignalEngineLaw_70 (fun q hq => hm_SE_letter_ok l D G S ox (xs j1) (xs j2) q hq) (Nat.le_of_ble_eq_true rfl) (Nat.le_of_ble_eq_true rfl) hv rfl (Nat.le_of_ble_eq_true rfl) (show decode code 358 = .ok (.invokevirtual 70, 3) by decide +kernel) h ?_
  intro q4 h
  refine hg_aloadn (pc := 361) (j := 2) (i := 2) (r := (some o)) hC 2 rfl rfl (show decode code 361 = .ok (.aload_n 2, 1) by decide +kernel) ?_
  refine hg_aloadn (pc := 362) (j := 0) (i := 0) (r := (some sb)) hC 0 rfl rfl (show decode code 362 = .ok (.aload_n 0, 1) by decide +kernel) ?_
  refine hg_iload (pc := 363) (i := 4) hC 4 rfl (show decode code 363 = .ok (.iload 4, 2) by decide +kernel) ?_
  refine hg_iconst (pc := 365) (v := 1) hC (show decode code 365 = .ok (.iconst 1, 1) by decide +kernel) (by decide +kernel) ?_
  refine hg_iadd (pc := 366) hC (show decode code 366 = .ok (.iadd, 1) by decide +kernel) ?_
  refine lw_sld (pc := 367) hC hX (show decode code 367 = .ok (.iaload, 1) by decide +kernel) h ?_
  intro j5 h
  refine hg_aloadn (pc := 368) (j := 0) (i := 0) (r := (some sb)) hC 0 rfl rfl (show decode code 368 = .ok (.aload_n 0, 1) by decide +kernel) ?_
  refine hg_iload (pc := 369) (i := 4) hC 4 rfl (show decode code 369 = .ok (.iload 4, 2) by decide +kernel) ?_
  refine hg_iconst (pc := 371) (v := 2) hC (show decode code 371 = .ok (.iconst 2, 1) by decide +kernel) (by decide +kernel) ?_
  refine hg_iadd (pc := 372) hC (show decode code 372 = .ok (.iadd, 1) by decide +kernel) ?_
  refine lw_sld (pc := 373) hC hX (show decode code 373 = .ok (.iaload, 1) by decide +kernel) h ?_
  intro j6 h
  refine lw_mi (pc := 374) (As := [.int (xs j5), .int (xs j6)]) (rest := [.int q4]) (rv := fun q => q.2) (sv := fun q => q.1) hC hKm cw_SignalEngineLaw_73 (fun F2 h2 => mm_letter_II_ok l D G.2.1 G.2.2.1 o a ca M (xs j5) (xs j6) F2 h2) (Nat.le_of_ble_eq_true rfl) (Nat.le_of_ble_eq_true rfl) rfl rfl (Nat.le_of_ble_eq_true rfl) (show decode code 374 = .ok (.invokevirtual 73, 3) by decide +kernel) h ?_
  intro q7 h
  refine hg_icmp_eq (pc := 377) (tgt := 1140) hC (show decode code 377 = .ok (.if_icmp .eq 763, 3) by decide +kernel) (by decide +kernel) h ?_ ?_
  · intro h
    exact lab (S, v, q7.1) (dc_some h)
  · intro h
    exact (dc_not h).elim
noncomputable def lw_t6 (G : hg_E) (xs : Nat → Int32) (L ox : Nat) (S : hg_S) (v : Int64) (M : md_S) (i : Int32) : Option (hg_S × Int64 × md_S) :=
  (hl_restart G S ox v).bind fun q1 => (mm_restart M).bind fun q2 => (mm_thrown q2.1).bind fun q3 => if q3 = q1.2.2 then (if q1.2.2 = 0 then (if (dc_cmp q1.2.1 (Int32.toInt64 q2.2)) = 0 then (some (q1.1, q1.2.1, q2.1)) else (none)) else (some (q1.1, q1.2.1, q2.1))) else (none)
set_option maxHeartbeats 4000000 in
set_option maxRecDepth 100000 in
theorem lw_c6 {X : dc_X} {l : Launch} (hlt : l.stackTraces = false) {D : va_G} {G : hg_E} {w o ox sb L : Nat} {a : Nat → Nat} {ca : Nat → ClassId} {xs : Nat → Int32} (hC : hg_K X D G code 8 "SignalEngineLaw") (hKm : hl_KM X D (md_T ca)) (hX : lw_X X sb L xs) (hN : hl_N X) (S : hg_S) (v : Int64) (M : md_S) (i : Int32) (F : hg_S × Int64 × md_S → Prop) (lab : ∀ q, F q → hg_G X l room_1 D 8 (lw_W G w o a ca q.1 q.2.1 q.2.2) 1140 [(0, va_rf (some sb)), (1, va_rf (some ox)), (2, va_rf (some o)), (3, va_rf (some w)), (4, .int i)] []) (h : dc_wp (lw_t6 G xs L ox S v M i) F) : hg_G X l room_1 D 8 (lw_W G w o a ca S v M) 382 [(0, va_rf (some sb)), (1, va_rf (some ox)), (2, va_rf (some o)), (3, va_rf (some w)), (4, .int i)] [] := by
  delta lw_t6 at h
  refine hg_aloadn (pc := 382) (j := 1) (i := 1) (r := (some ox)) hC 1 rfl rfl (show decode code 382 = .ok (.aload_n 1, 1) by decide +kernel) ?_
  refine hg_aloadn (pc := 383) (j := 3) (i := 3) (r := (some w)) hC 3 rfl rfl (show decode code 383 = .ok (.aload_n 3, 1) by decide +kernel) ?_
  obtain ⟨q1, hq, h⟩ := dc_bind h
  refine hl_w lw_W3 (hl_kS (pc := 384) (As := [.ref ox, .ref w]) (rest := []) (S := (S.1 ++ [lw_o G w v], S.2)) (u := (q1.1.1 ++ [lw_o G w q1.2.1], q1.1.2)) (k := q1.2.2) hC hN cl_74 (hl_restart_ok l hlt D G S ox w v q1 hq) (Nat.le_of_ble_eq_true rfl) (Nat.le_of_ble_eq_true rfl) rfl (Nat.le_of_ble_eq_true rfl) (show decode code 384 = .ok (.invokestatic 74, 3) by decide +kernel) ?_)
  refine hl_w lw_W3.symm ?_
  show hg_G X l room_1 D 8 (lw_W G w o a ca q1.1 q1.2.1 M) 387 [(0, va_rf (some sb)), (1, va_rf (some ox)), (2, va_rf (some o)), (3, va_rf (some w)), (4, .int i)] [.int q1.2.2]
  refine hg_istore (pc := 387) (i := 5) (lv' := [(5, .int q1.2.2), (0, va_rf (some sb)), (1, va_rf (some ox)), (2, va_rf (some o)), (3, va_rf (some w)), (4, .int i)]) hC (Nat.le_of_ble_eq_true rfl) rfl (show decode code 387 = .ok (.istore 5, 2) by decide +kernel) ?_
  refine hg_aloadn (pc := 389) (j := 2) (i := 2) (r := (some o)) hC 3 rfl rfl (show decode code 389 = .ok (.aload_n 2, 1) by decide +kernel) ?_
  refine lw_mi (pc := 390) (As := []) (rest := []) (rv := fun q => q.2) (sv := fun q => q.1) hC hKm cw_SignalEngineLaw_79 (fun F2 h2 => mm_restart_ok l D G.2.1 G.2.2.1 o a ca M F2 h2) (Nat.le_of_ble_eq_true rfl) (Nat.le_of_ble_eq_true rfl) rfl rfl (Nat.le_of_ble_eq_true rfl) (show decode code 390 = .ok (.invokevirtual 79, 3) by decide +kernel) h ?_
  intro q2 h
  refine hg_istore (pc := 393) (i := 6) (lv' := [(6, .int q2.2), (5, .int q1.2.2), (0, va_rf (some sb)), (1, va_rf (some ox)), (2, va_rf (some o)), (3, va_rf (some w)), (4, .int i)]) hC (Nat.le_of_ble_eq_true rfl) rfl (show decode code 393 = .ok (.istore 6, 2) by decide +kernel) ?_
  refine hg_aloadn (pc := 395) (j := 2) (i := 2) (r := (some o)) hC 4 rfl rfl (show decode code 395 = .ok (.aload_n 2, 1) by decide +kernel) ?_
  refine lw_mi (pc := 396) (As := []) (rest := []) (rv := fun q => q) (sv := fun q => q2.1) hC hKm cw_SignalEngineLaw_80 (fun F2 h2 => mm_thrown_ok l D G.2.1 G.2.2.1 o a ca q2.1 F2 h2) (Nat.le_of_ble_eq_true rfl) (Nat.le_of_ble_eq_true rfl) rfl rfl (Nat.le_of_ble_eq_true rfl) (show decode code 396 = .ok (.invokevirtual 80, 3) by decide +kernel) h ?_
  intro q3 h
  refine hg_iload (pc := 399) (i := 5) hC 1 rfl (show decode code 399 = .ok (.iload 5, 2) by decide +kernel) ?_
  refine hg_icmp_eq (pc := 401) (tgt := 406) hC (show decode code 401 = .ok (.if_icmp .eq 5, 3) by decide +kernel) (by decide +kernel) h ?_ ?_
  · intro h
    refine hg_iload (pc := 406) (i := 5) hC 1 rfl (show decode code 406 = .ok (.iload 5, 2) by decide +kernel) ?_
    refine hg_if_ne (pc := 408) (tgt := 423) hC (show decode code 408 = .ok (.ifCond .ne 15, 3) by decide +kernel) (by decide +kernel) h ?_ ?_
    · intro h
      refine hg_aloadn (pc := 411) (j := 3) (i := 3) (r := (some w)) hC 5 rfl rfl (show decode code 411 = .ok (.aload_n 3, 1) by decide +kernel) ?_
      refine hg_iconst (pc := 412) (v := 0) hC (show decode code 412 = .ok (.iconst 0, 1) by decide +kernel) (by decide +kernel) ?_
      refine lw_lald (pc := 413) hC (show decode code 413 = .ok (.laload, 1) by decide +kernel) ?_
      refine hg_iload (pc := 414) (i := 6) hC 0 rfl (show decode code 414 = .ok (.iload 6, 2) by decide +kernel) ?_
      refine hg_i2l (pc := 416) hC (show decode code 416 = .ok (.i2l, 1) by decide +kernel) ?_
      refine hg_lcmp (pc := 417) hC (show decode code 417 = .ok (.lcmp, 1) by decide +kernel) ?_
      refine hg_if_eq (pc := 418) (tgt := 423) hC (show decode code 418 = .ok (.ifCond .eq 5, 3) by decide +kernel) (by decide +kernel) h ?_ ?_
      · intro h
        refine hg_goto (pc := 423) (tgt := 1140) hC (show decode code 423 = .ok (.goto 717, 3) by decide +kernel) (by decide +kernel) ?_
        exact hg_sub [2, 3, 4, 5, 6] rfl (lab (q1.1, q1.2.1, q2.1) (dc_some h))
      · intro h
        exact (dc_not h).elim
    · intro h
      refine hg_goto (pc := 423) (tgt := 1140) hC (show decode code 423 = .ok (.goto 717, 3) by decide +kernel) (by decide +kernel) ?_
      exact hg_sub [2, 3, 4, 5, 6] rfl (lab (q1.1, q1.2.1, q2.1) (dc_some h))
  · intro h
    exact (dc_not h).elim
noncomputable def lw_t7 (G : hg_E) (xs : Nat → Int32) (L ox : Nat) (S : hg_S) (v : Int64) (M : md_S) (i : Int32) : Option (hg_S × Int64 × md_S) :=
  (dc_ix (i + 1) L).bind fun j1 => (hl_instant G S ox (xs j1) v).bind fun q2 => (dc_ix (i + 1) L).bind fun j3 => (mm_instant M (xs j3)).bind fun q4 => (mm_thrown q4.1).bind fun q5 => if q5 = q2.2.2 then (if q2.2.2 = 0 then (if (dc_cmp q2.2.1 (Int32.toInt64 q4.2)) = 0 then (some (q2.1, q2.2.1, q4.1)) else (none)) else (some (q2.1, q2.2.1, q4.1))) else (none)
set_option maxHeartbeats 4000000 in
set_option maxRecDepth 100000 in
theorem lw_c7 {X : dc_X} {l : Launch} (hlt : l.stackTraces = false) {D : va_G} {G : hg_E} {w o ox sb L : Nat} {a : Nat → Nat} {ca : Nat → ClassId} {xs : Nat → Int32} (hC : hg_K X D G code 8 "SignalEngineLaw") (hKm : hl_KM X D (md_T ca)) (hX : lw_X X sb L xs) (hN : hl_N X) (S : hg_S) (v : Int64) (M : md_S) (i : Int32) (F : hg_S × Int64 × md_S → Prop) (lab : ∀ q, F q → hg_G X l room_1 D 8 (lw_W G w o a ca q.1 q.2.1 q.2.2) 1140 [(0, va_rf (some sb)), (1, va_rf (some ox)), (2, va_rf (some o)), (3, va_rf (some w)), (4, .int i)] []) (h : dc_wp (lw_t7 G xs L ox S v M i) F) : hg_G X l room_1 D 8 (lw_W G w o a ca S v M) 426 [(0, va_rf (some sb)), (1, va_rf (some ox)), (2, va_rf (some o)), (3, va_rf (some w)), (4, .int i)] [] := by
  delta lw_t7 at h
  refine hg_aloadn (pc := 426) (j := 1) (i := 1) (r := (some ox)) hC 1 rfl rfl (show decode code 426 = .ok (.aload_n 1, 1) by decide +kernel) ?_
  refine hg_aloadn (pc := 427) (j := 0) (i := 0) (r := (some sb)) hC 0 rfl rfl (show decode code 427 = .ok (.aload_n 0, 1) by decide +kernel) ?_
  refine hg_iload (pc := 428) (i := 4) hC 4 rfl (show decode code 428 = .ok (.iload 4, 2) by decide +kernel) ?_
  refine hg_iconst (pc := 430) (v := 1) hC (show decode code 430 = .ok (.iconst 1, 1) by decide +kernel) (by decide +kernel) ?_
  refine hg_iadd (pc := 431) hC (show decode code 431 = .ok (.iadd, 1) by decide +kernel) ?_
  refine lw_sld (pc := 432) hC hX (show decode code 432 = .ok (.iaload, 1) by decide +kernel) h ?_
  intro j1 h
  refine hg_aloadn (pc := 433) (j := 3) (i := 3) (r := (some w)) hC 3 rfl rfl (show decode code 433 = .ok (.aload_n 3, 1) by decide +kernel) ?_
  obtain ⟨q2, hq, h⟩ := dc_bind h
  refine hl_w lw_W3 (hl_kS (pc := 434) (As := [.ref ox, .int (xs j1), .ref w]) (rest := []) (S := (S.1 ++ [lw_o G w v], S.2)) (u := (q2.1.1 ++ [lw_o G w q2.2.1], q2.1.2)) (k := q2.2.2) hC hN cl_83 (hl_instant_ok l hlt D G S ox w (xs j1) v q2 hq) (Nat.le_of_ble_eq_true rfl) (Nat.le_of_ble_eq_true rfl) rfl (Nat.le_of_ble_eq_true rfl) (show decode code 434 = .ok (.invokestatic 83, 3) by decide +kernel) ?_)
  refine hl_w lw_W3.symm ?_
  show hg_G X l room_1 D 8 (lw_W G w o a ca q2.1 q2.2.1 M) 437 [(0, va_rf (some sb)), (1, va_rf (some ox)), (2, va_rf (some o)), (3, va_rf (some w)), (4, .int i)] [.int q2.2.2]
  refine hg_istore (pc := 437) (i := 5) (lv' := [(5, .int q2.2.2), (0, va_rf (some sb)), (1, va_rf (some ox)), (2, va_rf (some o)), (3, va_rf (some w)), (4, .int i)]) hC (Nat.le_of_ble_eq_true rfl) rfl (show decode code 437 = .ok (.istore 5, 2) by decide +kernel) ?_
  refine hg_aloadn (pc := 439) (j := 2) (i := 2) (r := (some o)) hC 3 rfl rfl (show decode code 439 = .ok (.aload_n 2, 1) by decide +kernel) ?_
  refine hg_aloadn (pc := 440) (j := 0) (i := 0) (r := (some sb)) hC 1 rfl rfl (show decode code 440 = .ok (.aload_n 0, 1) by decide +kernel) ?_
  refine hg_iload (pc := 441) (i := 4) hC 5 rfl (show decode code 441 = .ok (.iload 4, 2) by decide +kernel) ?_
  refine hg_iconst (pc := 443) (v := 1) hC (show decode code 443 = .ok (.iconst 1, 1) by decide +kernel) (by decide +kernel) ?_
  refine hg_iadd (pc := 444) hC (show decode code 444 = .ok (.iadd, 1) by decide +kernel) ?_
  refine lw_sld (pc := 445) hC hX (show decode code 445 = .ok (.iaload, 1) by decide +kernel) h ?_
  intro j3 h
  refine lw_mi (pc := 446) (As := [.int (xs j3)]) (rest := []) (rv := fun q => q.2) (sv := fun q => q.1) hC hKm cw_SignalEngineLaw_86 (fun F2 h2 => mm_instant_ok l D G.2.1 G.2.2.1 o a ca M (xs j3) F2 h2) (Nat.le_of_ble_eq_true rfl) (Nat.le_of_ble_eq_true rfl) rfl rfl (Nat.le_of_ble_eq_true rfl) (show decode code 446 = .ok (.invokevirtual 86, 3) by decide +kernel) h ?_
  intro q4 h
  refine hg_istore (pc := 449) (i := 6) (lv' := [(6, .int q4.2), (5, .int q2.2.2), (0, va_rf (some sb)), (1, va_rf (some ox)), (2, va_rf (some o)), (3, va_rf (some w)), (4, .int i)]) hC (Nat.le_of_ble_eq_true rfl) rfl (show decode code 449 = .ok (.istore 6, 2) by decide +kernel) ?_
  refine hg_aloadn (pc := 451) (j := 2) (i := 2) (r := (some o)) hC 4 rfl rfl (show decode code 451 = .ok (.aload_n 2, 1) by decide +kernel) ?_
  refine lw_mi (pc := 452) (As := []) (rest := []) (rv := fun q => q) (sv := fun q => q4.1) hC hKm cw_SignalEngineLaw_80 (fun F2 h2 => mm_thrown_ok l D G.2.1 G.2.2.1 o a ca q4.1 F2 h2) (Nat.le_of_ble_eq_true rfl) (Nat.le_of_ble_eq_true rfl) rfl rfl (Nat.le_of_ble_eq_true rfl) (show decode code 452 = .ok (.invokevirtual 80, 3) by decide +kernel) h ?_
  intro q5 h
  refine hg_iload (pc := 455) (i := 5) hC 1 rfl (show decode code 455 = .ok (.iload 5, 2) by decide +kernel) ?_
  refine hg_icmp_eq (pc := 457) (tgt := 462) hC (show decode code 457 = .ok (.if_icmp .eq 5, 3) by decide +kernel) (by decide +kernel) h ?_ ?_
  · intro h
    refine hg_iload (pc := 462) (i := 5) hC 1 rfl (show decode code 462 = .ok (.iload 5, 2) by decide +kernel) ?_
    refine hg_if_ne (pc := 464) (tgt := 479) hC (show decode code 464 = .ok (.ifCond .ne 15, 3) by decide +kernel) (by decide +kernel) h ?_ ?_
    · intro h
      refine hg_aloadn (pc := 467) (j := 3) (i := 3) (r := (some w)) hC 5 rfl rfl (show decode code 467 = .ok (.aload_n 3, 1) by decide +kernel) ?_
      refine hg_iconst (pc := 468) (v := 0) hC (show decode code 468 = .ok (.iconst 0, 1) by decide +kernel) (by decide +kernel) ?_
      refine lw_lald (pc := 469) hC (show decode code 469 = .ok (.laload, 1) by decide +kernel) ?_
      refine hg_iload (pc := 470) (i := 6) hC 0 rfl (show decode code 470 = .ok (.iload 6, 2) by decide +kernel) ?_
      refine hg_i2l (pc := 472) hC (show decode code 472 = .ok (.i2l, 1) by decide +kernel) ?_
      refine hg_lcmp (pc := 473) hC (show decode code 473 = .ok (.lcmp, 1) by decide +kernel) ?_
      refine hg_if_eq (pc := 474) (tgt := 479) hC (show decode code 474 = .ok (.ifCond .eq 5, 3) by decide +kernel) (by decide +kernel) h ?_ ?_
      · intro h
        refine hg_goto (pc := 479) (tgt := 1140) hC (show decode code 479 = .ok (.goto 661, 3) by decide +kernel) (by decide +kernel) ?_
        exact hg_sub [2, 3, 4, 5, 6] rfl (lab (q2.1, q2.2.1, q4.1) (dc_some h))
      · intro h
        exact (dc_not h).elim
    · intro h
      refine hg_goto (pc := 479) (tgt := 1140) hC (show decode code 479 = .ok (.goto 661, 3) by decide +kernel) (by decide +kernel) ?_
      exact hg_sub [2, 3, 4, 5, 6] rfl (lab (q2.1, q2.2.1, q4.1) (dc_some h))
  · intro h
    exact (dc_not h).elim
noncomputable def lw_t8 (G : hg_E) (xs : Nat → Int32) (L ox : Nat) (S : hg_S) (v : Int64) (M : md_S) (i : Int32) : Option (hg_S × Int64 × md_S) :=
  (dc_ix (i + 1) L).bind fun j1 => (hg_chk S (some ox) 0).bind fun b2 => (hm_SE_status G S ox (xs j1)).bind fun q3 => (dc_ix (i + 1) L).bind fun j4 => (mm_status M (xs j4)).bind fun q5 => if q3 = q5.2 then (some (S, v, q5.1)) else (none)
set_option maxHeartbeats 4000000 in
set_option maxRecDepth 100000 in
theorem lw_c8 {X : dc_X} {l : Launch} (hlt : l.stackTraces = false) {D : va_G} {G : hg_E} {w o ox sb L : Nat} {a : Nat → Nat} {ca : Nat → ClassId} {xs : Nat → Int32} (hC : hg_K X D G code 8 "SignalEngineLaw") (hKm : hl_KM X D (md_T ca)) (hX : lw_X X sb L xs) (hN : hl_N X) (S : hg_S) (v : Int64) (M : md_S) (i : Int32) (F : hg_S × Int64 × md_S → Prop) (lab : ∀ q, F q → hg_G X l room_1 D 8 (lw_W G w o a ca q.1 q.2.1 q.2.2) 1140 [(0, va_rf (some sb)), (1, va_rf (some ox)), (2, va_rf (some o)), (3, va_rf (some w)), (4, .int i)] []) (h : dc_wp (lw_t8 G xs L ox S v M i) F) : hg_G X l room_1 D 8 (lw_W G w o a ca S v M) 482 [(0, va_rf (some sb)), (1, va_rf (some ox)), (2, va_rf (some o)), (3, va_rf (some w)), (4, .int i)] [] := by
  delta lw_t8 at h
  refine hg_aloadn (pc := 482) (j := 1) (i := 1) (r := (some ox)) hC 1 rfl rfl (show decode code 482 = .ok (.aload_n 1, 1) by decide +kernel) ?_
  refine hg_aloadn (pc := 483) (j := 0) (i := 0) (r := (some sb)) hC 0 rfl rfl (show decode code 483 = .ok (.aload_n 0, 1) by decide +kernel) ?_
  refine hg_iload (pc := 484) (i := 4) hC 4 rfl (show decode code 484 = .ok (.iload 4, 2) by decide +kernel) ?_
  refine hg_iconst (pc := 486) (v := 1) hC (show decode code 486 = .ok (.iconst 1, 1) by decide +kernel) (by decide +kernel) ?_
  refine hg_iadd (pc := 487) hC (show decode code 487 = .ok (.iadd, 1) by decide +kernel) ?_
  refine lw_sld (pc := 488) hC hX (show decode code 488 = .ok (.iaload, 1) by decide +kernel) h ?_
  intro j1 h
  obtain ⟨b2, hb, h⟩ := dc_bind h
  obtain ⟨hb2, hv⟩ := hg_chk_of (C := R_SE) rfl hb
  have hbo : ox = b2 := Option.some.inj hb2
  subst hbo
  refine lw_ci (pc := 489) (b := ox) (As := [.int (xs j1)]) (rest := []) (vo := fun q => q) (so := fun q => S) hC cw_SignalEngineLaw_87 (fun q hq => hm_SE_status_ok l D G S ox (xs j1) q hq) (Nat.le_of_ble_eq_true rfl) (Nat.le_of_ble_eq_true rfl) hv rfl (Nat.le_of_ble_eq_true rfl) (show decode code 489 = .ok (.invokevirtual 87, 3) by decide +kernel) h ?_
  intro q3 h
  refine hg_aloadn (pc := 492) (j := 2) (i := 2) (r := (some o)) hC 2 rfl rfl (show decode code 492 = .ok (.aload_n 2, 1) by decide +kernel) ?_
  refine hg_aloadn (pc := 493) (j := 0) (i := 0) (r := (some sb)) hC 0 rfl rfl (show decode code 493 = .ok (.aload_n 0, 1) by decide +kernel) ?_
  refine hg_iload (pc := 494) (i := 4) hC 4 rfl (show decode code 494 = .ok (.iload 4, 2) by decide +kernel) ?_
  refine hg_iconst (pc := 496) (v := 1) hC (show decode code 496 = .ok (.iconst 1, 1) by decide +kernel) (by decide +kernel) ?_
  refine hg_iadd (pc := 497) hC (show decode code 497 = .ok (.iadd, 1) by decide +kernel) ?_
  refine lw_sld (pc := 498) hC hX (show decode code 498 = .ok (.iaload, 1) by decide +kernel) h ?_
  intro j4 h
  refine lw_mi (pc := 499) (As := [.int (xs j4)]) (rest := [.int q3]) (rv := fun q => q.2) (sv := fun q => q.1) hC hKm cw_SignalEngineLaw_90 (fun F2 h2 => mm_status_ok l D G.2.1 G.2.2.1 o a ca M (xs j4) F2 h2) (Nat.le_of_ble_eq_true rfl) (Nat.le_of_ble_eq_true rfl) rfl rfl (Nat.le_of_ble_eq_true rfl) (show decode code 499 = .ok (.invokevirtual 90, 3) by decide +kernel) h ?_
  intro q5 h
  refine hg_icmp_eq (pc := 502) (tgt := 1140) hC (show decode code 502 = .ok (.if_icmp .eq 638, 3) by decide +kernel) (by decide +kernel) h ?_ ?_
  · intro h
    exact lab (S, v, q5.1) (dc_some h)
  · intro h
    exact (dc_not h).elim
noncomputable def lw_t9 (G : hg_E) (xs : Nat → Int32) (L ox : Nat) (S : hg_S) (v : Int64) (M : md_S) (i : Int32) : Option (hg_S × Int64 × md_S) :=
  (dc_ix (i + 1) L).bind fun j1 => (hg_chk S (some ox) 0).bind fun b2 => (hm_SE_selected G S ox (xs j1)).bind fun q3 => (dc_ix (i + 1) L).bind fun j4 => (mm_selected M (xs j4)).bind fun q5 => if q3 = q5.2 then (some (S, v, q5.1)) else (none)
set_option maxHeartbeats 4000000 in
set_option maxRecDepth 100000 in
theorem lw_c9 {X : dc_X} {l : Launch} (hlt : l.stackTraces = false) {D : va_G} {G : hg_E} {w o ox sb L : Nat} {a : Nat → Nat} {ca : Nat → ClassId} {xs : Nat → Int32} (hC : hg_K X D G code 8 "SignalEngineLaw") (hKm : hl_KM X D (md_T ca)) (hX : lw_X X sb L xs) (hN : hl_N X) (S : hg_S) (v : Int64) (M : md_S) (i : Int32) (F : hg_S × Int64 × md_S → Prop) (lab : ∀ q, F q → hg_G X l room_1 D 8 (lw_W G w o a ca q.1 q.2.1 q.2.2) 1140 [(0, va_rf (some sb)), (1, va_rf (some ox)), (2, va_rf (some o)), (3, va_rf (some w)), (4, .int i)] []) (h : dc_wp (lw_t9 G xs L ox S v M i) F) : hg_G X l room_1 D 8 (lw_W G w o a ca S v M) 507 [(0, va_rf (some sb)), (1, va_rf (some ox)), (2, va_rf (some o)), (3, va_rf (some w)), (4, .int i)] [] := by
  delta lw_t9 at h
  refine hg_aloadn (pc := 507) (j := 1) (i := 1) (r := (some ox)) hC 1 rfl rfl (show decode code 507 = .ok (.aload_n 1, 1) by decide +kernel) ?_
  refine hg_aloadn (pc := 508) (j := 0) (i := 0) (r := (some sb)) hC 0 rfl rfl (show decode code 508 = .ok (.aload_n 0, 1) by decide +kernel) ?_
  refine hg_iload (pc := 509) (i := 4) hC 4 rfl (show decode code 509 = .ok (.iload 4, 2) by decide +kernel) ?_
  refine hg_iconst (pc := 511) (v := 1) hC (show decode code 511 = .ok (.iconst 1, 1) by decide +kernel) (by decide +kernel) ?_
  refine hg_iadd (pc := 512) hC (show decode code 512 = .ok (.iadd, 1) by decide +kernel) ?_
  refine lw_sld (pc := 513) hC hX (show decode code 513 = .ok (.iaload, 1) by decide +kernel) h ?_
  intro j1 h
  obtain ⟨b2, hb, h⟩ := dc_bind h
  obtain ⟨hb2, hv⟩ := hg_chk_of (C := R_SE) rfl hb
  have hbo : ox = b2 := Option.some.inj hb2
  subst hbo
  refine lw_ci (pc := 514) (b := ox) (As := [.int (xs j1)]) (rest := []) (vo := fun q => q) (so := fun q => S) hC cw_SignalEngineLaw_91 (fun q hq => hm_SE_selected_ok l D G S ox (xs j1) q hq) (Nat.le_of_ble_eq_true rfl) (Nat.le_of_ble_eq_true rfl) hv rfl (Nat.le_of_ble_eq_true rfl) (show decode code 514 = .ok (.invokevirtual 91, 3) by decide +kernel) h ?_
  intro q3 h
  refine hg_aloadn (pc := 517) (j := 2) (i := 2) (r := (some o)) hC 2 rfl rfl (show decode code 517 = .ok (.aload_n 2, 1) by decide +kernel) ?_
  refine hg_aloadn (pc := 518) (j := 0) (i := 0) (r := (some sb)) hC 0 rfl rfl (show decode code 518 = .ok (.aload_n 0, 1) by decide +kernel) ?_
  refine hg_iload (pc := 519) (i := 4) hC 4 rfl (show decode code 519 = .ok (.iload 4, 2) by decide +kernel) ?_
  refine hg_iconst (pc := 521) (v := 1) hC (show decode code 521 = .ok (.iconst 1, 1) by decide +kernel) (by decide +kernel) ?_
  refine hg_iadd (pc := 522) hC (show decode code 522 = .ok (.iadd, 1) by decide +kernel) ?_
  refine lw_sld (pc := 523) hC hX (show decode code 523 = .ok (.iaload, 1) by decide +kernel) h ?_
  intro j4 h
  refine lw_mi (pc := 524) (As := [.int (xs j4)]) (rest := [.int q3]) (rv := fun q => q.2) (sv := fun q => q.1) hC hKm cw_SignalEngineLaw_95 (fun F2 h2 => mm_selected_ok l D G.2.1 G.2.2.1 o a ca M (xs j4) F2 h2) (Nat.le_of_ble_eq_true rfl) (Nat.le_of_ble_eq_true rfl) rfl rfl (Nat.le_of_ble_eq_true rfl) (show decode code 524 = .ok (.invokevirtual 95, 3) by decide +kernel) h ?_
  intro q5 h
  refine hg_icmp_eq (pc := 527) (tgt := 1140) hC (show decode code 527 = .ok (.if_icmp .eq 613, 3) by decide +kernel) (by decide +kernel) h ?_ ?_
  · intro h
    exact lab (S, v, q5.1) (dc_some h)
  · intro h
    exact (dc_not h).elim
noncomputable def lw_t10 (G : hg_E) (xs : Nat → Int32) (L ox : Nat) (S : hg_S) (v : Int64) (M : md_S) (i : Int32) : Option (hg_S × Int64 × md_S) :=
  (dc_ix (i + 1) L).bind fun j1 => (hl_go G S ox (xs j1) v).bind fun q2 => (dc_ix (i + 1) L).bind fun j3 => (mm_go M (xs j3)).bind fun q4 => (mm_thrown q4).bind fun q5 => if q5 = q2.2.2 then (some (q2.1, q2.2.1, q4)) else (none)
set_option maxHeartbeats 4000000 in
set_option maxRecDepth 100000 in
theorem lw_c10 {X : dc_X} {l : Launch} (hlt : l.stackTraces = false) {D : va_G} {G : hg_E} {w o ox sb L : Nat} {a : Nat → Nat} {ca : Nat → ClassId} {xs : Nat → Int32} (hC : hg_K X D G code 8 "SignalEngineLaw") (hKm : hl_KM X D (md_T ca)) (hX : lw_X X sb L xs) (hN : hl_N X) (S : hg_S) (v : Int64) (M : md_S) (i : Int32) (F : hg_S × Int64 × md_S → Prop) (lab : ∀ q, F q → hg_G X l room_1 D 8 (lw_W G w o a ca q.1 q.2.1 q.2.2) 1140 [(0, va_rf (some sb)), (1, va_rf (some ox)), (2, va_rf (some o)), (3, va_rf (some w)), (4, .int i)] []) (h : dc_wp (lw_t10 G xs L ox S v M i) F) : hg_G X l room_1 D 8 (lw_W G w o a ca S v M) 532 [(0, va_rf (some sb)), (1, va_rf (some ox)), (2, va_rf (some o)), (3, va_rf (some w)), (4, .int i)] [] := by
  delta lw_t10 at h
  refine hg_aloadn (pc := 532) (j := 1) (i := 1) (r := (some ox)) hC 1 rfl rfl (show decode code 532 = .ok (.aload_n 1, 1) by decide +kernel) ?_
  refine hg_aloadn (pc := 533) (j := 0) (i := 0) (r := (some sb)) hC 0 rfl rfl (show decode code 533 = .ok (.aload_n 0, 1) by decide +kernel) ?_
  refine hg_iload (pc := 534) (i := 4) hC 4 rfl (show decode code 534 = .ok (.iload 4, 2) by decide +kernel) ?_
  refine hg_iconst (pc := 536) (v := 1) hC (show decode code 536 = .ok (.iconst 1, 1) by decide +kernel) (by decide +kernel) ?_
  refine hg_iadd (pc := 537) hC (show decode code 537 = .ok (.iadd, 1) by decide +kernel) ?_
  refine lw_sld (pc := 538) hC hX (show decode code 538 = .ok (.iaload, 1) by decide +kernel) h ?_
  intro j1 h
  obtain ⟨q2, hq, h⟩ := dc_bind h
  refine hl_w lw_W3 (hl_kS (pc := 539) (As := [.ref ox, .int (xs j1)]) (rest := []) (S := (S.1 ++ [lw_o G w v], S.2)) (u := (q2.1.1 ++ [lw_o G w q2.2.1], q2.1.2)) (k := q2.2.2) hC hN cl_96 (hl_go_ok l hlt D G S ox w (xs j1) v q2 hq) (Nat.le_of_ble_eq_true rfl) (Nat.le_of_ble_eq_true rfl) rfl (Nat.le_of_ble_eq_true rfl) (show decode code 539 = .ok (.invokestatic 96, 3) by decide +kernel) ?_)
  refine hl_w lw_W3.symm ?_
  show hg_G X l room_1 D 8 (lw_W G w o a ca q2.1 q2.2.1 M) 542 [(0, va_rf (some sb)), (1, va_rf (some ox)), (2, va_rf (some o)), (3, va_rf (some w)), (4, .int i)] [.int q2.2.2]
  refine hg_istore (pc := 542) (i := 5) (lv' := [(5, .int q2.2.2), (0, va_rf (some sb)), (1, va_rf (some ox)), (2, va_rf (some o)), (3, va_rf (some w)), (4, .int i)]) hC (Nat.le_of_ble_eq_true rfl) rfl (show decode code 542 = .ok (.istore 5, 2) by decide +kernel) ?_
  refine hg_aloadn (pc := 544) (j := 2) (i := 2) (r := (some o)) hC 3 rfl rfl (show decode code 544 = .ok (.aload_n 2, 1) by decide +kernel) ?_
  refine hg_aloadn (pc := 545) (j := 0) (i := 0) (r := (some sb)) hC 1 rfl rfl (show decode code 545 = .ok (.aload_n 0, 1) by decide +kernel) ?_
  refine hg_iload (pc := 546) (i := 4) hC 5 rfl (show decode code 546 = .ok (.iload 4, 2) by decide +kernel) ?_
  refine hg_iconst (pc := 548) (v := 1) hC (show decode code 548 = .ok (.iconst 1, 1) by decide +kernel) (by decide +kernel) ?_
  refine hg_iadd (pc := 549) hC (show decode code 549 = .ok (.iadd, 1) by decide +kernel) ?_
  refine lw_sld (pc := 550) hC hX (show decode code 550 = .ok (.iaload, 1) by decide +kernel) h ?_
  intro j3 h
  refine lw_mv (pc := 551) (As := [.int (xs j3)]) (rest := []) (sv := fun q => q) hC hKm cw_SignalEngineLaw_99 (fun F2 h2 => mm_go_ok l D G.2.1 G.2.2.1 o a ca M (xs j3) F2 h2) (Nat.le_of_ble_eq_true rfl) (Nat.le_of_ble_eq_true rfl) rfl rfl (Nat.le_of_ble_eq_true rfl) (show decode code 551 = .ok (.invokevirtual 99, 3) by decide +kernel) h ?_
  intro q4 h
  refine hg_aloadn (pc := 554) (j := 2) (i := 2) (r := (some o)) hC 3 rfl rfl (show decode code 554 = .ok (.aload_n 2, 1) by decide +kernel) ?_
  refine lw_mi (pc := 555) (As := []) (rest := []) (rv := fun q => q) (sv := fun q => q4) hC hKm cw_SignalEngineLaw_80 (fun F2 h2 => mm_thrown_ok l D G.2.1 G.2.2.1 o a ca q4 F2 h2) (Nat.le_of_ble_eq_true rfl) (Nat.le_of_ble_eq_true rfl) rfl rfl (Nat.le_of_ble_eq_true rfl) (show decode code 555 = .ok (.invokevirtual 80, 3) by decide +kernel) h ?_
  intro q5 h
  refine hg_iload (pc := 558) (i := 5) hC 0 rfl (show decode code 558 = .ok (.iload 5, 2) by decide +kernel) ?_
  refine hg_icmp_eq (pc := 560) (tgt := 565) hC (show decode code 560 = .ok (.if_icmp .eq 5, 3) by decide +kernel) (by decide +kernel) h ?_ ?_
  · intro h
    refine hg_goto (pc := 565) (tgt := 1140) hC (show decode code 565 = .ok (.goto 575, 3) by decide +kernel) (by decide +kernel) ?_
    exact hg_sub [1, 2, 3, 4, 5] rfl (lab (q2.1, q2.2.1, q4) (dc_some h))
  · intro h
    exact (dc_not h).elim
noncomputable def lw_t11 (G : hg_E) (xs : Nat → Int32) (L ox : Nat) (S : hg_S) (v : Int64) (M : md_S) (i : Int32) : Option (hg_S × Int64 × md_S) :=
  (hl_explore G S ox v).bind fun q1 => (mm_explore M).bind fun q2 => (mm_thrown q2.1).bind fun q3 => if q3 = q1.2.2 then (if q1.2.2 = 0 then (if (dc_cmp q1.2.1 (Int32.toInt64 q2.2)) = 0 then (some (q1.1, q1.2.1, q2.1)) else (none)) else (some (q1.1, q1.2.1, q2.1))) else (none)
set_option maxHeartbeats 4000000 in
set_option maxRecDepth 100000 in
theorem lw_c11 {X : dc_X} {l : Launch} (hlt : l.stackTraces = false) {D : va_G} {G : hg_E} {w o ox sb L : Nat} {a : Nat → Nat} {ca : Nat → ClassId} {xs : Nat → Int32} (hC : hg_K X D G code 8 "SignalEngineLaw") (hKm : hl_KM X D (md_T ca)) (hX : lw_X X sb L xs) (hN : hl_N X) (S : hg_S) (v : Int64) (M : md_S) (i : Int32) (F : hg_S × Int64 × md_S → Prop) (lab : ∀ q, F q → hg_G X l room_1 D 8 (lw_W G w o a ca q.1 q.2.1 q.2.2) 1140 [(0, va_rf (some sb)), (1, va_rf (some ox)), (2, va_rf (some o)), (3, va_rf (some w)), (4, .int i)] []) (h : dc_wp (lw_t11 G xs L ox S v M i) F) : hg_G X l room_1 D 8 (lw_W G w o a ca S v M) 568 [(0, va_rf (some sb)), (1, va_rf (some ox)), (2, va_rf (some o)), (3, va_rf (some w)), (4, .int i)] [] := by
  delta lw_t11 at h
  refine hg_aloadn (pc := 568) (j := 1) (i := 1) (r := (some ox)) hC 1 rfl rfl (show decode code 568 = .ok (.aload_n 1, 1) by decide +kernel) ?_
  refine hg_aloadn (pc := 569) (j := 3) (i := 3) (r := (some w)) hC 3 rfl rfl (show decode code 569 = .ok (.aload_n 3, 1) by decide +kernel) ?_
  obtain ⟨q1, hq, h⟩ := dc_bind h
  refine hl_w lw_W3 (hl_kS (pc := 570) (As := [.ref ox, .ref w]) (rest := []) (S := (S.1 ++ [lw_o G w v], S.2)) (u := (q1.1.1 ++ [lw_o G w q1.2.1], q1.1.2)) (k := q1.2.2) hC hN cl_100 (hl_explore_ok l hlt D G S ox w v q1 hq) (Nat.le_of_ble_eq_true rfl) (Nat.le_of_ble_eq_true rfl) rfl (Nat.le_of_ble_eq_true rfl) (show decode code 570 = .ok (.invokestatic 100, 3) by decide +kernel) ?_)
  refine hl_w lw_W3.symm ?_
  show hg_G X l room_1 D 8 (lw_W G w o a ca q1.1 q1.2.1 M) 573 [(0, va_rf (some sb)), (1, va_rf (some ox)), (2, va_rf (some o)), (3, va_rf (some w)), (4, .int i)] [.int q1.2.2]
  refine hg_istore (pc := 573) (i := 5) (lv' := [(5, .int q1.2.2), (0, va_rf (some sb)), (1, va_rf (some ox)), (2, va_rf (some o)), (3, va_rf (some w)), (4, .int i)]) hC (Nat.le_of_ble_eq_true rfl) rfl (show decode code 573 = .ok (.istore 5, 2) by decide +kernel) ?_
  refine hg_aloadn (pc := 575) (j := 2) (i := 2) (r := (some o)) hC 3 rfl rfl (show decode code 575 = .ok (.aload_n 2, 1) by decide +kernel) ?_
  refine lw_mi (pc := 576) (As := []) (rest := []) (rv := fun q => q.2) (sv := fun q => q.1) hC hKm cw_SignalEngineLaw_102 (fun F2 h2 => mm_explore_ok l D G.2.1 G.2.2.1 o a ca M F2 h2) (Nat.le_of_ble_eq_true rfl) (Nat.le_of_ble_eq_true rfl) rfl rfl (Nat.le_of_ble_eq_true rfl) (show decode code 576 = .ok (.invokevirtual 102, 3) by decide +kernel) h ?_
  intro q2 h
  refine hg_istore (pc := 579) (i := 6) (lv' := [(6, .int q2.2), (5, .int q1.2.2), (0, va_rf (some sb)), (1, va_rf (some ox)), (2, va_rf (some o)), (3, va_rf (some w)), (4, .int i)]) hC (Nat.le_of_ble_eq_true rfl) rfl (show decode code 579 = .ok (.istore 6, 2) by decide +kernel) ?_
  refine hg_aloadn (pc := 581) (j := 2) (i := 2) (r := (some o)) hC 4 rfl rfl (show decode code 581 = .ok (.aload_n 2, 1) by decide +kernel) ?_
  refine lw_mi (pc := 582) (As := []) (rest := []) (rv := fun q => q) (sv := fun q => q2.1) hC hKm cw_SignalEngineLaw_80 (fun F2 h2 => mm_thrown_ok l D G.2.1 G.2.2.1 o a ca q2.1 F2 h2) (Nat.le_of_ble_eq_true rfl) (Nat.le_of_ble_eq_true rfl) rfl rfl (Nat.le_of_ble_eq_true rfl) (show decode code 582 = .ok (.invokevirtual 80, 3) by decide +kernel) h ?_
  intro q3 h
  refine hg_iload (pc := 585) (i := 5) hC 1 rfl (show decode code 585 = .ok (.iload 5, 2) by decide +kernel) ?_
  refine hg_icmp_eq (pc := 587) (tgt := 592) hC (show decode code 587 = .ok (.if_icmp .eq 5, 3) by decide +kernel) (by decide +kernel) h ?_ ?_
  · intro h
    refine hg_iload (pc := 592) (i := 5) hC 1 rfl (show decode code 592 = .ok (.iload 5, 2) by decide +kernel) ?_
    refine hg_if_ne (pc := 594) (tgt := 609) hC (show decode code 594 = .ok (.ifCond .ne 15, 3) by decide +kernel) (by decide +kernel) h ?_ ?_
    · intro h
      refine hg_aloadn (pc := 597) (j := 3) (i := 3) (r := (some w)) hC 5 rfl rfl (show decode code 597 = .ok (.aload_n 3, 1) by decide +kernel) ?_
      refine hg_iconst (pc := 598) (v := 0) hC (show decode code 598 = .ok (.iconst 0, 1) by decide +kernel) (by decide +kernel) ?_
      refine lw_lald (pc := 599) hC (show decode code 599 = .ok (.laload, 1) by decide +kernel) ?_
      refine hg_iload (pc := 600) (i := 6) hC 0 rfl (show decode code 600 = .ok (.iload 6, 2) by decide +kernel) ?_
      refine hg_i2l (pc := 602) hC (show decode code 602 = .ok (.i2l, 1) by decide +kernel) ?_
      refine hg_lcmp (pc := 603) hC (show decode code 603 = .ok (.lcmp, 1) by decide +kernel) ?_
      refine hg_if_eq (pc := 604) (tgt := 609) hC (show decode code 604 = .ok (.ifCond .eq 5, 3) by decide +kernel) (by decide +kernel) h ?_ ?_
      · intro h
        refine hg_goto (pc := 609) (tgt := 1140) hC (show decode code 609 = .ok (.goto 531, 3) by decide +kernel) (by decide +kernel) ?_
        exact hg_sub [2, 3, 4, 5, 6] rfl (lab (q1.1, q1.2.1, q2.1) (dc_some h))
      · intro h
        exact (dc_not h).elim
    · intro h
      refine hg_goto (pc := 609) (tgt := 1140) hC (show decode code 609 = .ok (.goto 531, 3) by decide +kernel) (by decide +kernel) ?_
      exact hg_sub [2, 3, 4, 5, 6] rfl (lab (q1.1, q1.2.1, q2.1) (dc_some h))
  · intro h
    exact (dc_not h).elim
noncomputable def lw_t12 (G : hg_E) (xs : Nat → Int32) (L ox : Nat) (S : hg_S) (v : Int64) (M : md_S) (i : Int32) : Option (hg_S × Int64 × md_S) :=
  (dc_ix (i + 1) L).bind fun j1 => (hg_chk S (some ox) 0).bind fun b2 => (hm_SE_distance G S ox (xs j1)).bind fun q3 => (dc_ix (i + 1) L).bind fun j4 => (mm_distance M (xs j4)).bind fun q5 => if q3 = q5.2 then (some (S, v, q5.1)) else (none)
set_option maxHeartbeats 4000000 in
set_option maxRecDepth 100000 in
theorem lw_c12 {X : dc_X} {l : Launch} (hlt : l.stackTraces = false) {D : va_G} {G : hg_E} {w o ox sb L : Nat} {a : Nat → Nat} {ca : Nat → ClassId} {xs : Nat → Int32} (hC : hg_K X D G code 8 "SignalEngineLaw") (hKm : hl_KM X D (md_T ca)) (hX : lw_X X sb L xs) (hN : hl_N X) (S : hg_S) (v : Int64) (M : md_S) (i : Int32) (F : hg_S × Int64 × md_S → Prop) (lab : ∀ q, F q → hg_G X l room_1 D 8 (lw_W G w o a ca q.1 q.2.1 q.2.2) 1140 [(0, va_rf (some sb)), (1, va_rf (some ox)), (2, va_rf (some o)), (3, va_rf (some w)), (4, .int i)] []) (h : dc_wp (lw_t12 G xs L ox S v M i) F) : hg_G X l room_1 D 8 (lw_W G w o a ca S v M) 612 [(0, va_rf (some sb)), (1, va_rf (some ox)), (2, va_rf (some o)), (3, va_rf (some w)), (4, .int i)] [] := by
  delta lw_t12 at h
  refine hg_aloadn (pc := 612) (j := 1) (i := 1) (r := (some ox)) hC 1 rfl rfl (show decode code 612 = .ok (.aload_n 1, 1) by decide +kernel) ?_
  refine hg_aloadn (pc := 613) (j := 0) (i := 0) (r := (some sb)) hC 0 rfl rfl (show decode code 613 = .ok (.aload_n 0, 1) by decide +kernel) ?_
  refine hg_iload (pc := 614) (i := 4) hC 4 rfl (show decode code 614 = .ok (.iload 4, 2) by decide +kernel) ?_
  refine hg_iconst (pc := 616) (v := 1) hC (show decode code 616 = .ok (.iconst 1, 1) by decide +kernel) (by decide +kernel) ?_
  refine hg_iadd (pc := 617) hC (show decode code 617 = .ok (.iadd, 1) by decide +kernel) ?_
  refine lw_sld (pc := 618) hC hX (show decode code 618 = .ok (.iaload, 1) by decide +kernel) h ?_
  intro j1 h
  obtain ⟨b2, hb, h⟩ := dc_bind h
  obtain ⟨hb2, hv⟩ := hg_chk_of (C := R_SE) rfl hb
  have hbo : ox = b2 := Option.some.inj hb2
  subst hbo
  refine lw_ci (pc := 619) (b := ox) (As := [.int (xs j1)]) (rest := []) (vo := fun q => q) (so := fun q => S) hC cw_SignalEngineLaw_103 (fun q hq => hm_SE_distance_ok l D G S ox (xs j1) q hq) (Nat.le_of_ble_eq_true rfl) (Nat.le_of_ble_eq_true rfl) hv rfl (Nat.le_of_ble_eq_true rfl) (show decode code 619 = .ok (.invokevirtual 103, 3) by decide +kernel) h ?_
  intro q3 h
  refine hg_aloadn (pc := 622) (j := 2) (i := 2) (r := (some o)) hC 2 rfl rfl (show decode code 622 = .ok (.aload_n 2, 1) by decide +kernel) ?_
  refine hg_aloadn (pc := 623) (j := 0) (i := 0) (r := (some sb)) hC 0 rfl rfl (show decode code 623 = .ok (.aload_n 0, 1) by decide +kernel) ?_
  refine hg_iload (pc := 624) (i := 4) hC 4 rfl (show decode code 624 = .ok (.iload 4, 2) by decide +kernel) ?_
  refine hg_iconst (pc := 626) (v := 1) hC (show decode code 626 = .ok (.iconst 1, 1) by decide +kernel) (by decide +kernel) ?_
  refine hg_iadd (pc := 627) hC (show decode code 627 = .ok (.iadd, 1) by decide +kernel) ?_
  refine lw_sld (pc := 628) hC hX (show decode code 628 = .ok (.iaload, 1) by decide +kernel) h ?_
  intro j4 h
  refine lw_mi (pc := 629) (As := [.int (xs j4)]) (rest := [.int q3]) (rv := fun q => q.2) (sv := fun q => q.1) hC hKm cw_SignalEngineLaw_106 (fun F2 h2 => mm_distance_ok l D G.2.1 G.2.2.1 o a ca M (xs j4) F2 h2) (Nat.le_of_ble_eq_true rfl) (Nat.le_of_ble_eq_true rfl) rfl rfl (Nat.le_of_ble_eq_true rfl) (show decode code 629 = .ok (.invokevirtual 106, 3) by decide +kernel) h ?_
  intro q5 h
  refine hg_icmp_eq (pc := 632) (tgt := 1140) hC (show decode code 632 = .ok (.if_icmp .eq 508, 3) by decide +kernel) (by decide +kernel) h ?_ ?_
  · intro h
    exact lab (S, v, q5.1) (dc_some h)
  · intro h
    exact (dc_not h).elim
noncomputable def lw_t13 (G : hg_E) (xs : Nat → Int32) (L ox : Nat) (S : hg_S) (v : Int64) (M : md_S) (i : Int32) : Option (hg_S × Int64 × md_S) :=
  (dc_ix (i + 1) L).bind fun j1 => (dc_ix (i + 2) L).bind fun j2 => (hg_chk S (some ox) 0).bind fun b3 => (hm_SE_path G S ox (xs j1) (xs j2)).bind fun q4 => (dc_ix (i + 1) L).bind fun j5 => (dc_ix (i + 2) L).bind fun j6 => (mm_path M (xs j5) (xs j6)).bind fun q7 => if q4 = q7.2 then (some (S, v, q7.1)) else (none)
set_option maxHeartbeats 4000000 in
set_option maxRecDepth 100000 in
theorem lw_c13 {X : dc_X} {l : Launch} (hlt : l.stackTraces = false) {D : va_G} {G : hg_E} {w o ox sb L : Nat} {a : Nat → Nat} {ca : Nat → ClassId} {xs : Nat → Int32} (hC : hg_K X D G code 8 "SignalEngineLaw") (hKm : hl_KM X D (md_T ca)) (hX : lw_X X sb L xs) (hN : hl_N X) (S : hg_S) (v : Int64) (M : md_S) (i : Int32) (F : hg_S × Int64 × md_S → Prop) (lab : ∀ q, F q → hg_G X l room_1 D 8 (lw_W G w o a ca q.1 q.2.1 q.2.2) 1140 [(0, va_rf (some sb)), (1, va_rf (some ox)), (2, va_rf (some o)), (3, va_rf (some w)), (4, .int i)] []) (h : dc_wp (lw_t13 G xs L ox S v M i) F) : hg_G X l room_1 D 8 (lw_W G w o a ca S v M) 637 [(0, va_rf (some sb)), (1, va_rf (some ox)), (2, va_rf (some o)), (3, va_rf (some w)), (4, .int i)] [] := by
  delta lw_t13 at h
  refine hg_aloadn (pc := 637) (j := 1) (i := 1) (r := (some ox)) hC 1 rfl rfl (show decode code 637 = .ok (.aload_n 1, 1) by decide +kernel) ?_
  refine hg_aloadn (pc := 638) (j := 0) (i := 0) (r := (some sb)) hC 0 rfl rfl (show decode code 638 = .ok (.aload_n 0, 1) by decide +kernel) ?_
  refine hg_iload (pc := 639) (i := 4) hC 4 rfl (show decode code 639 = .ok (.iload 4, 2) by decide +kernel) ?_
  refine hg_iconst (pc := 641) (v := 1) hC (show decode code 641 = .ok (.iconst 1, 1) by decide +kernel) (by decide +kernel) ?_
  refine hg_iadd (pc := 642) hC (show decode code 642 = .ok (.iadd, 1) by decide +kernel) ?_
  refine lw_sld (pc := 643) hC hX (show decode code 643 = .ok (.iaload, 1) by decide +kernel) h ?_
  intro j1 h
  refine hg_aloadn (pc := 644) (j := 0) (i := 0) (r := (some sb)) hC 0 rfl rfl (show decode code 644 = .ok (.aload_n 0, 1) by decide +kernel) ?_
  refine hg_iload (pc := 645) (i := 4) hC 4 rfl (show decode code 645 = .ok (.iload 4, 2) by decide +kernel) ?_
  refine hg_iconst (pc := 647) (v := 2) hC (show decode code 647 = .ok (.iconst 2, 1) by decide +kernel) (by decide +kernel) ?_
  refine hg_iadd (pc := 648) hC (show decode code 648 = .ok (.iadd, 1) by decide +kernel) ?_
  refine lw_sld (pc := 649) hC hX (show decode code 649 = .ok (.iaload, 1) by decide +kernel) h ?_
  intro j2 h
  obtain ⟨b3, hb, h⟩ := dc_bind h
  obtain ⟨hb2, hv⟩ := hg_chk_of (C := R_SE) rfl hb
  have hbo : ox = b3 := Option.some.inj hb2
  subst hbo
  refine lw_ci (pc := 650) (b := ox) (As := [.int (xs j1), .int (xs j2)]) (rest := []) (vo := fun q => q) (so := fun q => S) hC cw_SignalEngineLaw_107 (fun q hq => hm_SE_path_ok l D G S ox (xs j1) (xs j2) q hq) (Nat.le_of_ble_eq_true rfl) (Nat.le_of_ble_eq_true rfl) hv rfl (Nat.le_of_ble_eq_true rfl) (show decode code 650 = .ok (.invokevirtual 107, 3) by decide +kernel) h ?_
  intro q4 h
  refine hg_aloadn (pc := 653) (j := 2) (i := 2) (r := (some o)) hC 2 rfl rfl (show decode code 653 = .ok (.aload_n 2, 1) by decide +kernel) ?_
  refine hg_aloadn (pc := 654) (j := 0) (i := 0) (r := (some sb)) hC 0 rfl rfl (show decode code 654 = .ok (.aload_n 0, 1) by decide +kernel) ?_
  refine hg_iload (pc := 655) (i := 4) hC 4 rfl (show decode code 655 = .ok (.iload 4, 2) by decide +kernel) ?_
  refine hg_iconst (pc := 657) (v := 1) hC (show decode code 657 = .ok (.iconst 1, 1) by decide +kernel) (by decide +kernel) ?_
  refine hg_iadd (pc := 658) hC (show decode code 658 = .ok (.iadd, 1) by decide +kernel) ?_
  refine lw_sld (pc := 659) hC hX (show decode code 659 = .ok (.iaload, 1) by decide +kernel) h ?_
  intro j5 h
  refine hg_aloadn (pc := 660) (j := 0) (i := 0) (r := (some sb)) hC 0 rfl rfl (show decode code 660 = .ok (.aload_n 0, 1) by decide +kernel) ?_
  refine hg_iload (pc := 661) (i := 4) hC 4 rfl (show decode code 661 = .ok (.iload 4, 2) by decide +kernel) ?_
  refine hg_iconst (pc := 663) (v := 2) hC (show decode code 663 = .ok (.iconst 2, 1) by decide +kernel) (by decide +kernel) ?_
  refine hg_iadd (pc := 664) hC (show decode code 664 = .ok (.iadd, 1) by decide +kernel) ?_
  refine lw_sld (pc := 665) hC hX (show decode code 665 = .ok (.iaload, 1) by decide +kernel) h ?_
  intro j6 h
  refine lw_mi (pc := 666) (As := [.int (xs j5), .int (xs j6)]) (rest := [.int q4]) (rv := fun q => q.2) (sv := fun q => q.1) hC hKm cw_SignalEngineLaw_110 (fun F2 h2 => mm_path_ok l D G.2.1 G.2.2.1 o a ca M (xs j5) (xs j6) F2 h2) (Nat.le_of_ble_eq_true rfl) (Nat.le_of_ble_eq_true rfl) rfl rfl (Nat.le_of_ble_eq_true rfl) (show decode code 666 = .ok (.invokevirtual 110, 3) by decide +kernel) h ?_
  intro q7 h
  refine hg_icmp_eq (pc := 669) (tgt := 1140) hC (show decode code 669 = .ok (.if_icmp .eq 471, 3) by decide +kernel) (by decide +kernel) h ?_ ?_
  · intro h
    exact lab (S, v, q7.1) (dc_some h)
  · intro h
    exact (dc_not h).elim
noncomputable def lw_t14 (G : hg_E) (xs : Nat → Int32) (L ox : Nat) (S : hg_S) (v : Int64) (M : md_S) (i : Int32) : Option (hg_S × Int64 × md_S) :=
  (dc_ix (i + 1) L).bind fun j1 => (dc_ix (i + 2) L).bind fun j2 => (hl_next G S ox (xs j1) (xs j2) v).bind fun q3 => (dc_ix (i + 1) L).bind fun j4 => (dc_ix (i + 2) L).bind fun j5 => (mm_next M (xs j4) (xs j5)).bind fun q6 => (mm_thrown q6.1).bind fun q7 => if q7 = q3.2.2 then (if q3.2.2 = 0 then (if (dc_cmp q3.2.1 (Int32.toInt64 q6.2)) = 0 then (some (q3.1, q3.2.1, q6.1)) else (none)) else (some (q3.1, q3.2.1, q6.1))) else (none)
set_option maxHeartbeats 4000000 in
set_option maxRecDepth 100000 in
theorem lw_c14 {X : dc_X} {l : Launch} (hlt : l.stackTraces = false) {D : va_G} {G : hg_E} {w o ox sb L : Nat} {a : Nat → Nat} {ca : Nat → ClassId} {xs : Nat → Int32} (hC : hg_K X D G code 8 "SignalEngineLaw") (hKm : hl_KM X D (md_T ca)) (hX : lw_X X sb L xs) (hN : hl_N X) (S : hg_S) (v : Int64) (M : md_S) (i : Int32) (F : hg_S × Int64 × md_S → Prop) (lab : ∀ q, F q → hg_G X l room_1 D 8 (lw_W G w o a ca q.1 q.2.1 q.2.2) 1140 [(0, va_rf (some sb)), (1, va_rf (some ox)), (2, va_rf (some o)), (3, va_rf (some w)), (4, .int i)] []) (h : dc_wp (lw_t14 G xs L ox S v M i) F) : hg_G X l room_1 D 8 (lw_W G w o a ca S v M) 674 [(0, va_rf (some sb)), (1, va_rf (some ox)), (2, va_rf (some o)), (3, va_rf (some w)), (4, .int i)] [] := by
  delta lw_t14 at h
  refine hg_aloadn (pc := 674) (j := 1) (i := 1) (r := (some ox)) hC 1 rfl rfl (show decode code 674 = .ok (.aload_n 1, 1) by decide +kernel) ?_
  refine hg_aloadn (pc := 675) (j := 0) (i := 0) (r := (some sb)) hC 0 rfl rfl (show decode code 675 = .ok (.aload_n 0, 1) by decide +kernel) ?_
  refine hg_iload (pc := 676) (i := 4) hC 4 rfl (show decode code 676 = .ok (.iload 4, 2) by decide +kernel) ?_
  refine hg_iconst (pc := 678) (v := 1) hC (show decode code 678 = .ok (.iconst 1, 1) by decide +kernel) (by decide +kernel) ?_
  refine hg_iadd (pc := 679) hC (show decode code 679 = .ok (.iadd, 1) by decide +kernel) ?_
  refine lw_sld (pc := 680) hC hX (show decode code 680 = .ok (.iaload, 1) by decide +kernel) h ?_
  intro j1 h
  refine hg_aloadn (pc := 681) (j := 0) (i := 0) (r := (some sb)) hC 0 rfl rfl (show decode code 681 = .ok (.aload_n 0, 1) by decide +kernel) ?_
  refine hg_iload (pc := 682) (i := 4) hC 4 rfl (show decode code 682 = .ok (.iload 4, 2) by decide +kernel) ?_
  refine hg_iconst (pc := 684) (v := 2) hC (show decode code 684 = .ok (.iconst 2, 1) by decide +kernel) (by decide +kernel) ?_
  refine hg_iadd (pc := 685) hC (show decode code 685 = .ok (.iadd, 1) by decide +kernel) ?_
  refine lw_sld (pc := 686) hC hX (show decode code 686 = .ok (.iaload, 1) by decide +kernel) h ?_
  intro j2 h
  refine hg_aloadn (pc := 687) (j := 3) (i := 3) (r := (some w)) hC 3 rfl rfl (show decode code 687 = .ok (.aload_n 3, 1) by decide +kernel) ?_
  obtain ⟨q3, hq, h⟩ := dc_bind h
  refine hl_w lw_W3 (hl_kS (pc := 688) (As := [.ref ox, .int (xs j1), .int (xs j2), .ref w]) (rest := []) (S := (S.1 ++ [lw_o G w v], S.2)) (u := (q3.1.1 ++ [lw_o G w q3.2.1], q3.1.2)) (k := q3.2.2) hC hN cl_111 (hl_next_ok l hlt D G S ox w (xs j1) (xs j2) v q3 hq) (Nat.le_of_ble_eq_true rfl) (Nat.le_of_ble_eq_true rfl) rfl (Nat.le_of_ble_eq_true rfl) (show decode code 688 = .ok (.invokestatic 111, 3) by decide +kernel) ?_)
  refine hl_w lw_W3.symm ?_
  show hg_G X l room_1 D 8 (lw_W G w o a ca q3.1 q3.2.1 M) 691 [(0, va_rf (some sb)), (1, va_rf (some ox)), (2, va_rf (some o)), (3, va_rf (some w)), (4, .int i)] [.int q3.2.2]
  refine hg_istore (pc := 691) (i := 5) (lv' := [(5, .int q3.2.2), (0, va_rf (some sb)), (1, va_rf (some ox)), (2, va_rf (some o)), (3, va_rf (some w)), (4, .int i)]) hC (Nat.le_of_ble_eq_true rfl) rfl (show decode code 691 = .ok (.istore 5, 2) by decide +kernel) ?_
  refine hg_aloadn (pc := 693) (j := 2) (i := 2) (r := (some o)) hC 3 rfl rfl (show decode code 693 = .ok (.aload_n 2, 1) by decide +kernel) ?_
  refine hg_aloadn (pc := 694) (j := 0) (i := 0) (r := (some sb)) hC 1 rfl rfl (show decode code 694 = .ok (.aload_n 0, 1) by decide +kernel) ?_
  refine hg_iload (pc := 695) (i := 4) hC 5 rfl (show decode code 695 = .ok (.iload 4, 2) by decide +kernel) ?_
  refine hg_iconst (pc := 697) (v := 1) hC (show decode code 697 = .ok (.iconst 1, 1) by decide +kernel) (by decide +kernel) ?_
  refine hg_iadd (pc := 698) hC (show decode code 698 = .ok (.iadd, 1) by decide +kernel) ?_
  refine lw_sld (pc := 699) hC hX (show decode code 699 = .ok (.iaload, 1) by decide +kernel) h ?_
  intro j4 h
  refine hg_aloadn (pc := 700) (j := 0) (i := 0) (r := (some sb)) hC 1 rfl rfl (show decode code 700 = .ok (.aload_n 0, 1) by decide +kernel) ?_
  refine hg_iload (pc := 701) (i := 4) hC 5 rfl (show decode code 701 = .ok (.iload 4, 2) by decide +kernel) ?_
  refine hg_iconst (pc := 703) (v := 2) hC (show decode code 703 = .ok (.iconst 2, 1) by decide +kernel) (by decide +kernel) ?_
  refine hg_iadd (pc := 704) hC (show decode code 704 = .ok (.iadd, 1) by decide +kernel) ?_
  refine lw_sld (pc := 705) hC hX (show decode code 705 = .ok (.iaload, 1) by decide +kernel) h ?_
  intro j5 h
  refine lw_mi (pc := 706) (As := [.int (xs j4), .int (xs j5)]) (rest := []) (rv := fun q => q.2) (sv := fun q => q.1) hC hKm cw_SignalEngineLaw_114 (fun F2 h2 => mm_next_ok l D G.2.1 G.2.2.1 o a ca M (xs j4) (xs j5) F2 h2) (Nat.le_of_ble_eq_true rfl) (Nat.le_of_ble_eq_true rfl) rfl rfl (Nat.le_of_ble_eq_true rfl) (show decode code 706 = .ok (.invokevirtual 114, 3) by decide +kernel) h ?_
  intro q6 h
  refine hg_istore (pc := 709) (i := 6) (lv' := [(6, .int q6.2), (5, .int q3.2.2), (0, va_rf (some sb)), (1, va_rf (some ox)), (2, va_rf (some o)), (3, va_rf (some w)), (4, .int i)]) hC (Nat.le_of_ble_eq_true rfl) rfl (show decode code 709 = .ok (.istore 6, 2) by decide +kernel) ?_
  refine hg_aloadn (pc := 711) (j := 2) (i := 2) (r := (some o)) hC 4 rfl rfl (show decode code 711 = .ok (.aload_n 2, 1) by decide +kernel) ?_
  refine lw_mi (pc := 712) (As := []) (rest := []) (rv := fun q => q) (sv := fun q => q6.1) hC hKm cw_SignalEngineLaw_80 (fun F2 h2 => mm_thrown_ok l D G.2.1 G.2.2.1 o a ca q6.1 F2 h2) (Nat.le_of_ble_eq_true rfl) (Nat.le_of_ble_eq_true rfl) rfl rfl (Nat.le_of_ble_eq_true rfl) (show decode code 712 = .ok (.invokevirtual 80, 3) by decide +kernel) h ?_
  intro q7 h
  refine hg_iload (pc := 715) (i := 5) hC 1 rfl (show decode code 715 = .ok (.iload 5, 2) by decide +kernel) ?_
  refine hg_icmp_eq (pc := 717) (tgt := 722) hC (show decode code 717 = .ok (.if_icmp .eq 5, 3) by decide +kernel) (by decide +kernel) h ?_ ?_
  · intro h
    refine hg_iload (pc := 722) (i := 5) hC 1 rfl (show decode code 722 = .ok (.iload 5, 2) by decide +kernel) ?_
    refine hg_if_ne (pc := 724) (tgt := 739) hC (show decode code 724 = .ok (.ifCond .ne 15, 3) by decide +kernel) (by decide +kernel) h ?_ ?_
    · intro h
      refine hg_aloadn (pc := 727) (j := 3) (i := 3) (r := (some w)) hC 5 rfl rfl (show decode code 727 = .ok (.aload_n 3, 1) by decide +kernel) ?_
      refine hg_iconst (pc := 728) (v := 0) hC (show decode code 728 = .ok (.iconst 0, 1) by decide +kernel) (by decide +kernel) ?_
      refine lw_lald (pc := 729) hC (show decode code 729 = .ok (.laload, 1) by decide +kernel) ?_
      refine hg_iload (pc := 730) (i := 6) hC 0 rfl (show decode code 730 = .ok (.iload 6, 2) by decide +kernel) ?_
      refine hg_i2l (pc := 732) hC (show decode code 732 = .ok (.i2l, 1) by decide +kernel) ?_
      refine hg_lcmp (pc := 733) hC (show decode code 733 = .ok (.lcmp, 1) by decide +kernel) ?_
      refine hg_if_eq (pc := 734) (tgt := 739) hC (show decode code 734 = .ok (.ifCond .eq 5, 3) by decide +kernel) (by decide +kernel) h ?_ ?_
      · intro h
        refine hg_goto (pc := 739) (tgt := 1140) hC (show decode code 739 = .ok (.goto 401, 3) by decide +kernel) (by decide +kernel) ?_
        exact hg_sub [2, 3, 4, 5, 6] rfl (lab (q3.1, q3.2.1, q6.1) (dc_some h))
      · intro h
        exact (dc_not h).elim
    · intro h
      refine hg_goto (pc := 739) (tgt := 1140) hC (show decode code 739 = .ok (.goto 401, 3) by decide +kernel) (by decide +kernel) ?_
      exact hg_sub [2, 3, 4, 5, 6] rfl (lab (q3.1, q3.2.1, q6.1) (dc_some h))
  · intro h
    exact (dc_not h).elim
noncomputable def lw_t15 (G : hg_E) (xs : Nat → Int32) (L ox : Nat) (S : hg_S) (v : Int64) (M : md_S) (i : Int32) : Option (hg_S × Int64 × md_S) :=
  (dc_ix (i + 1) L).bind fun j1 => (dc_ix (i + 2) L).bind fun j2 => (hl_shows G S ox (xs j1) (xs j2) v).bind fun q3 => (dc_ix (i + 1) L).bind fun j4 => (dc_ix (i + 2) L).bind fun j5 => (mm_shows M (xs j4) (xs j5)).bind fun q6 => (mm_thrown q6.1).bind fun q7 => if q7 = q3.2.2 then (if q3.2.2 = 0 then (if (dc_cmp q3.2.1 (Int32.toInt64 q6.2)) = 0 then (some (q3.1, q3.2.1, q6.1)) else (none)) else (some (q3.1, q3.2.1, q6.1))) else (none)
set_option maxHeartbeats 4000000 in
set_option maxRecDepth 100000 in
theorem lw_c15 {X : dc_X} {l : Launch} (hlt : l.stackTraces = false) {D : va_G} {G : hg_E} {w o ox sb L : Nat} {a : Nat → Nat} {ca : Nat → ClassId} {xs : Nat → Int32} (hC : hg_K X D G code 8 "SignalEngineLaw") (hKm : hl_KM X D (md_T ca)) (hX : lw_X X sb L xs) (hN : hl_N X) (S : hg_S) (v : Int64) (M : md_S) (i : Int32) (F : hg_S × Int64 × md_S → Prop) (lab : ∀ q, F q → hg_G X l room_1 D 8 (lw_W G w o a ca q.1 q.2.1 q.2.2) 1140 [(0, va_rf (some sb)), (1, va_rf (some ox)), (2, va_rf (some o)), (3, va_rf (some w)), (4, .int i)] []) (h : dc_wp (lw_t15 G xs L ox S v M i) F) : hg_G X l room_1 D 8 (lw_W G w o a ca S v M) 742 [(0, va_rf (some sb)), (1, va_rf (some ox)), (2, va_rf (some o)), (3, va_rf (some w)), (4, .int i)] [] := by
  delta lw_t15 at h
  refine hg_aloadn (pc := 742) (j := 1) (i := 1) (r := (some ox)) hC 1 rfl rfl (show decode code 742 = .ok (.aload_n 1, 1) by decide +kernel) ?_
  refine hg_aloadn (pc := 743) (j := 0) (i := 0) (r := (some sb)) hC 0 rfl rfl (show decode code 743 = .ok (.aload_n 0, 1) by decide +kernel) ?_
  refine hg_iload (pc := 744) (i := 4) hC 4 rfl (show decode code 744 = .ok (.iload 4, 2) by decide +kernel) ?_
  refine hg_iconst (pc := 746) (v := 1) hC (show decode code 746 = .ok (.iconst 1, 1) by decide +kernel) (by decide +kernel) ?_
  refine hg_iadd (pc := 747) hC (show decode code 747 = .ok (.iadd, 1) by decide +kernel) ?_
  refine lw_sld (pc := 748) hC hX (show decode code 748 = .ok (.iaload, 1) by decide +kernel) h ?_
  intro j1 h
  refine hg_aloadn (pc := 749) (j := 0) (i := 0) (r := (some sb)) hC 0 rfl rfl (show decode code 749 = .ok (.aload_n 0, 1) by decide +kernel) ?_
  refine hg_iload (pc := 750) (i := 4) hC 4 rfl (show decode code 750 = .ok (.iload 4, 2) by decide +kernel) ?_
  refine hg_iconst (pc := 752) (v := 2) hC (show decode code 752 = .ok (.iconst 2, 1) by decide +kernel) (by decide +kernel) ?_
  refine hg_iadd (pc := 753) hC (show decode code 753 = .ok (.iadd, 1) by decide +kernel) ?_
  refine lw_sld (pc := 754) hC hX (show decode code 754 = .ok (.iaload, 1) by decide +kernel) h ?_
  intro j2 h
  refine hg_aloadn (pc := 755) (j := 3) (i := 3) (r := (some w)) hC 3 rfl rfl (show decode code 755 = .ok (.aload_n 3, 1) by decide +kernel) ?_
  obtain ⟨q3, hq, h⟩ := dc_bind h
  refine hl_w lw_W3 (hl_kS (pc := 756) (As := [.ref ox, .int (xs j1), .int (xs j2), .ref w]) (rest := []) (S := (S.1 ++ [lw_o G w v], S.2)) (u := (q3.1.1 ++ [lw_o G w q3.2.1], q3.1.2)) (k := q3.2.2) hC hN cl_115 (hl_shows_ok l hlt D G S ox w (xs j1) (xs j2) v q3 hq) (Nat.le_of_ble_eq_true rfl) (Nat.le_of_ble_eq_true rfl) rfl (Nat.le_of_ble_eq_true rfl) (show decode code 756 = .ok (.invokestatic 115, 3) by decide +kernel) ?_)
  refine hl_w lw_W3.symm ?_
  show hg_G X l room_1 D 8 (lw_W G w o a ca q3.1 q3.2.1 M) 759 [(0, va_rf (some sb)), (1, va_rf (some ox)), (2, va_rf (some o)), (3, va_rf (some w)), (4, .int i)] [.int q3.2.2]
  refine hg_istore (pc := 759) (i := 5) (lv' := [(5, .int q3.2.2), (0, va_rf (some sb)), (1, va_rf (some ox)), (2, va_rf (some o)), (3, va_rf (some w)), (4, .int i)]) hC (Nat.le_of_ble_eq_true rfl) rfl (show decode code 759 = .ok (.istore 5, 2) by decide +kernel) ?_
  refine hg_aloadn (pc := 761) (j := 2) (i := 2) (r := (some o)) hC 3 rfl rfl (show decode code 761 = .ok (.aload_n 2, 1) by decide +kernel) ?_
  refine hg_aloadn (pc := 762) (j := 0) (i := 0) (r := (some sb)) hC 1 rfl rfl (show decode code 762 = .ok (.aload_n 0, 1) by decide +kernel) ?_
  refine hg_iload (pc := 763) (i := 4) hC 5 rfl (show decode code 763 = .ok (.iload 4, 2) by decide +kernel) ?_
  refine hg_iconst (pc := 765) (v := 1) hC (show decode code 765 = .ok (.iconst 1, 1) by decide +kernel) (by decide +kernel) ?_
  refine hg_iadd (pc := 766) hC (show decode code 766 = .ok (.iadd, 1) by decide +kernel) ?_
  refine lw_sld (pc := 767) hC hX (show decode code 767 = .ok (.iaload, 1) by decide +kernel) h ?_
  intro j4 h
  refine hg_aloadn (pc := 768) (j := 0) (i := 0) (r := (some sb)) hC 1 rfl rfl (show decode code 768 = .ok (.aload_n 0, 1) by decide +kernel) ?_
  refine hg_iload (pc := 769) (i := 4) hC 5 rfl (show decode code 769 = .ok (.iload 4, 2) by decide +kernel) ?_
  refine hg_iconst (pc := 771) (v := 2) hC (show decode code 771 = .ok (.iconst 2, 1) by decide +kernel) (by decide +kernel) ?_
  refine hg_iadd (pc := 772) hC (show decode code 772 = .ok (.iadd, 1) by decide +kernel) ?_
  refine lw_sld (pc := 773) hC hX (show decode code 773 = .ok (.iaload, 1) by decide +kernel) h ?_
  intro j5 h
  refine lw_mi (pc := 774) (As := [.int (xs j4), .int (xs j5)]) (rest := []) (rv := fun q => q.2) (sv := fun q => q.1) hC hKm cw_SignalEngineLaw_117 (fun F2 h2 => mm_shows_ok l D G.2.1 G.2.2.1 o a ca M (xs j4) (xs j5) F2 h2) (Nat.le_of_ble_eq_true rfl) (Nat.le_of_ble_eq_true rfl) rfl rfl (Nat.le_of_ble_eq_true rfl) (show decode code 774 = .ok (.invokevirtual 117, 3) by decide +kernel) h ?_
  intro q6 h
  refine hg_istore (pc := 777) (i := 6) (lv' := [(6, .int q6.2), (5, .int q3.2.2), (0, va_rf (some sb)), (1, va_rf (some ox)), (2, va_rf (some o)), (3, va_rf (some w)), (4, .int i)]) hC (Nat.le_of_ble_eq_true rfl) rfl (show decode code 777 = .ok (.istore 6, 2) by decide +kernel) ?_
  refine hg_aloadn (pc := 779) (j := 2) (i := 2) (r := (some o)) hC 4 rfl rfl (show decode code 779 = .ok (.aload_n 2, 1) by decide +kernel) ?_
  refine lw_mi (pc := 780) (As := []) (rest := []) (rv := fun q => q) (sv := fun q => q6.1) hC hKm cw_SignalEngineLaw_80 (fun F2 h2 => mm_thrown_ok l D G.2.1 G.2.2.1 o a ca q6.1 F2 h2) (Nat.le_of_ble_eq_true rfl) (Nat.le_of_ble_eq_true rfl) rfl rfl (Nat.le_of_ble_eq_true rfl) (show decode code 780 = .ok (.invokevirtual 80, 3) by decide +kernel) h ?_
  intro q7 h
  refine hg_iload (pc := 783) (i := 5) hC 1 rfl (show decode code 783 = .ok (.iload 5, 2) by decide +kernel) ?_
  refine hg_icmp_eq (pc := 785) (tgt := 790) hC (show decode code 785 = .ok (.if_icmp .eq 5, 3) by decide +kernel) (by decide +kernel) h ?_ ?_
  · intro h
    refine hg_iload (pc := 790) (i := 5) hC 1 rfl (show decode code 790 = .ok (.iload 5, 2) by decide +kernel) ?_
    refine hg_if_ne (pc := 792) (tgt := 807) hC (show decode code 792 = .ok (.ifCond .ne 15, 3) by decide +kernel) (by decide +kernel) h ?_ ?_
    · intro h
      refine hg_aloadn (pc := 795) (j := 3) (i := 3) (r := (some w)) hC 5 rfl rfl (show decode code 795 = .ok (.aload_n 3, 1) by decide +kernel) ?_
      refine hg_iconst (pc := 796) (v := 0) hC (show decode code 796 = .ok (.iconst 0, 1) by decide +kernel) (by decide +kernel) ?_
      refine lw_lald (pc := 797) hC (show decode code 797 = .ok (.laload, 1) by decide +kernel) ?_
      refine hg_iload (pc := 798) (i := 6) hC 0 rfl (show decode code 798 = .ok (.iload 6, 2) by decide +kernel) ?_
      refine hg_i2l (pc := 800) hC (show decode code 800 = .ok (.i2l, 1) by decide +kernel) ?_
      refine hg_lcmp (pc := 801) hC (show decode code 801 = .ok (.lcmp, 1) by decide +kernel) ?_
      refine hg_if_eq (pc := 802) (tgt := 807) hC (show decode code 802 = .ok (.ifCond .eq 5, 3) by decide +kernel) (by decide +kernel) h ?_ ?_
      · intro h
        refine hg_goto (pc := 807) (tgt := 1140) hC (show decode code 807 = .ok (.goto 333, 3) by decide +kernel) (by decide +kernel) ?_
        exact hg_sub [2, 3, 4, 5, 6] rfl (lab (q3.1, q3.2.1, q6.1) (dc_some h))
      · intro h
        exact (dc_not h).elim
    · intro h
      refine hg_goto (pc := 807) (tgt := 1140) hC (show decode code 807 = .ok (.goto 333, 3) by decide +kernel) (by decide +kernel) ?_
      exact hg_sub [2, 3, 4, 5, 6] rfl (lab (q3.1, q3.2.1, q6.1) (dc_some h))
  · intro h
    exact (dc_not h).elim
noncomputable def lw_t16 (G : hg_E) (xs : Nat → Int32) (L ox : Nat) (S : hg_S) (v : Int64) (M : md_S) (i : Int32) : Option (hg_S × Int64 × md_S) :=
  (dc_ix (i + 1) L).bind fun j1 => (hg_chk S (some ox) 0).bind fun b2 => (hm_SE_doubt G S ox (xs j1)).bind fun q3 => (dc_ix (i + 1) L).bind fun j4 => (mm_doubt M (xs j4)).bind fun q5 => if q3 = q5.2 then (some (S, v, q5.1)) else (none)
set_option maxHeartbeats 4000000 in
set_option maxRecDepth 100000 in
theorem lw_c16 {X : dc_X} {l : Launch} (hlt : l.stackTraces = false) {D : va_G} {G : hg_E} {w o ox sb L : Nat} {a : Nat → Nat} {ca : Nat → ClassId} {xs : Nat → Int32} (hC : hg_K X D G code 8 "SignalEngineLaw") (hKm : hl_KM X D (md_T ca)) (hX : lw_X X sb L xs) (hN : hl_N X) (S : hg_S) (v : Int64) (M : md_S) (i : Int32) (F : hg_S × Int64 × md_S → Prop) (lab : ∀ q, F q → hg_G X l room_1 D 8 (lw_W G w o a ca q.1 q.2.1 q.2.2) 1140 [(0, va_rf (some sb)), (1, va_rf (some ox)), (2, va_rf (some o)), (3, va_rf (some w)), (4, .int i)] []) (h : dc_wp (lw_t16 G xs L ox S v M i) F) : hg_G X l room_1 D 8 (lw_W G w o a ca S v M) 810 [(0, va_rf (some sb)), (1, va_rf (some ox)), (2, va_rf (some o)), (3, va_rf (some w)), (4, .int i)] [] := by
  delta lw_t16 at h
  refine hg_aloadn (pc := 810) (j := 1) (i := 1) (r := (some ox)) hC 1 rfl rfl (show decode code 810 = .ok (.aload_n 1, 1) by decide +kernel) ?_
  refine hg_aloadn (pc := 811) (j := 0) (i := 0) (r := (some sb)) hC 0 rfl rfl (show decode code 811 = .ok (.aload_n 0, 1) by decide +kernel) ?_
  refine hg_iload (pc := 812) (i := 4) hC 4 rfl (show decode code 812 = .ok (.iload 4, 2) by decide +kernel) ?_
  refine hg_iconst (pc := 814) (v := 1) hC (show decode code 814 = .ok (.iconst 1, 1) by decide +kernel) (by decide +kernel) ?_
  refine hg_iadd (pc := 815) hC (show decode code 815 = .ok (.iadd, 1) by decide +kernel) ?_
  refine lw_sld (pc := 816) hC hX (show decode code 816 = .ok (.iaload, 1) by decide +kernel) h ?_
  intro j1 h
  obtain ⟨b2, hb, h⟩ := dc_bind h
  obtain ⟨hb2, hv⟩ := hg_chk_of (C := R_SE) rfl hb
  have hbo : ox = b2 := Option.some.inj hb2
  subst hbo
  refine lw_ci (pc := 817) (b := ox) (As := [.int (xs j1)]) (rest := []) (vo := fun q => q) (so := fun q => S) hC cw_SignalEngineLaw_118 (fun q hq => hm_SE_doubt_ok l D G S ox (xs j1) q hq) (Nat.le_of_ble_eq_true rfl) (Nat.le_of_ble_eq_true rfl) hv rfl (Nat.le_of_ble_eq_true rfl) (show decode code 817 = .ok (.invokevirtual 118, 3) by decide +kernel) h ?_
  intro q3 h
  refine hg_aloadn (pc := 820) (j := 2) (i := 2) (r := (some o)) hC 2 rfl rfl (show decode code 820 = .ok (.aload_n 2, 1) by decide +kernel) ?_
  refine hg_aloadn (pc := 821) (j := 0) (i := 0) (r := (some sb)) hC 0 rfl rfl (show decode code 821 = .ok (.aload_n 0, 1) by decide +kernel) ?_
  refine hg_iload (pc := 822) (i := 4) hC 4 rfl (show decode code 822 = .ok (.iload 4, 2) by decide +kernel) ?_
  refine hg_iconst (pc := 824) (v := 1) hC (show decode code 824 = .ok (.iconst 1, 1) by decide +kernel) (by decide +kernel) ?_
  refine hg_iadd (pc := 825) hC (show decode code 825 = .ok (.iadd, 1) by decide +kernel) ?_
  refine lw_sld (pc := 826) hC hX (show decode code 826 = .ok (.iaload, 1) by decide +kernel) h ?_
  intro j4 h
  refine lw_mi (pc := 827) (As := [.int (xs j4)]) (rest := [.int q3]) (rv := fun q => q.2) (sv := fun q => q.1) hC hKm cw_SignalEngineLaw_121 (fun F2 h2 => mm_doubt_ok l D G.2.1 G.2.2.1 o a ca M (xs j4) F2 h2) (Nat.le_of_ble_eq_true rfl) (Nat.le_of_ble_eq_true rfl) rfl rfl (Nat.le_of_ble_eq_true rfl) (show decode code 827 = .ok (.invokevirtual 121, 3) by decide +kernel) h ?_
  intro q5 h
  refine hg_icmp_eq (pc := 830) (tgt := 1140) hC (show decode code 830 = .ok (.if_icmp .eq 310, 3) by decide +kernel) (by decide +kernel) h ?_ ?_
  · intro h
    exact lab (S, v, q5.1) (dc_some h)
  · intro h
    exact (dc_not h).elim
noncomputable def lw_t17 (G : hg_E) (xs : Nat → Int32) (L ox : Nat) (S : hg_S) (v : Int64) (M : md_S) (i : Int32) : Option (hg_S × Int64 × md_S) :=
  (dc_ix (i + 1) L).bind fun j1 => (hg_chk S (some ox) 0).bind fun b2 => (hm_SE_ever G S ox (xs j1)).bind fun q3 => (dc_ix (i + 1) L).bind fun j4 => (mm_ever M (xs j4)).bind fun q5 => if q3 = q5.2 then (some (S, v, q5.1)) else (none)
set_option maxHeartbeats 4000000 in
set_option maxRecDepth 100000 in
theorem lw_c17 {X : dc_X} {l : Launch} (hlt : l.stackTraces = false) {D : va_G} {G : hg_E} {w o ox sb L : Nat} {a : Nat → Nat} {ca : Nat → ClassId} {xs : Nat → Int32} (hC : hg_K X D G code 8 "SignalEngineLaw") (hKm : hl_KM X D (md_T ca)) (hX : lw_X X sb L xs) (hN : hl_N X) (S : hg_S) (v : Int64) (M : md_S) (i : Int32) (F : hg_S × Int64 × md_S → Prop) (lab : ∀ q, F q → hg_G X l room_1 D 8 (lw_W G w o a ca q.1 q.2.1 q.2.2) 1140 [(0, va_rf (some sb)), (1, va_rf (some ox)), (2, va_rf (some o)), (3, va_rf (some w)), (4, .int i)] []) (h : dc_wp (lw_t17 G xs L ox S v M i) F) : hg_G X l room_1 D 8 (lw_W G w o a ca S v M) 835 [(0, va_rf (some sb)), (1, va_rf (some ox)), (2, va_rf (some o)), (3, va_rf (some w)), (4, .int i)] [] := by
  delta lw_t17 at h
  refine hg_aloadn (pc := 835) (j := 1) (i := 1) (r := (some ox)) hC 1 rfl rfl (show decode code 835 = .ok (.aload_n 1, 1) by decide +kernel) ?_
  refine hg_aloadn (pc := 836) (j := 0) (i := 0) (r := (some sb)) hC 0 rfl rfl (show decode code 836 = .ok (.aload_n 0, 1) by decide +kernel) ?_
  refine hg_iload (pc := 837) (i := 4) hC 4 rfl (show decode code 837 = .ok (.iload 4, 2) by decide +kernel) ?_
  refine hg_iconst (pc := 839) (v := 1) hC (show decode code 839 = .ok (.iconst 1, 1) by decide +kernel) (by decide +kernel) ?_
  refine hg_iadd (pc := 840) hC (show decode code 840 = .ok (.iadd, 1) by decide +kernel) ?_
  refine lw_sld (pc := 841) hC hX (show decode code 841 = .ok (.iaload, 1) by decide +kernel) h ?_
  intro j1 h
  obtain ⟨b2, hb, h⟩ := dc_bind h
  obtain ⟨hb2, hv⟩ := hg_chk_of (C := R_SE) rfl hb
  have hbo : ox = b2 := Option.some.inj hb2
  subst hbo
  refine lw_ci (pc := 842) (b := ox) (As := [.int (xs j1)]) (rest := []) (vo := fun q => q) (so := fun q => S) hC cw_SignalEngineLaw_122 (fun q hq => hm_SE_ever_ok l D G S ox (xs j1) q hq) (Nat.le_of_ble_eq_true rfl) (Nat.le_of_ble_eq_true rfl) hv rfl (Nat.le_of_ble_eq_true rfl) (show decode code 842 = .ok (.invokevirtual 122, 3) by decide +kernel) h ?_
  intro q3 h
  refine hg_aloadn (pc := 845) (j := 2) (i := 2) (r := (some o)) hC 2 rfl rfl (show decode code 845 = .ok (.aload_n 2, 1) by decide +kernel) ?_
  refine hg_aloadn (pc := 846) (j := 0) (i := 0) (r := (some sb)) hC 0 rfl rfl (show decode code 846 = .ok (.aload_n 0, 1) by decide +kernel) ?_
  refine hg_iload (pc := 847) (i := 4) hC 4 rfl (show decode code 847 = .ok (.iload 4, 2) by decide +kernel) ?_
  refine hg_iconst (pc := 849) (v := 1) hC (show decode code 849 = .ok (.iconst 1, 1) by decide +kernel) (by decide +kernel) ?_
  refine hg_iadd (pc := 850) hC (show decode code 850 = .ok (.iadd, 1) by decide +kernel) ?_
  refine lw_sld (pc := 851) hC hX (show decode code 851 = .ok (.iaload, 1) by decide +kernel) h ?_
  intro j4 h
  refine lw_mi (pc := 852) (As := [.int (xs j4)]) (rest := [.int q3]) (rv := fun q => q.2) (sv := fun q => q.1) hC hKm cw_SignalEngineLaw_125 (fun F2 h2 => mm_ever_ok l D G.2.1 G.2.2.1 o a ca M (xs j4) F2 h2) (Nat.le_of_ble_eq_true rfl) (Nat.le_of_ble_eq_true rfl) rfl rfl (Nat.le_of_ble_eq_true rfl) (show decode code 852 = .ok (.invokevirtual 125, 3) by decide +kernel) h ?_
  intro q5 h
  refine hg_icmp_eq (pc := 855) (tgt := 1140) hC (show decode code 855 = .ok (.if_icmp .eq 285, 3) by decide +kernel) (by decide +kernel) h ?_ ?_
  · intro h
    exact lab (S, v, q5.1) (dc_some h)
  · intro h
    exact (dc_not h).elim
noncomputable def lw_t18 (G : hg_E) (xs : Nat → Int32) (L ox : Nat) (S : hg_S) (v : Int64) (M : md_S) (i : Int32) : Option (hg_S × Int64 × md_S) :=
  (dc_ix (i + 1) L).bind fun j1 => (dc_ix (i + 2) L).bind fun j2 => (hg_chk S (some ox) 0).bind fun b3 => (hm_SE_together G S ox (xs j1) (xs j2)).bind fun q4 => (dc_ix (i + 1) L).bind fun j5 => (dc_ix (i + 2) L).bind fun j6 => (mm_together M (xs j5) (xs j6)).bind fun q7 => if q4 = q7.2 then (some (S, v, q7.1)) else (none)
set_option maxHeartbeats 4000000 in
set_option maxRecDepth 100000 in
theorem lw_c18 {X : dc_X} {l : Launch} (hlt : l.stackTraces = false) {D : va_G} {G : hg_E} {w o ox sb L : Nat} {a : Nat → Nat} {ca : Nat → ClassId} {xs : Nat → Int32} (hC : hg_K X D G code 8 "SignalEngineLaw") (hKm : hl_KM X D (md_T ca)) (hX : lw_X X sb L xs) (hN : hl_N X) (S : hg_S) (v : Int64) (M : md_S) (i : Int32) (F : hg_S × Int64 × md_S → Prop) (lab : ∀ q, F q → hg_G X l room_1 D 8 (lw_W G w o a ca q.1 q.2.1 q.2.2) 1140 [(0, va_rf (some sb)), (1, va_rf (some ox)), (2, va_rf (some o)), (3, va_rf (some w)), (4, .int i)] []) (h : dc_wp (lw_t18 G xs L ox S v M i) F) : hg_G X l room_1 D 8 (lw_W G w o a ca S v M) 860 [(0, va_rf (some sb)), (1, va_rf (some ox)), (2, va_rf (some o)), (3, va_rf (some w)), (4, .int i)] [] := by
  delta lw_t18 at h
  refine hg_aloadn (pc := 860) (j := 1) (i := 1) (r := (some ox)) hC 1 rfl rfl (show decode code 860 = .ok (.aload_n 1, 1) by decide +kernel) ?_
  refine hg_aloadn (pc := 861) (j := 0) (i := 0) (r := (some sb)) hC 0 rfl rfl (show decode code 861 = .ok (.aload_n 0, 1) by decide +kernel) ?_
  refine hg_iload (pc := 862) (i := 4) hC 4 rfl (show decode code 862 = .ok (.iload 4, 2) by decide +kernel) ?_
  refine hg_iconst (pc := 864) (v := 1) hC (show decode code 864 = .ok (.iconst 1, 1) by decide +kernel) (by decide +kernel) ?_
  refine hg_iadd (pc := 865) hC (show decode code 865 = .ok (.iadd, 1) by decide +kernel) ?_
  refine lw_sld (pc := 866) hC hX (show decode code 866 = .ok (.iaload, 1) by decide +kernel) h ?_
  intro j1 h
  refine hg_aloadn (pc := 867) (j := 0) (i := 0) (r := (some sb)) hC 0 rfl rfl (show decode code 867 = .ok (.aload_n 0, 1) by decide +kernel) ?_
  refine hg_iload (pc := 868) (i := 4) hC 4 rfl (show decode code 868 = .ok (.iload 4, 2) by decide +kernel) ?_
  refine hg_iconst (pc := 870) (v := 2) hC (show decode code 870 = .ok (.iconst 2, 1) by decide +kernel) (by decide +kernel) ?_
  refine hg_iadd (pc := 871) hC (show decode code 871 = .ok (.iadd, 1) by decide +kernel) ?_
  refine lw_sld (pc := 872) hC hX (show decode code 872 = .ok (.iaload, 1) by decide +kernel) h ?_
  intro j2 h
  obtain ⟨b3, hb, h⟩ := dc_bind h
  obtain ⟨hb2, hv⟩ := hg_chk_of (C := R_SE) rfl hb
  have hbo : ox = b3 := Option.some.inj hb2
  subst hbo
  refine lw_ci (pc := 873) (b := ox) (As := [.int (xs j1), .int (xs j2)]) (rest := []) (vo := fun q => q) (so := fun q => S) hC cw_SignalEngineLaw_126 (fun q hq => hm_SE_together_ok l D G S ox (xs j1) (xs j2) q hq) (Nat.le_of_ble_eq_true rfl) (Nat.le_of_ble_eq_true rfl) hv rfl (Nat.le_of_ble_eq_true rfl) (show decode code 873 = .ok (.invokevirtual 126, 3) by decide +kernel) h ?_
  intro q4 h
  refine hg_aloadn (pc := 876) (j := 2) (i := 2) (r := (some o)) hC 2 rfl rfl (show decode code 876 = .ok (.aload_n 2, 1) by decide +kernel) ?_
  refine hg_aloadn (pc := 877) (j := 0) (i := 0) (r := (some sb)) hC 0 rfl rfl (show decode code 877 = .ok (.aload_n 0, 1) by decide +kernel) ?_
  refine hg_iload (pc := 878) (i := 4) hC 4 rfl (show decode code 878 = .ok (.iload 4, 2) by decide +kernel) ?_
  refine hg_iconst (pc := 880) (v := 1) hC (show decode code 880 = .ok (.iconst 1, 1) by decide +kernel) (by decide +kernel) ?_
  refine hg_iadd (pc := 881) hC (show decode code 881 = .ok (.iadd, 1) by decide +kernel) ?_
  refine lw_sld (pc := 882) hC hX (show decode code 882 = .ok (.iaload, 1) by decide +kernel) h ?_
  intro j5 h
  refine hg_aloadn (pc := 883) (j := 0) (i := 0) (r := (some sb)) hC 0 rfl rfl (show decode code 883 = .ok (.aload_n 0, 1) by decide +kernel) ?_
  refine hg_iload (pc := 884) (i := 4) hC 4 rfl (show decode code 884 = .ok (.iload 4, 2) by decide +kernel) ?_
  refine hg_iconst (pc := 886) (v := 2) hC (show decode code 886 = .ok (.iconst 2, 1) by decide +kernel) (by decide +kernel) ?_
  refine hg_iadd (pc := 887) hC (show decode code 887 = .ok (.iadd, 1) by decide +kernel) ?_
  refine lw_sld (pc := 888) hC hX (show decode code 888 = .ok (.iaload, 1) by decide +kernel) h ?_
  intro j6 h
  refine lw_mi (pc := 889) (As := [.int (xs j5), .int (xs j6)]) (rest := [.int q4]) (rv := fun q => q.2) (sv := fun q => q.1) hC hKm cw_SignalEngineLaw_129 (fun F2 h2 => mm_together_ok l D G.2.1 G.2.2.1 o a ca M (xs j5) (xs j6) F2 h2) (Nat.le_of_ble_eq_true rfl) (Nat.le_of_ble_eq_true rfl) rfl rfl (Nat.le_of_ble_eq_true rfl) (show decode code 889 = .ok (.invokevirtual 129, 3) by decide +kernel) h ?_
  intro q7 h
  refine hg_icmp_eq (pc := 892) (tgt := 1140) hC (show decode code 892 = .ok (.if_icmp .eq 248, 3) by decide +kernel) (by decide +kernel) h ?_ ?_
  · intro h
    exact lab (S, v, q7.1) (dc_some h)
  · intro h
    exact (dc_not h).elim
noncomputable def lw_t19 (G : hg_E) (xs : Nat → Int32) (L ox : Nat) (S : hg_S) (v : Int64) (M : md_S) (i : Int32) : Option (hg_S × Int64 × md_S) :=
  (hl_classes G S ox v).bind fun q1 => (mm_classes M).bind fun q2 => (mm_thrown q2.1).bind fun q3 => if q3 = q1.2.2 then (if q1.2.2 = 0 then (if (dc_cmp q1.2.1 (Int32.toInt64 q2.2)) = 0 then (some (q1.1, q1.2.1, q2.1)) else (none)) else (some (q1.1, q1.2.1, q2.1))) else (none)
set_option maxHeartbeats 4000000 in
set_option maxRecDepth 100000 in
theorem lw_c19 {X : dc_X} {l : Launch} (hlt : l.stackTraces = false) {D : va_G} {G : hg_E} {w o ox sb L : Nat} {a : Nat → Nat} {ca : Nat → ClassId} {xs : Nat → Int32} (hC : hg_K X D G code 8 "SignalEngineLaw") (hKm : hl_KM X D (md_T ca)) (hX : lw_X X sb L xs) (hN : hl_N X) (S : hg_S) (v : Int64) (M : md_S) (i : Int32) (F : hg_S × Int64 × md_S → Prop) (lab : ∀ q, F q → hg_G X l room_1 D 8 (lw_W G w o a ca q.1 q.2.1 q.2.2) 1140 [(0, va_rf (some sb)), (1, va_rf (some ox)), (2, va_rf (some o)), (3, va_rf (some w)), (4, .int i)] []) (h : dc_wp (lw_t19 G xs L ox S v M i) F) : hg_G X l room_1 D 8 (lw_W G w o a ca S v M) 897 [(0, va_rf (some sb)), (1, va_rf (some ox)), (2, va_rf (some o)), (3, va_rf (some w)), (4, .int i)] [] := by
  delta lw_t19 at h
  refine hg_aloadn (pc := 897) (j := 1) (i := 1) (r := (some ox)) hC 1 rfl rfl (show decode code 897 = .ok (.aload_n 1, 1) by decide +kernel) ?_
  refine hg_aloadn (pc := 898) (j := 3) (i := 3) (r := (some w)) hC 3 rfl rfl (show decode code 898 = .ok (.aload_n 3, 1) by decide +kernel) ?_
  obtain ⟨q1, hq, h⟩ := dc_bind h
  refine hl_w lw_W3 (hl_kS (pc := 899) (As := [.ref ox, .ref w]) (rest := []) (S := (S.1 ++ [lw_o G w v], S.2)) (u := (q1.1.1 ++ [lw_o G w q1.2.1], q1.1.2)) (k := q1.2.2) hC hN cl_130 (hl_classes_ok l hlt D G S ox w v q1 hq) (Nat.le_of_ble_eq_true rfl) (Nat.le_of_ble_eq_true rfl) rfl (Nat.le_of_ble_eq_true rfl) (show decode code 899 = .ok (.invokestatic 130, 3) by decide +kernel) ?_)
  refine hl_w lw_W3.symm ?_
  show hg_G X l room_1 D 8 (lw_W G w o a ca q1.1 q1.2.1 M) 902 [(0, va_rf (some sb)), (1, va_rf (some ox)), (2, va_rf (some o)), (3, va_rf (some w)), (4, .int i)] [.int q1.2.2]
  refine hg_istore (pc := 902) (i := 5) (lv' := [(5, .int q1.2.2), (0, va_rf (some sb)), (1, va_rf (some ox)), (2, va_rf (some o)), (3, va_rf (some w)), (4, .int i)]) hC (Nat.le_of_ble_eq_true rfl) rfl (show decode code 902 = .ok (.istore 5, 2) by decide +kernel) ?_
  refine hg_aloadn (pc := 904) (j := 2) (i := 2) (r := (some o)) hC 3 rfl rfl (show decode code 904 = .ok (.aload_n 2, 1) by decide +kernel) ?_
  refine lw_mi (pc := 905) (As := []) (rest := []) (rv := fun q => q.2) (sv := fun q => q.1) hC hKm cw_SignalEngineLaw_132 (fun F2 h2 => mm_classes_ok l D G.2.1 G.2.2.1 o a ca M F2 h2) (Nat.le_of_ble_eq_true rfl) (Nat.le_of_ble_eq_true rfl) rfl rfl (Nat.le_of_ble_eq_true rfl) (show decode code 905 = .ok (.invokevirtual 132, 3) by decide +kernel) h ?_
  intro q2 h
  refine hg_istore (pc := 908) (i := 6) (lv' := [(6, .int q2.2), (5, .int q1.2.2), (0, va_rf (some sb)), (1, va_rf (some ox)), (2, va_rf (some o)), (3, va_rf (some w)), (4, .int i)]) hC (Nat.le_of_ble_eq_true rfl) rfl (show decode code 908 = .ok (.istore 6, 2) by decide +kernel) ?_
  refine hg_aloadn (pc := 910) (j := 2) (i := 2) (r := (some o)) hC 4 rfl rfl (show decode code 910 = .ok (.aload_n 2, 1) by decide +kernel) ?_
  refine lw_mi (pc := 911) (As := []) (rest := []) (rv := fun q => q) (sv := fun q => q2.1) hC hKm cw_SignalEngineLaw_80 (fun F2 h2 => mm_thrown_ok l D G.2.1 G.2.2.1 o a ca q2.1 F2 h2) (Nat.le_of_ble_eq_true rfl) (Nat.le_of_ble_eq_true rfl) rfl rfl (Nat.le_of_ble_eq_true rfl) (show decode code 911 = .ok (.invokevirtual 80, 3) by decide +kernel) h ?_
  intro q3 h
  refine hg_iload (pc := 914) (i := 5) hC 1 rfl (show decode code 914 = .ok (.iload 5, 2) by decide +kernel) ?_
  refine hg_icmp_eq (pc := 916) (tgt := 921) hC (show decode code 916 = .ok (.if_icmp .eq 5, 3) by decide +kernel) (by decide +kernel) h ?_ ?_
  · intro h
    refine hg_iload (pc := 921) (i := 5) hC 1 rfl (show decode code 921 = .ok (.iload 5, 2) by decide +kernel) ?_
    refine hg_if_ne (pc := 923) (tgt := 938) hC (show decode code 923 = .ok (.ifCond .ne 15, 3) by decide +kernel) (by decide +kernel) h ?_ ?_
    · intro h
      refine hg_aloadn (pc := 926) (j := 3) (i := 3) (r := (some w)) hC 5 rfl rfl (show decode code 926 = .ok (.aload_n 3, 1) by decide +kernel) ?_
      refine hg_iconst (pc := 927) (v := 0) hC (show decode code 927 = .ok (.iconst 0, 1) by decide +kernel) (by decide +kernel) ?_
      refine lw_lald (pc := 928) hC (show decode code 928 = .ok (.laload, 1) by decide +kernel) ?_
      refine hg_iload (pc := 929) (i := 6) hC 0 rfl (show decode code 929 = .ok (.iload 6, 2) by decide +kernel) ?_
      refine hg_i2l (pc := 931) hC (show decode code 931 = .ok (.i2l, 1) by decide +kernel) ?_
      refine hg_lcmp (pc := 932) hC (show decode code 932 = .ok (.lcmp, 1) by decide +kernel) ?_
      refine hg_if_eq (pc := 933) (tgt := 938) hC (show decode code 933 = .ok (.ifCond .eq 5, 3) by decide +kernel) (by decide +kernel) h ?_ ?_
      · intro h
        refine hg_goto (pc := 938) (tgt := 1140) hC (show decode code 938 = .ok (.goto 202, 3) by decide +kernel) (by decide +kernel) ?_
        exact hg_sub [2, 3, 4, 5, 6] rfl (lab (q1.1, q1.2.1, q2.1) (dc_some h))
      · intro h
        exact (dc_not h).elim
    · intro h
      refine hg_goto (pc := 938) (tgt := 1140) hC (show decode code 938 = .ok (.goto 202, 3) by decide +kernel) (by decide +kernel) ?_
      exact hg_sub [2, 3, 4, 5, 6] rfl (lab (q1.1, q1.2.1, q2.1) (dc_some h))
  · intro h
    exact (dc_not h).elim
noncomputable def lw_t20 (G : hg_E) (xs : Nat → Int32) (L ox : Nat) (S : hg_S) (v : Int64) (M : md_S) (i : Int32) : Option (hg_S × Int64 × md_S) :=
  (dc_ix (i + 1) L).bind fun j1 => (hg_chk S (some ox) 0).bind fun b2 => (hm_SE_alike G S ox (xs j1)).bind fun q3 => (dc_ix (i + 1) L).bind fun j4 => (mm_alike M (xs j4)).bind fun q5 => if q3 = q5.2 then (some (S, v, q5.1)) else (none)
set_option maxHeartbeats 4000000 in
set_option maxRecDepth 100000 in
theorem lw_c20 {X : dc_X} {l : Launch} (hlt : l.stackTraces = false) {D : va_G} {G : hg_E} {w o ox sb L : Nat} {a : Nat → Nat} {ca : Nat → ClassId} {xs : Nat → Int32} (hC : hg_K X D G code 8 "SignalEngineLaw") (hKm : hl_KM X D (md_T ca)) (hX : lw_X X sb L xs) (hN : hl_N X) (S : hg_S) (v : Int64) (M : md_S) (i : Int32) (F : hg_S × Int64 × md_S → Prop) (lab : ∀ q, F q → hg_G X l room_1 D 8 (lw_W G w o a ca q.1 q.2.1 q.2.2) 1140 [(0, va_rf (some sb)), (1, va_rf (some ox)), (2, va_rf (some o)), (3, va_rf (some w)), (4, .int i)] []) (h : dc_wp (lw_t20 G xs L ox S v M i) F) : hg_G X l room_1 D 8 (lw_W G w o a ca S v M) 941 [(0, va_rf (some sb)), (1, va_rf (some ox)), (2, va_rf (some o)), (3, va_rf (some w)), (4, .int i)] [] := by
  delta lw_t20 at h
  refine hg_aloadn (pc := 941) (j := 1) (i := 1) (r := (some ox)) hC 1 rfl rfl (show decode code 941 = .ok (.aload_n 1, 1) by decide +kernel) ?_
  refine hg_aloadn (pc := 942) (j := 0) (i := 0) (r := (some sb)) hC 0 rfl rfl (show decode code 942 = .ok (.aload_n 0, 1) by decide +kernel) ?_
  refine hg_iload (pc := 943) (i := 4) hC 4 rfl (show decode code 943 = .ok (.iload 4, 2) by decide +kernel) ?_
  refine hg_iconst (pc := 945) (v := 1) hC (show decode code 945 = .ok (.iconst 1, 1) by decide +kernel) (by decide +kernel) ?_
  refine hg_iadd (pc := 946) hC (show decode code 946 = .ok (.iadd, 1) by decide +kernel) ?_
  refine lw_sld (pc := 947) hC hX (show decode code 947 = .ok (.iaload, 1) by decide +kernel) h ?_
  intro j1 h
  obtain ⟨b2, hb, h⟩ := dc_bind h
  obtain ⟨hb2, hv⟩ := hg_chk_of (C := R_SE) rfl hb
  have hbo : ox = b2 := Option.some.inj hb2
  subst hbo
  refine lw_ci (pc := 948) (b := ox) (As := [.int (xs j1)]) (rest := []) (vo := fun q => q) (so := fun q => S) hC cw_SignalEngineLaw_133 (fun q hq => hm_SE_alike_ok l D G S ox (xs j1) q hq) (Nat.le_of_ble_eq_true rfl) (Nat.le_of_ble_eq_true rfl) hv rfl (Nat.le_of_ble_eq_true rfl) (show decode code 948 = .ok (.invokevirtual 133, 3) by decide +kernel) h ?_
  intro q3 h
  refine hg_aloadn (pc := 951) (j := 2) (i := 2) (r := (some o)) hC 2 rfl rfl (show decode code 951 = .ok (.aload_n 2, 1) by decide +kernel) ?_
  refine hg_aloadn (pc := 952) (j := 0) (i := 0) (r := (some sb)) hC 0 rfl rfl (show decode code 952 = .ok (.aload_n 0, 1) by decide +kernel) ?_
  refine hg_iload (pc := 953) (i := 4) hC 4 rfl (show decode code 953 = .ok (.iload 4, 2) by decide +kernel) ?_
  refine hg_iconst (pc := 955) (v := 1) hC (show decode code 955 = .ok (.iconst 1, 1) by decide +kernel) (by decide +kernel) ?_
  refine hg_iadd (pc := 956) hC (show decode code 956 = .ok (.iadd, 1) by decide +kernel) ?_
  refine lw_sld (pc := 957) hC hX (show decode code 957 = .ok (.iaload, 1) by decide +kernel) h ?_
  intro j4 h
  refine lw_mi (pc := 958) (As := [.int (xs j4)]) (rest := [.int q3]) (rv := fun q => q.2) (sv := fun q => q.1) hC hKm cw_SignalEngineLaw_136 (fun F2 h2 => mm_alike_ok l D G.2.1 G.2.2.1 o a ca M (xs j4) F2 h2) (Nat.le_of_ble_eq_true rfl) (Nat.le_of_ble_eq_true rfl) rfl rfl (Nat.le_of_ble_eq_true rfl) (show decode code 958 = .ok (.invokevirtual 136, 3) by decide +kernel) h ?_
  intro q5 h
  refine hg_icmp_eq (pc := 961) (tgt := 1140) hC (show decode code 961 = .ok (.if_icmp .eq 179, 3) by decide +kernel) (by decide +kernel) h ?_ ?_
  · intro h
    exact lab (S, v, q5.1) (dc_some h)
  · intro h
    exact (dc_not h).elim
noncomputable def lw_t21 (G : hg_E) (xs : Nat → Int32) (L ox : Nat) (S : hg_S) (v : Int64) (M : md_S) (i : Int32) : Option (hg_S × Int64 × md_S) :=
  (hl_lay G S ox v).bind fun q1 => (mm_lay_0 M).bind fun q2 => (mm_thrown q2.1).bind fun q3 => if q3 = q1.2.2 then (if q1.2.2 = 0 then (if (dc_cmp q1.2.1 (Int32.toInt64 q2.2)) = 0 then (some (q1.1, q1.2.1, q2.1)) else (none)) else (some (q1.1, q1.2.1, q2.1))) else (none)
set_option maxHeartbeats 4000000 in
set_option maxRecDepth 100000 in
theorem lw_c21 {X : dc_X} {l : Launch} (hlt : l.stackTraces = false) {D : va_G} {G : hg_E} {w o ox sb L : Nat} {a : Nat → Nat} {ca : Nat → ClassId} {xs : Nat → Int32} (hC : hg_K X D G code 8 "SignalEngineLaw") (hKm : hl_KM X D (md_T ca)) (hX : lw_X X sb L xs) (hN : hl_N X) (S : hg_S) (v : Int64) (M : md_S) (i : Int32) (F : hg_S × Int64 × md_S → Prop) (lab : ∀ q, F q → hg_G X l room_1 D 8 (lw_W G w o a ca q.1 q.2.1 q.2.2) 1140 [(0, va_rf (some sb)), (1, va_rf (some ox)), (2, va_rf (some o)), (3, va_rf (some w)), (4, .int i)] []) (h : dc_wp (lw_t21 G xs L ox S v M i) F) : hg_G X l room_1 D 8 (lw_W G w o a ca S v M) 966 [(0, va_rf (some sb)), (1, va_rf (some ox)), (2, va_rf (some o)), (3, va_rf (some w)), (4, .int i)] [] := by
  delta lw_t21 at h
  refine hg_aloadn (pc := 966) (j := 1) (i := 1) (r := (some ox)) hC 1 rfl rfl (show decode code 966 = .ok (.aload_n 1, 1) by decide +kernel) ?_
  refine hg_aloadn (pc := 967) (j := 3) (i := 3) (r := (some w)) hC 3 rfl rfl (show decode code 967 = .ok (.aload_n 3, 1) by decide +kernel) ?_
  obtain ⟨q1, hq, h⟩ := dc_bind h
  refine hl_w lw_W3 (hl_kS (pc := 968) (As := [.ref ox, .ref w]) (rest := []) (S := (S.1 ++ [lw_o G w v], S.2)) (u := (q1.1.1 ++ [lw_o G w q1.2.1], q1.1.2)) (k := q1.2.2) hC hN cl_137 (hl_lay_ok l hlt D G S ox w v q1 hq) (Nat.le_of_ble_eq_true rfl) (Nat.le_of_ble_eq_true rfl) rfl (Nat.le_of_ble_eq_true rfl) (show decode code 968 = .ok (.invokestatic 137, 3) by decide +kernel) ?_)
  refine hl_w lw_W3.symm ?_
  show hg_G X l room_1 D 8 (lw_W G w o a ca q1.1 q1.2.1 M) 971 [(0, va_rf (some sb)), (1, va_rf (some ox)), (2, va_rf (some o)), (3, va_rf (some w)), (4, .int i)] [.int q1.2.2]
  refine hg_istore (pc := 971) (i := 5) (lv' := [(5, .int q1.2.2), (0, va_rf (some sb)), (1, va_rf (some ox)), (2, va_rf (some o)), (3, va_rf (some w)), (4, .int i)]) hC (Nat.le_of_ble_eq_true rfl) rfl (show decode code 971 = .ok (.istore 5, 2) by decide +kernel) ?_
  refine hg_aloadn (pc := 973) (j := 2) (i := 2) (r := (some o)) hC 3 rfl rfl (show decode code 973 = .ok (.aload_n 2, 1) by decide +kernel) ?_
  refine lw_mi (pc := 974) (As := []) (rest := []) (rv := fun q => q.2) (sv := fun q => q.1) hC hKm cw_SignalEngineLaw_139 (fun F2 h2 => mm_lay_0_ok l D G.2.1 G.2.2.1 o a ca M F2 h2) (Nat.le_of_ble_eq_true rfl) (Nat.le_of_ble_eq_true rfl) rfl rfl (Nat.le_of_ble_eq_true rfl) (show decode code 974 = .ok (.invokevirtual 139, 3) by decide +kernel) h ?_
  intro q2 h
  refine hg_istore (pc := 977) (i := 6) (lv' := [(6, .int q2.2), (5, .int q1.2.2), (0, va_rf (some sb)), (1, va_rf (some ox)), (2, va_rf (some o)), (3, va_rf (some w)), (4, .int i)]) hC (Nat.le_of_ble_eq_true rfl) rfl (show decode code 977 = .ok (.istore 6, 2) by decide +kernel) ?_
  refine hg_aloadn (pc := 979) (j := 2) (i := 2) (r := (some o)) hC 4 rfl rfl (show decode code 979 = .ok (.aload_n 2, 1) by decide +kernel) ?_
  refine lw_mi (pc := 980) (As := []) (rest := []) (rv := fun q => q) (sv := fun q => q2.1) hC hKm cw_SignalEngineLaw_80 (fun F2 h2 => mm_thrown_ok l D G.2.1 G.2.2.1 o a ca q2.1 F2 h2) (Nat.le_of_ble_eq_true rfl) (Nat.le_of_ble_eq_true rfl) rfl rfl (Nat.le_of_ble_eq_true rfl) (show decode code 980 = .ok (.invokevirtual 80, 3) by decide +kernel) h ?_
  intro q3 h
  refine hg_iload (pc := 983) (i := 5) hC 1 rfl (show decode code 983 = .ok (.iload 5, 2) by decide +kernel) ?_
  refine hg_icmp_eq (pc := 985) (tgt := 990) hC (show decode code 985 = .ok (.if_icmp .eq 5, 3) by decide +kernel) (by decide +kernel) h ?_ ?_
  · intro h
    refine hg_iload (pc := 990) (i := 5) hC 1 rfl (show decode code 990 = .ok (.iload 5, 2) by decide +kernel) ?_
    refine hg_if_ne (pc := 992) (tgt := 1007) hC (show decode code 992 = .ok (.ifCond .ne 15, 3) by decide +kernel) (by decide +kernel) h ?_ ?_
    · intro h
      refine hg_aloadn (pc := 995) (j := 3) (i := 3) (r := (some w)) hC 5 rfl rfl (show decode code 995 = .ok (.aload_n 3, 1) by decide +kernel) ?_
      refine hg_iconst (pc := 996) (v := 0) hC (show decode code 996 = .ok (.iconst 0, 1) by decide +kernel) (by decide +kernel) ?_
      refine lw_lald (pc := 997) hC (show decode code 997 = .ok (.laload, 1) by decide +kernel) ?_
      refine hg_iload (pc := 998) (i := 6) hC 0 rfl (show decode code 998 = .ok (.iload 6, 2) by decide +kernel) ?_
      refine hg_i2l (pc := 1000) hC (show decode code 1000 = .ok (.i2l, 1) by decide +kernel) ?_
      refine hg_lcmp (pc := 1001) hC (show decode code 1001 = .ok (.lcmp, 1) by decide +kernel) ?_
      refine hg_if_eq (pc := 1002) (tgt := 1007) hC (show decode code 1002 = .ok (.ifCond .eq 5, 3) by decide +kernel) (by decide +kernel) h ?_ ?_
      · intro h
        refine hg_goto (pc := 1007) (tgt := 1140) hC (show decode code 1007 = .ok (.goto 133, 3) by decide +kernel) (by decide +kernel) ?_
        exact hg_sub [2, 3, 4, 5, 6] rfl (lab (q1.1, q1.2.1, q2.1) (dc_some h))
      · intro h
        exact (dc_not h).elim
    · intro h
      refine hg_goto (pc := 1007) (tgt := 1140) hC (show decode code 1007 = .ok (.goto 133, 3) by decide +kernel) (by decide +kernel) ?_
      exact hg_sub [2, 3, 4, 5, 6] rfl (lab (q1.1, q1.2.1, q2.1) (dc_some h))
  · intro h
    exact (dc_not h).elim
noncomputable def lw_t22 (G : hg_E) (xs : Nat → Int32) (L ox : Nat) (S : hg_S) (v : Int64) (M : md_S) (i : Int32) : Option (hg_S × Int64 × md_S) :=
  (dc_ix (i + 1) L).bind fun j1 => (hl_pass G S ox (xs j1) v).bind fun q2 => (dc_ix (i + 1) L).bind fun j3 => (mm_pass M (xs j3)).bind fun q4 => (mm_thrown q4.1).bind fun q5 => if q5 = q2.2.2 then (if q2.2.2 = 0 then (if (dc_cmp q2.2.1 q4.2) = 0 then (some (q2.1, q2.2.1, q4.1)) else (none)) else (some (q2.1, q2.2.1, q4.1))) else (none)
set_option maxHeartbeats 4000000 in
set_option maxRecDepth 100000 in
theorem lw_c22 {X : dc_X} {l : Launch} (hlt : l.stackTraces = false) {D : va_G} {G : hg_E} {w o ox sb L : Nat} {a : Nat → Nat} {ca : Nat → ClassId} {xs : Nat → Int32} (hC : hg_K X D G code 8 "SignalEngineLaw") (hKm : hl_KM X D (md_T ca)) (hX : lw_X X sb L xs) (hN : hl_N X) (S : hg_S) (v : Int64) (M : md_S) (i : Int32) (F : hg_S × Int64 × md_S → Prop) (lab : ∀ q, F q → hg_G X l room_1 D 8 (lw_W G w o a ca q.1 q.2.1 q.2.2) 1140 [(0, va_rf (some sb)), (1, va_rf (some ox)), (2, va_rf (some o)), (3, va_rf (some w)), (4, .int i)] []) (h : dc_wp (lw_t22 G xs L ox S v M i) F) : hg_G X l room_1 D 8 (lw_W G w o a ca S v M) 1010 [(0, va_rf (some sb)), (1, va_rf (some ox)), (2, va_rf (some o)), (3, va_rf (some w)), (4, .int i)] [] := by
  delta lw_t22 at h
  refine hg_aloadn (pc := 1010) (j := 1) (i := 1) (r := (some ox)) hC 1 rfl rfl (show decode code 1010 = .ok (.aload_n 1, 1) by decide +kernel) ?_
  refine hg_aloadn (pc := 1011) (j := 0) (i := 0) (r := (some sb)) hC 0 rfl rfl (show decode code 1011 = .ok (.aload_n 0, 1) by decide +kernel) ?_
  refine hg_iload (pc := 1012) (i := 4) hC 4 rfl (show decode code 1012 = .ok (.iload 4, 2) by decide +kernel) ?_
  refine hg_iconst (pc := 1014) (v := 1) hC (show decode code 1014 = .ok (.iconst 1, 1) by decide +kernel) (by decide +kernel) ?_
  refine hg_iadd (pc := 1015) hC (show decode code 1015 = .ok (.iadd, 1) by decide +kernel) ?_
  refine lw_sld (pc := 1016) hC hX (show decode code 1016 = .ok (.iaload, 1) by decide +kernel) h ?_
  intro j1 h
  refine hg_aloadn (pc := 1017) (j := 3) (i := 3) (r := (some w)) hC 3 rfl rfl (show decode code 1017 = .ok (.aload_n 3, 1) by decide +kernel) ?_
  obtain ⟨q2, hq, h⟩ := dc_bind h
  refine hl_w lw_W3 (hl_kS (pc := 1018) (As := [.ref ox, .int (xs j1), .ref w]) (rest := []) (S := (S.1 ++ [lw_o G w v], S.2)) (u := (q2.1.1 ++ [lw_o G w q2.2.1], q2.1.2)) (k := q2.2.2) hC hN cl_140 (hl_pass_ok l hlt D G S ox w (xs j1) v q2 hq) (Nat.le_of_ble_eq_true rfl) (Nat.le_of_ble_eq_true rfl) rfl (Nat.le_of_ble_eq_true rfl) (show decode code 1018 = .ok (.invokestatic 140, 3) by decide +kernel) ?_)
  refine hl_w lw_W3.symm ?_
  show hg_G X l room_1 D 8 (lw_W G w o a ca q2.1 q2.2.1 M) 1021 [(0, va_rf (some sb)), (1, va_rf (some ox)), (2, va_rf (some o)), (3, va_rf (some w)), (4, .int i)] [.int q2.2.2]
  refine hg_istore (pc := 1021) (i := 5) (lv' := [(5, .int q2.2.2), (0, va_rf (some sb)), (1, va_rf (some ox)), (2, va_rf (some o)), (3, va_rf (some w)), (4, .int i)]) hC (Nat.le_of_ble_eq_true rfl) rfl (show decode code 1021 = .ok (.istore 5, 2) by decide +kernel) ?_
  refine hg_aloadn (pc := 1023) (j := 2) (i := 2) (r := (some o)) hC 3 rfl rfl (show decode code 1023 = .ok (.aload_n 2, 1) by decide +kernel) ?_
  refine hg_aloadn (pc := 1024) (j := 0) (i := 0) (r := (some sb)) hC 1 rfl rfl (show decode code 1024 = .ok (.aload_n 0, 1) by decide +kernel) ?_
  refine hg_iload (pc := 1025) (i := 4) hC 5 rfl (show decode code 1025 = .ok (.iload 4, 2) by decide +kernel) ?_
  refine hg_iconst (pc := 1027) (v := 1) hC (show decode code 1027 = .ok (.iconst 1, 1) by decide +kernel) (by decide +kernel) ?_
  refine hg_iadd (pc := 1028) hC (show decode code 1028 = .ok (.iadd, 1) by decide +kernel) ?_
  refine lw_sld (pc := 1029) hC hX (show decode code 1029 = .ok (.iaload, 1) by decide +kernel) h ?_
  intro j3 h
  refine lw_ml (pc := 1030) (As := [.int (xs j3)]) (rest := []) (rv := fun q => q.2) (sv := fun q => q.1) hC hKm cw_SignalEngineLaw_142 (fun F2 h2 => mm_pass_ok l D G.2.1 G.2.2.1 o a ca M (xs j3) F2 h2) (Nat.le_of_ble_eq_true rfl) (Nat.le_of_ble_eq_true rfl) rfl rfl (Nat.le_of_ble_eq_true rfl) (show decode code 1030 = .ok (.invokevirtual 142, 3) by decide +kernel) h ?_
  intro q4 h
  refine hg_lstore (pc := 1033) (i := 6) (lv' := [(6, .long q4.2), (5, .int q2.2.2), (0, va_rf (some sb)), (1, va_rf (some ox)), (2, va_rf (some o)), (3, va_rf (some w)), (4, .int i)]) hC (Nat.le_of_ble_eq_true rfl) rfl (show decode code 1033 = .ok (.lstore 6, 2) by decide +kernel) ?_
  refine hg_aloadn (pc := 1035) (j := 2) (i := 2) (r := (some o)) hC 4 rfl rfl (show decode code 1035 = .ok (.aload_n 2, 1) by decide +kernel) ?_
  refine lw_mi (pc := 1036) (As := []) (rest := []) (rv := fun q => q) (sv := fun q => q4.1) hC hKm cw_SignalEngineLaw_80 (fun F2 h2 => mm_thrown_ok l D G.2.1 G.2.2.1 o a ca q4.1 F2 h2) (Nat.le_of_ble_eq_true rfl) (Nat.le_of_ble_eq_true rfl) rfl rfl (Nat.le_of_ble_eq_true rfl) (show decode code 1036 = .ok (.invokevirtual 80, 3) by decide +kernel) h ?_
  intro q5 h
  refine hg_iload (pc := 1039) (i := 5) hC 1 rfl (show decode code 1039 = .ok (.iload 5, 2) by decide +kernel) ?_
  refine hg_icmp_eq (pc := 1041) (tgt := 1046) hC (show decode code 1041 = .ok (.if_icmp .eq 5, 3) by decide +kernel) (by decide +kernel) h ?_ ?_
  · intro h
    refine hg_iload (pc := 1046) (i := 5) hC 1 rfl (show decode code 1046 = .ok (.iload 5, 2) by decide +kernel) ?_
    refine hg_if_ne (pc := 1048) (tgt := 1062) hC (show decode code 1048 = .ok (.ifCond .ne 14, 3) by decide +kernel) (by decide +kernel) h ?_ ?_
    · intro h
      refine hg_aloadn (pc := 1051) (j := 3) (i := 3) (r := (some w)) hC 5 rfl rfl (show decode code 1051 = .ok (.aload_n 3, 1) by decide +kernel) ?_
      refine hg_iconst (pc := 1052) (v := 0) hC (show decode code 1052 = .ok (.iconst 0, 1) by decide +kernel) (by decide +kernel) ?_
      refine lw_lald (pc := 1053) hC (show decode code 1053 = .ok (.laload, 1) by decide +kernel) ?_
      refine hg_lload (pc := 1054) (i := 6) hC 0 rfl (show decode code 1054 = .ok (.lload 6, 2) by decide +kernel) ?_
      refine hg_lcmp (pc := 1056) hC (show decode code 1056 = .ok (.lcmp, 1) by decide +kernel) ?_
      refine hg_if_eq (pc := 1057) (tgt := 1062) hC (show decode code 1057 = .ok (.ifCond .eq 5, 3) by decide +kernel) (by decide +kernel) h ?_ ?_
      · intro h
        refine hg_goto (pc := 1062) (tgt := 1140) hC (show decode code 1062 = .ok (.goto 78, 3) by decide +kernel) (by decide +kernel) ?_
        exact hg_sub [2, 3, 4, 5, 6] rfl (lab (q2.1, q2.2.1, q4.1) (dc_some h))
      · intro h
        exact (dc_not h).elim
    · intro h
      refine hg_goto (pc := 1062) (tgt := 1140) hC (show decode code 1062 = .ok (.goto 78, 3) by decide +kernel) (by decide +kernel) ?_
      exact hg_sub [2, 3, 4, 5, 6] rfl (lab (q2.1, q2.2.1, q4.1) (dc_some h))
  · intro h
    exact (dc_not h).elim
noncomputable def lw_t23 (G : hg_E) (xs : Nat → Int32) (L ox : Nat) (S : hg_S) (v : Int64) (M : md_S) (i : Int32) : Option (hg_S × Int64 × md_S) :=
  (dc_ix (i + 1) L).bind fun j1 => (hg_chk S (some ox) 0).bind fun b2 => (hm_SE_level G S ox (xs j1)).bind fun q3 => (dc_ix (i + 1) L).bind fun j4 => (mm_level M (xs j4)).bind fun q5 => if q3 = q5.2 then (some (S, v, q5.1)) else (none)
set_option maxHeartbeats 4000000 in
set_option maxRecDepth 100000 in
theorem lw_c23 {X : dc_X} {l : Launch} (hlt : l.stackTraces = false) {D : va_G} {G : hg_E} {w o ox sb L : Nat} {a : Nat → Nat} {ca : Nat → ClassId} {xs : Nat → Int32} (hC : hg_K X D G code 8 "SignalEngineLaw") (hKm : hl_KM X D (md_T ca)) (hX : lw_X X sb L xs) (hN : hl_N X) (S : hg_S) (v : Int64) (M : md_S) (i : Int32) (F : hg_S × Int64 × md_S → Prop) (lab : ∀ q, F q → hg_G X l room_1 D 8 (lw_W G w o a ca q.1 q.2.1 q.2.2) 1140 [(0, va_rf (some sb)), (1, va_rf (some ox)), (2, va_rf (some o)), (3, va_rf (some w)), (4, .int i)] []) (h : dc_wp (lw_t23 G xs L ox S v M i) F) : hg_G X l room_1 D 8 (lw_W G w o a ca S v M) 1065 [(0, va_rf (some sb)), (1, va_rf (some ox)), (2, va_rf (some o)), (3, va_rf (some w)), (4, .int i)] [] := by
  delta lw_t23 at h
  refine hg_aloadn (pc := 1065) (j := 1) (i := 1) (r := (some ox)) hC 1 rfl rfl (show decode code 1065 = .ok (.aload_n 1, 1) by decide +kernel) ?_
  refine hg_aloadn (pc := 1066) (j := 0) (i := 0) (r := (some sb)) hC 0 rfl rfl (show decode code 1066 = .ok (.aload_n 0, 1) by decide +kernel) ?_
  refine hg_iload (pc := 1067) (i := 4) hC 4 rfl (show decode code 1067 = .ok (.iload 4, 2) by decide +kernel) ?_
  refine hg_iconst (pc := 1069) (v := 1) hC (show decode code 1069 = .ok (.iconst 1, 1) by decide +kernel) (by decide +kernel) ?_
  refine hg_iadd (pc := 1070) hC (show decode code 1070 = .ok (.iadd, 1) by decide +kernel) ?_
  refine lw_sld (pc := 1071) hC hX (show decode code 1071 = .ok (.iaload, 1) by decide +kernel) h ?_
  intro j1 h
  obtain ⟨b2, hb, h⟩ := dc_bind h
  obtain ⟨hb2, hv⟩ := hg_chk_of (C := R_SE) rfl hb
  have hbo : ox = b2 := Option.some.inj hb2
  subst hbo
  refine lw_ci (pc := 1072) (b := ox) (As := [.int (xs j1)]) (rest := []) (vo := fun q => q) (so := fun q => S) hC cw_SignalEngineLaw_143 (fun q hq => hm_SE_level_ok l D G S ox (xs j1) q hq) (Nat.le_of_ble_eq_true rfl) (Nat.le_of_ble_eq_true rfl) hv rfl (Nat.le_of_ble_eq_true rfl) (show decode code 1072 = .ok (.invokevirtual 143, 3) by decide +kernel) h ?_
  intro q3 h
  refine hg_aloadn (pc := 1075) (j := 2) (i := 2) (r := (some o)) hC 2 rfl rfl (show decode code 1075 = .ok (.aload_n 2, 1) by decide +kernel) ?_
  refine hg_aloadn (pc := 1076) (j := 0) (i := 0) (r := (some sb)) hC 0 rfl rfl (show decode code 1076 = .ok (.aload_n 0, 1) by decide +kernel) ?_
  refine hg_iload (pc := 1077) (i := 4) hC 4 rfl (show decode code 1077 = .ok (.iload 4, 2) by decide +kernel) ?_
  refine hg_iconst (pc := 1079) (v := 1) hC (show decode code 1079 = .ok (.iconst 1, 1) by decide +kernel) (by decide +kernel) ?_
  refine hg_iadd (pc := 1080) hC (show decode code 1080 = .ok (.iadd, 1) by decide +kernel) ?_
  refine lw_sld (pc := 1081) hC hX (show decode code 1081 = .ok (.iaload, 1) by decide +kernel) h ?_
  intro j4 h
  refine lw_mi (pc := 1082) (As := [.int (xs j4)]) (rest := [.int q3]) (rv := fun q => q.2) (sv := fun q => q.1) hC hKm cw_SignalEngineLaw_146 (fun F2 h2 => mm_level_ok l D G.2.1 G.2.2.1 o a ca M (xs j4) F2 h2) (Nat.le_of_ble_eq_true rfl) (Nat.le_of_ble_eq_true rfl) rfl rfl (Nat.le_of_ble_eq_true rfl) (show decode code 1082 = .ok (.invokevirtual 146, 3) by decide +kernel) h ?_
  intro q5 h
  refine hg_icmp_eq (pc := 1085) (tgt := 1140) hC (show decode code 1085 = .ok (.if_icmp .eq 55, 3) by decide +kernel) (by decide +kernel) h ?_ ?_
  · intro h
    exact lab (S, v, q5.1) (dc_some h)
  · intro h
    exact (dc_not h).elim
noncomputable def lw_t24 (G : hg_E) (xs : Nat → Int32) (L ox : Nat) (S : hg_S) (v : Int64) (M : md_S) (i : Int32) : Option (hg_S × Int64 × md_S) :=
  (dc_ix (i + 1) L).bind fun j1 => (hg_chk S (some ox) 0).bind fun b2 => (hm_SE_size G S ox (xs j1)).bind fun q3 => (dc_ix (i + 1) L).bind fun j4 => (mm_size M (xs j4)).bind fun q5 => if q3.2 = q5.2 then (some (q3.1, v, q5.1)) else (none)
set_option maxHeartbeats 4000000 in
set_option maxRecDepth 100000 in
theorem lw_c24 {X : dc_X} {l : Launch} (hlt : l.stackTraces = false) {D : va_G} {G : hg_E} {w o ox sb L : Nat} {a : Nat → Nat} {ca : Nat → ClassId} {xs : Nat → Int32} (hC : hg_K X D G code 8 "SignalEngineLaw") (hKm : hl_KM X D (md_T ca)) (hX : lw_X X sb L xs) (hN : hl_N X) (S : hg_S) (v : Int64) (M : md_S) (i : Int32) (F : hg_S × Int64 × md_S → Prop) (lab : ∀ q, F q → hg_G X l room_1 D 8 (lw_W G w o a ca q.1 q.2.1 q.2.2) 1140 [(0, va_rf (some sb)), (1, va_rf (some ox)), (2, va_rf (some o)), (3, va_rf (some w)), (4, .int i)] []) (h : dc_wp (lw_t24 G xs L ox S v M i) F) : hg_G X l room_1 D 8 (lw_W G w o a ca S v M) 1090 [(0, va_rf (some sb)), (1, va_rf (some ox)), (2, va_rf (some o)), (3, va_rf (some w)), (4, .int i)] [] := by
  delta lw_t24 at h
  refine hg_aloadn (pc := 1090) (j := 1) (i := 1) (r := (some ox)) hC 1 rfl rfl (show decode code 1090 = .ok (.aload_n 1, 1) by decide +kernel) ?_
  refine hg_aloadn (pc := 1091) (j := 0) (i := 0) (r := (some sb)) hC 0 rfl rfl (show decode code 1091 = .ok (.aload_n 0, 1) by decide +kernel) ?_
  refine hg_iload (pc := 1092) (i := 4) hC 4 rfl (show decode code 1092 = .ok (.iload 4, 2) by decide +kernel) ?_
  refine hg_iconst (pc := 1094) (v := 1) hC (show decode code 1094 = .ok (.iconst 1, 1) by decide +kernel) (by decide +kernel) ?_
  refine hg_iadd (pc := 1095) hC (show decode code 1095 = .ok (.iadd, 1) by decide +kernel) ?_
  refine lw_sld (pc := 1096) hC hX (show decode code 1096 = .ok (.iaload, 1) by decide +kernel) h ?_
  intro j1 h
  obtain ⟨b2, hb, h⟩ := dc_bind h
  obtain ⟨hb2, hv⟩ := hg_chk_of (C := R_SE) rfl hb
  have hbo : ox = b2 := Option.some.inj hb2
  subst hbo
  refine lw_ci (pc := 1097) (b := ox) (As := [.int (xs j1)]) (rest := []) (vo := fun q => q.2) (so := fun q => q.1) hC cw_SignalEngineLaw_147 (fun q hq => hm_SE_size_ok l D G S ox (xs j1) q hq) (Nat.le_of_ble_eq_true rfl) (Nat.le_of_ble_eq_true rfl) hv rfl (Nat.le_of_ble_eq_true rfl) (show decode code 1097 = .ok (.invokevirtual 147, 3) by decide +kernel) h ?_
  intro q3 h
  refine hg_aloadn (pc := 1100) (j := 2) (i := 2) (r := (some o)) hC 2 rfl rfl (show decode code 1100 = .ok (.aload_n 2, 1) by decide +kernel) ?_
  refine hg_aloadn (pc := 1101) (j := 0) (i := 0) (r := (some sb)) hC 0 rfl rfl (show decode code 1101 = .ok (.aload_n 0, 1) by decide +kernel) ?_
  refine hg_iload (pc := 1102) (i := 4) hC 4 rfl (show decode code 1102 = .ok (.iload 4, 2) by decide +kernel) ?_
  refine hg_iconst (pc := 1104) (v := 1) hC (show decode code 1104 = .ok (.iconst 1, 1) by decide +kernel) (by decide +kernel) ?_
  refine hg_iadd (pc := 1105) hC (show decode code 1105 = .ok (.iadd, 1) by decide +kernel) ?_
  refine lw_sld (pc := 1106) hC hX (show decode code 1106 = .ok (.iaload, 1) by decide +kernel) h ?_
  intro j4 h
  refine lw_mi (pc := 1107) (As := [.int (xs j4)]) (rest := [.int q3.2]) (rv := fun q => q.2) (sv := fun q => q.1) hC hKm cw_SignalEngineLaw_150 (fun F2 h2 => mm_size_ok l D G.2.1 G.2.2.1 o a ca M (xs j4) F2 h2) (Nat.le_of_ble_eq_true rfl) (Nat.le_of_ble_eq_true rfl) rfl rfl (Nat.le_of_ble_eq_true rfl) (show decode code 1107 = .ok (.invokevirtual 150, 3) by decide +kernel) h ?_
  intro q5 h
  refine hg_icmp_eq (pc := 1110) (tgt := 1140) hC (show decode code 1110 = .ok (.if_icmp .eq 30, 3) by decide +kernel) (by decide +kernel) h ?_ ?_
  · intro h
    exact lab (q3.1, v, q5.1) (dc_some h)
  · intro h
    exact (dc_not h).elim
noncomputable def lw_t25 (G : hg_E) (xs : Nat → Int32) (L ox : Nat) (S : hg_S) (v : Int64) (M : md_S) (i : Int32) : Option (hg_S × Int64 × md_S) :=
  (dc_ix (i + 1) L).bind fun j1 => (hg_chk S (some ox) 0).bind fun b2 => (hm_SE_count G S ox (xs j1)).bind fun q3 => (dc_ix (i + 1) L).bind fun j4 => (mm_count M (xs j4)).bind fun q5 => if q3 = q5.2 then (some (S, v, q5.1)) else (none)
set_option maxHeartbeats 4000000 in
set_option maxRecDepth 100000 in
theorem lw_c25 {X : dc_X} {l : Launch} (hlt : l.stackTraces = false) {D : va_G} {G : hg_E} {w o ox sb L : Nat} {a : Nat → Nat} {ca : Nat → ClassId} {xs : Nat → Int32} (hC : hg_K X D G code 8 "SignalEngineLaw") (hKm : hl_KM X D (md_T ca)) (hX : lw_X X sb L xs) (hN : hl_N X) (S : hg_S) (v : Int64) (M : md_S) (i : Int32) (F : hg_S × Int64 × md_S → Prop) (lab : ∀ q, F q → hg_G X l room_1 D 8 (lw_W G w o a ca q.1 q.2.1 q.2.2) 1140 [(0, va_rf (some sb)), (1, va_rf (some ox)), (2, va_rf (some o)), (3, va_rf (some w)), (4, .int i)] []) (h : dc_wp (lw_t25 G xs L ox S v M i) F) : hg_G X l room_1 D 8 (lw_W G w o a ca S v M) 1115 [(0, va_rf (some sb)), (1, va_rf (some ox)), (2, va_rf (some o)), (3, va_rf (some w)), (4, .int i)] [] := by
  delta lw_t25 at h
  refine hg_aloadn (pc := 1115) (j := 1) (i := 1) (r := (some ox)) hC 1 rfl rfl (show decode code 1115 = .ok (.aload_n 1, 1) by decide +kernel) ?_
  refine hg_aloadn (pc := 1116) (j := 0) (i := 0) (r := (some sb)) hC 0 rfl rfl (show decode code 1116 = .ok (.aload_n 0, 1) by decide +kernel) ?_
  refine hg_iload (pc := 1117) (i := 4) hC 4 rfl (show decode code 1117 = .ok (.iload 4, 2) by decide +kernel) ?_
  refine hg_iconst (pc := 1119) (v := 1) hC (show decode code 1119 = .ok (.iconst 1, 1) by decide +kernel) (by decide +kernel) ?_
  refine hg_iadd (pc := 1120) hC (show decode code 1120 = .ok (.iadd, 1) by decide +kernel) ?_
  refine lw_sld (pc := 1121) hC hX (show decode code 1121 = .ok (.iaload, 1) by decide +kernel) h ?_
  intro j1 h
  obtain ⟨b2, hb, h⟩ := dc_bind h
  obtain ⟨hb2, hv⟩ := hg_chk_of (C := R_SE) rfl hb
  have hbo : ox = b2 := Option.some.inj hb2
  subst hbo
  refine lw_ci (pc := 1122) (b := ox) (As := [.int (xs j1)]) (rest := []) (vo := fun q => q) (so := fun q => S) hC cw_SignalEngineLaw_151 (fun q hq => hm_SE_count_ok l D G S ox (xs j1) q hq) (Nat.le_of_ble_eq_true rfl) (Nat.le_of_ble_eq_true rfl) hv rfl (Nat.le_of_ble_eq_true rfl) (show decode code 1122 = .ok (.invokevirtual 151, 3) by decide +kernel) h ?_
  intro q3 h
  refine hg_aloadn (pc := 1125) (j := 2) (i := 2) (r := (some o)) hC 2 rfl rfl (show decode code 1125 = .ok (.aload_n 2, 1) by decide +kernel) ?_
  refine hg_aloadn (pc := 1126) (j := 0) (i := 0) (r := (some sb)) hC 0 rfl rfl (show decode code 1126 = .ok (.aload_n 0, 1) by decide +kernel) ?_
  refine hg_iload (pc := 1127) (i := 4) hC 4 rfl (show decode code 1127 = .ok (.iload 4, 2) by decide +kernel) ?_
  refine hg_iconst (pc := 1129) (v := 1) hC (show decode code 1129 = .ok (.iconst 1, 1) by decide +kernel) (by decide +kernel) ?_
  refine hg_iadd (pc := 1130) hC (show decode code 1130 = .ok (.iadd, 1) by decide +kernel) ?_
  refine lw_sld (pc := 1131) hC hX (show decode code 1131 = .ok (.iaload, 1) by decide +kernel) h ?_
  intro j4 h
  refine lw_mi (pc := 1132) (As := [.int (xs j4)]) (rest := [.int q3]) (rv := fun q => q.2) (sv := fun q => q.1) hC hKm cw_SignalEngineLaw_154 (fun F2 h2 => mm_count_ok l D G.2.1 G.2.2.1 o a ca M (xs j4) F2 h2) (Nat.le_of_ble_eq_true rfl) (Nat.le_of_ble_eq_true rfl) rfl rfl (Nat.le_of_ble_eq_true rfl) (show decode code 1132 = .ok (.invokevirtual 154, 3) by decide +kernel) h ?_
  intro q5 h
  refine hg_icmp_eq (pc := 1135) (tgt := 1140) hC (show decode code 1135 = .ok (.if_icmp .eq 5, 3) by decide +kernel) (by decide +kernel) h ?_ ?_
  · intro h
    exact lab (S, v, q5.1) (dc_some h)
  · intro h
    exact (dc_not h).elim
