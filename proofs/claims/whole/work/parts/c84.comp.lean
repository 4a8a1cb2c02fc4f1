/-! what the draft makes of several nodes -/
abbrev Tpau (l : Int32) : tT := t0 (1, l, -1, -1, -1, -1)
abbrev Tnot (l : Int32) : tT := t0 (0, l, -1, -1, -1, -1)
abbrev Tex (l sv : Int32) : tT := t0 (9, l, 2, -1, sv, -1)
abbrev Temi (l s : Int32) : tT := t0 (2, l, s, -1, -1, -1)
abbrev Tseq (l : Int32) (a b : tT) : tT := t2 (5, l, -1, -1, -1, -1) a b
abbrev Tloop (l : Int32) (a : tT) : tT := t1 (6, l, -1, -1, -1, -1) a
abbrev Tboth (l : Int32) (a b : tT) : tT := t2 (7, l, -1, -1, -1, -1) a b
abbrev Tpre (l e : Int32) (a b : tT) : tT := t2 (3, l, -1, -1, -1, e) a b
abbrev Tsup (l e : Int32) (a : tT) : tT := t1 (4, l, -1, -1, -1, e) a
abbrev Ttrp (l m sv : Int32) (a : tT) : tT := t1 (8, l, -1, m, sv, -1) a
def Thalt (l : Int32) : tT := Tloop l (Tpau l)
def Tsus (l s : Int32) : tT := Tloop l (Tseq l (Temi l s) (Tpau l))
def Twat (l e sv : Int32) : tT := Tloop l (Tseq l (Tpau l) (Tpre l e (Tex l sv) (Tnot l)))
def Tawa (l e sv : Int32) : tT := Ttrp l (-1) sv (Twat l e sv)
def Tabo (l sv : Int32) (run wat : tT) : tT := Ttrp l (-1) sv (Tboth l (Tseq l run (Tex l sv)) wat)
def Tagn (l e sv : Int32) (body : tT) : tT := Tloop l (Tabo l sv (Tsup l e (Tseq l body (Thalt l))) (Twat l e sv))
section CMP
variable {G : hg_E} {sz t0' : Nat} {H0 : Nat → Option va_E} {K1 K2 n : Nat} {f : Nat → Int32} {S S' : hg_S} {A C A1 C1 : Nat → Nat} {B : Nat → Nat → Int32} {Q Q1 : Nat → Int32} {j o : Nat} {el : Nat → Option Nat} {P P1 : Nat → Nat} {ND ND1 : Nat → ndT}
theorem cov_perm {I I' : List Nat} {lo hi : Nat} (p : List.Perm I I') (h : cov I' lo hi) : cov I lo hi := ⟨fun k => (p.mem_iff).trans (h.1 k), (p.nodup_iff).mpr h.2⟩
theorem trO.up {T : tT} {lo : Nat} {m1 m2 m : Int} {r : Option Nat} (h : trO G t0' H0 K1 K2 n f B j A1 C1 Q1 P1 ND1 T lo m2 S' r) (ev : evC A C Q P ND A1 C1 Q1 P1 ND1) (hm : (Q1 12).toInt = (Q 12).toInt + m1) (e : m = m1 + m2) : trO G t0' H0 K1 K2 n f B j A C Q P ND T lo m S' r := by
  obtain ⟨A', C', Q', el', P', ND', i, I, g1, g2, g3, g4, g5⟩ := h
  exact ⟨A', C', Q', el', P', ND', i, I, g1, g2, evC_tr ev g3, by omega, g5⟩
theorem repC_ev {T : tT} {i lo hi : Nat} {I : List Nat} (h : repC ND T i I) (hI : cov I lo hi) (hh : hi ≤ (Q 12).toInt.toNat) (ev : evC A C Q P ND A1 C1 Q1 P1 ND1) : repC ND1 T i I ∧ P1 i = P i := by
  refine ⟨repC_ext _ _ _ h (fun k hk => ?_), ?_⟩
  · have := ((hI.1 k).mp hk).2
    exact (ev.2.2.2.2 k (by omega)).2
  · have := ((hI.1 i).mp (repC_mem _ _ _ h)).2
    exact (ev.2.2.2.2 i (by omega)).1
theorem halt_t (v : PV G t0' H0 K1 K2 n f S A C B Q j el P ND) (rc : RC n K1 K2 C Q) (ho : A 5 = o) (hr : (Q 12).toInt + 2 ≤ 6 * (n : Int)) {l : Int32} : dc_wp (hm_DR_halt G S o l) (fun q => trO G t0' H0 K1 K2 n f B j A C Q P ND (Thalt l) (Q 12).toInt.toNat 2 q.1 q.2) := by
  have a7 := rc.2.2.1.2.1
  delta hm_DR_halt
  refine chkD v ho ?_
  refine wq_call (lf_t v rc ho (by omega) (sv := -1)) ?_
  rintro ⟨S1, r1⟩ ⟨A1, C1, Q1, el1, P1, ND1, i1, I1, v1, rc1, ev1, m1, er1, il1, T1, cv1⟩
  have ho1 := (ev1.1 5 (by omega)).trans ho
  refine chkD v1 ho1 ?_
  refine wq_call (jn1_t v1 rc1 ho1 (by omega) T1 cv1 (by omega) er1 (sv := -1)) ?_
  rintro ⟨S2, r2⟩ g
  exact ⟨_, rfl, g.up ev1 m1 (by omega)⟩
theorem sustain_t (v : PV G t0' H0 K1 K2 n f S A C B Q j el P ND) (rc : RC n K1 K2 C Q) (ho : A 5 = o) (hr : (Q 12).toInt + 4 ≤ 6 * (n : Int)) {s l : Int32} : dc_wp (hm_DR_sustain G S o s l) (fun q => trO G t0' H0 K1 K2 n f B j A C Q P ND (Tsus l s) (Q 12).toInt.toNat 4 q.1 q.2) := by
  have a7 := rc.2.2.1.2.1
  delta hm_DR_sustain
  refine chkD v ho ?_
  refine wq_call (lf_t v rc ho (by omega) (sv := -1)) ?_
  rintro ⟨S1, r1⟩ ⟨A1, C1, Q1, el1, P1, ND1, i1, I1, v1, rc1, ev1, m1, er1, il1, T1, cv1⟩
  have ho1 := (ev1.1 5 (by omega)).trans ho
  have er1 : r1 = some (P1 i1) := er1
  refine chkD v1 ho1 ?_
  refine wq_call (lf_t v1 rc1 ho1 (by omega) (sv := -1)) ?_
  rintro ⟨S2, r2⟩ ⟨A2, C2, Q2, el2, P2, ND2, i2, I2, v2, rc2, ev2, m2, er2, il2, T2, cv2⟩
  have ho2 := (ev2.1 5 (by omega)).trans ho1
  obtain ⟨T1', p1⟩ := repC_ev T1 cv1 (Nat.le_refl _) ev2
  rw [← p1] at er1
  refine chkD v2 ho2 ?_
  refine wq_call (jn2_t v2 rc2 ho2 (by omega) T1' T2 (cov_app cv1 cv2 (by omega) (by omega)) (by omega) er1 er2 (sv := -1)) ?_
  rintro ⟨S3, r3⟩ ⟨A3, C3, Q3, el3, P3, ND3, i3, I3, v3, rc3, ev3, m3, er3, il3, T3, cv3⟩
  have ho3 := (ev3.1 5 (by omega)).trans ho2
  refine chkD v3 ho3 ?_
  refine wq_call (jn1_t v3 rc3 ho3 (by omega) T3 cv3 (by omega) er3 (sv := -1)) ?_
  rintro ⟨S4, r4⟩ g
  exact ⟨_, rfl, g.up (evC_tr ev1 (evC_tr ev2 ev3)) (m1 := 3) (by omega) (by omega)⟩
theorem watch_t (v : PV G t0' H0 K1 K2 n f S A C B Q j el P ND) (rc : RC n K1 K2 C Q) (ho : A 5 = o) (hr : (Q 12).toInt + 6 ≤ 6 * (n : Int)) {e l sv : Int32} : dc_wp (hm_DR_watch G S o e l) (fun q => trO G t0' H0 K1 K2 n f B j A C Q P ND (Twat l e sv) (Q 12).toInt.toNat 6 q.1 q.2) := by
  have a7 := rc.2.2.1.2.1
  delta hm_DR_watch
  refine chkD v ho ?_
  refine wq_call (lf_t v rc ho (by omega) (sv := -1)) ?_
  rintro ⟨S1, r1⟩ ⟨A1, C1, Q1, el1, P1, ND1, i1, I1, v1, rc1, ev1, m1, er1, il1, T1, cv1⟩
  have ho1 := (ev1.1 5 (by omega)).trans ho
  have er1 : r1 = some (P1 i1) := er1
  refine chkD v1 ho1 ?_
  refine wq_call (lf_t v1 rc1 ho1 (by omega) (sv := sv)) ?_
  rintro ⟨S2, r2⟩ ⟨A2, C2, Q2, el2, P2, ND2, i2, I2, v2, rc2, ev2, m2, er2, il2, T2, cv2⟩
  have ho2 := (ev2.1 5 (by omega)).trans ho1
  have er2 : r2 = some (P2 i2) := er2
  refine chkD v2 ho2 ?_
  refine wq_call (lf_t v2 rc2 ho2 (by omega) (sv := -1)) ?_
  rintro ⟨S3, r3⟩ ⟨A3, C3, Q3, el3, P3, ND3, i3, I3, v3, rc3, ev3, m3, er3, il3, T3, cv3⟩
  have ho3 := (ev3.1 5 (by omega)).trans ho2
  obtain ⟨T2', p2⟩ := repC_ev T2 cv2 (Nat.le_refl _) ev3
  rw [← p2] at er2
  refine chkD v3 ho3 ?_
  refine js2_t v3 rc3 ho3 (by omega) T2' T3 (cov_app cv2 cv3 (by omega) (by omega)) (by omega) er2 er3 (y1 := -1) (y2 := -1) (y3 := e) (sv := -1) (by omega) (fun _ _ => rfl) (E := fun S' r' => (hg_chk S' (some o) 6).bind fun b18 => (hm_DR_join G S' b18 (5 : Int32) r1 r' l).bind fun q21 => (hg_chk q21.1 (some o) 6).bind fun b22 => (hm_DR_join G q21.1 b22 (6 : Int32) q21.2 (none : Option Nat) l).bind fun q25 => some (q25.1, q25.2)) ?_
  rintro S4 r4 ⟨A4, C4, Q4, el4, P4, ND4, i4, I4, v4, rc4, ev4, m4, er4, il4, T4, cv4⟩
  have ho4 := (ev4.1 5 (by omega)).trans ho3
  obtain ⟨T1', p1⟩ := repC_ev T1 cv1 (Nat.le_refl _) (evC_tr ev2 (evC_tr ev3 ev4))
  rw [← p1] at er1
  refine chkD v4 ho4 ?_
  refine wq_call (jn2_t v4 rc4 ho4 (by omega) T1' T4 (cov_app cv1 cv4 (by omega) (by omega)) (by omega) er1 er4 (sv := -1)) ?_
  rintro ⟨S5, r5⟩ ⟨A5, C5, Q5, el5, P5, ND5, i5, I5, v5, rc5, ev5, m5, er5, il5, T5, cv5⟩
  have ho5 := (ev5.1 5 (by omega)).trans ho4
  refine chkD v5 ho5 ?_
  refine wq_call (jn1_t v5 rc5 ho5 (by omega) T5 cv5 (by omega) er5 (sv := -1)) ?_
  rintro ⟨S6, r6⟩ g
  exact ⟨_, rfl, g.up (evC_tr ev1 (evC_tr ev2 (evC_tr ev3 (evC_tr ev4 ev5)))) (m1 := 5) (by omega) (by omega)⟩
theorem await_t (v : PV G t0' H0 K1 K2 n f S A C B Q j el P ND) (rc : RC n K1 K2 C Q) (ho : A 5 = o) (hr : (Q 12).toInt + 7 ≤ 6 * (n : Int)) {e l sv : Int32} : dc_wp (hm_DR_await G S o e l) (fun q => trO G t0' H0 K1 K2 n f B j A C Q P ND (Tawa l e sv) (Q 12).toInt.toNat 7 q.1 q.2) := by
  have a7 := rc.2.2.1.2.1
  delta hm_DR_await
  refine chkD v ho ?_
  refine wq_call (watch_t v rc ho (by omega) (sv := sv)) ?_
  rintro ⟨S1, r1⟩ ⟨A1, C1, Q1, el1, P1, ND1, i1, I1, v1, rc1, ev1, m1, er1, il1, T1, cv1⟩
  have ho1 := (ev1.1 5 (by omega)).trans ho
  refine chkD v1 ho1 ?_
  refine wq_call (jn1_t v1 rc1 ho1 (by omega) T1 cv1 (by omega) er1 (sv := sv)) ?_
  rintro ⟨S2, r2⟩ g
  exact ⟨_, rfl, g.up ev1 (m1 := 6) m1 (by omega)⟩
/-- abort: run stands ahead of watch -/
theorem abort_t (v : PV G t0' H0 K1 K2 n f S A C B Q j el P ND) (rc : RC n K1 K2 C Q) (ho : A 5 = o) (hr : (Q 12).toInt + 4 ≤ 6 * (n : Int)) {l sv : Int32} {T1 T2 : tT} {i1 i2 lo mid : Nat} {I1 I2 : List Nat} (h1 : repC ND T1 i1 I1) (h2 : repC ND T2 i2 I2) (c1 : cov I1 lo mid) (c2 : cov I2 mid (Q 12).toInt.toNat) (hlo : lo ≤ mid) (hmid : mid ≤ (Q 12).toInt.toNat) {r1 r2 : Option Nat} (e1 : r1 = some (P i1)) (e2 : r2 = some (P i2)) : dc_wp (hm_DR_abort G S o r1 r2 l) (fun q => trO G t0' H0 K1 K2 n f B j A C Q P ND (Tabo l sv T1 T2) lo 4 q.1 q.2) := by
  have a7 := rc.2.2.1.2.1
  have m1 := ((c1.1 i1).mp (repC_mem _ _ _ h1)).2
  have m2 := ((c2.1 i2).mp (repC_mem _ _ _ h2)).2
  have b1 : ∀ k, k ∈ I1 → k < (Q 12).toInt.toNat := fun k hk => by have := ((c1.1 k).mp hk).2; omega
  have b2 : ∀ k, k ∈ I2 → k < (Q 12).toInt.toNat := fun k hk => by have := ((c2.1 k).mp hk).2; omega
  delta hm_DR_abort
  refine chkD v ho ?_
  subst ho
  refine wq_call (leafC v rc (by omega)) ?_
  rintro ⟨S1, r3⟩ ⟨A1, C1, Q1, el1, P1, ND1, v1, rc1, ev1, z1, nd1, er3⟩
  have ho1 := ev1.1 5 (by omega)
  have er3 : r3 = some (P1 (Q 12).toInt.toNat) := er3
  refine chkD v1 ho1 ?_
  rw [← ho1]
  refine wq_call (joinC v1 rc1 (by omega) (c1 := some i1) (c2 := some (Q 12).toInt.toNat) (fun c hc => by rcases hc with hc | hc <;> cases hc <;> omega) (by rw [e1]; show _ = some (P1 i1); rw [(ev1.2.2.2.2 i1 (by omega)).1]) er3) ?_
  rintro ⟨S2, r4⟩ ⟨A2, C2, Q2, el2, P2, ND2, v2, rc2, ev2, z2, nd2, er4⟩
  have ho2 := ev2.1 5 (by omega)
  have ev12 := evC_tr ev1 ev2
  refine chkD v2 ho2 ?_
  rw [← ho2]
  refine wq_call (joinC v2 rc2 (by omega) (c1 := some (Q1 12).toInt.toNat) (c2 := some i2) (fun c hc => by rcases hc with hc | hc <;> cases hc <;> omega) er4 (by rw [e2]; show _ = some (P2 i2); rw [(ev12.2.2.2.2 i2 (by omega)).1])) ?_
  rintro ⟨S3, r5⟩ ⟨A3, C3, Q3, el3, P3, ND3, v3, rc3, ev3, z3, nd3, er5⟩
  have ho3 := ev3.1 5 (by omega)
  refine chkD v3 ho3 ?_
  rw [← ho3]
  refine wq_call (joinC v3 rc3 (by omega) (c1 := some (Q2 12).toInt.toNat) (c2 := none) (fun c hc => by rcases hc with hc | hc <;> cases hc; omega) er5 rfl) ?_
  rintro ⟨S4, r6⟩ ⟨A4, C4, Q4, el4, P4, ND4, v4, rc4, ev4, z4, nd4, er6⟩
  have ev := evC_tr ev12 (evC_tr ev3 ev4)
  have ev24 := evC_tr ev2 (evC_tr ev3 ev4)
  have ev34 := evC_tr ev3 ev4
  have n0 : ND4 (Q 12).toInt.toNat = (9, l, none, none, 2, -1, -1) := by rw [(ev24.2.2.2.2 _ (by omega)).2]; exact nd1
  have n1 : ND4 (Q1 12).toInt.toNat = (5, l, some i1, some (Q 12).toInt.toNat, -1, -1, -1) := by rw [(ev34.2.2.2.2 _ (by omega)).2]; exact nd2
  have n2 : ND4 (Q2 12).toInt.toNat = (7, l, some (Q1 12).toInt.toNat, some i2, -1, -1, -1) := by rw [(ev4.2.2.2.2 _ (by omega)).2]; exact nd3
  have t1' := repC_ext (ND' := ND4) _ _ _ h1 (fun k hk => (ev.2.2.2.2 k (b1 k hk)).2)
  have t2' := repC_ext (ND' := ND4) _ _ _ h2 (fun k hk => (ev.2.2.2.2 k (b2 k hk)).2)
  have R := rep1 (x := (8, l, -1, -1, sv, -1)) nd4 (rep2 (x := (7, l, -1, -1, -1, -1)) n2 (rep2 (x := (5, l, -1, -1, -1, -1)) n1 t1' (rep0 (x := (9, l, 2, -1, sv, -1)) n0)) t2')
  refine ⟨_, rfl, A4, C4, Q4, el4, P4, ND4, _, _, v4, rc4, ev, by omega, er6, by omega, R, ?_⟩
  have q1 : (Q1 12).toInt.toNat = (Q 12).toInt.toNat + 1 := by omega
  have q2 : (Q2 12).toInt.toNat = (Q 12).toInt.toNat + 1 + 1 := by omega
  have q3 : (Q3 12).toInt.toNat = (Q 12).toInt.toNat + 1 + 1 + 1 := by omega
  have q4 : (Q4 12).toInt.toNat = (Q 12).toInt.toNat + 1 + 1 + 1 + 1 := by omega
  rw [q1, q2, q3, q4]
  refine cov_perm (List.Perm.cons _ (List.Perm.cons _ (List.Perm.cons _ ?_))) (cov_cons (cov_cons (cov_cons (cov_cons (cov_app c1 c2 hlo hmid) (by omega)) (by omega)) (by omega)) (by omega))
  show ((I1 ++ [(Q 12).toInt.toNat]) ++ I2).Perm ((Q 12).toInt.toNat :: (I1 ++ I2))
  rw [List.append_assoc]
  exact List.perm_middle
theorem tested1_t (v : PV G t0' H0 K1 K2 n f S A C B Q j el P ND) (rc : RC n K1 K2 C Q) (ho : A 5 = o) (hr : (Q 12).toInt + 1 ≤ 6 * (n : Int)) {T : tT} {i lo : Nat} {I : List Nat} (hT : repC ND T i I) (hI : cov I lo (Q 12).toInt.toNat) (hlo : lo ≤ (Q 12).toInt.toNat) {r : Option Nat} (er : r = some (P i)) {l e : Int32} : dc_wp (hm_DR_tested G S o 4 e r none l) (fun q => trO G t0' H0 K1 K2 n f B j A C Q P ND (Tsup l e T) lo 1 q.1 q.2) := by
  delta hm_DR_tested
  refine chkD v ho ?_
  refine js1_t v rc ho hr hT hI hlo er (y1 := -1) (y2 := -1) (y3 := e) (sv := -1) (by omega) (fun _ => rfl) (E := fun S' r' => some (S', r')) ?_
  intro S' r' g
  exact ⟨_, rfl, g⟩
theorem tested2_t (v : PV G t0' H0 K1 K2 n f S A C B Q j el P ND) (rc : RC n K1 K2 C Q) (ho : A 5 = o) (hr : (Q 12).toInt + 1 ≤ 6 * (n : Int)) {T1 T2 : tT} {i1 i2 lo : Nat} {I1 I2 : List Nat} (h1 : repC ND T1 i1 I1) (h2 : repC ND T2 i2 I2) (hI : cov (I1 ++ I2) lo (Q 12).toInt.toNat) (hlo : lo ≤ (Q 12).toInt.toNat) {r1 r2 : Option Nat} (e1 : r1 = some (P i1)) (e2 : r2 = some (P i2)) {l e : Int32} : dc_wp (hm_DR_tested G S o 3 e r1 r2 l) (fun q => trO G t0' H0 K1 K2 n f B j A C Q P ND (Tpre l e T1 T2) lo 1 q.1 q.2) := by
  delta hm_DR_tested
  refine chkD v ho ?_
  refine js2_t v rc ho hr h1 h2 hI hlo e1 e2 (y1 := -1) (y2 := -1) (y3 := e) (sv := -1) (by omega) (fun _ _ => rfl) (E := fun S' r' => some (S', r')) ?_
  intro S' r' g
  exact ⟨_, rfl, g⟩
theorem trap_t (v : PV G t0' H0 K1 K2 n f S A C B Q j el P ND) (rc : RC n K1 K2 C Q) (ho : A 5 = o) (hr : (Q 12).toInt + 1 ≤ 6 * (n : Int)) {T : tT} {i lo : Nat} {I : List Nat} (hT : repC ND T i I) (hI : cov I lo (Q 12).toInt.toNat) (hlo : lo ≤ (Q 12).toInt.toNat) {r : Option Nat} (er : r = some (P i)) {l m sv : Int32} : dc_wp (hm_DR_trap G S o m r l) (fun q => trO G t0' H0 K1 K2 n f B j A C Q P ND (Ttrp l m sv T) lo 1 q.1 q.2) := by
  delta hm_DR_trap
  refine chkD v ho ?_
  refine js1_t v rc ho hr hT hI hlo er (y1 := -1) (y2 := m) (y3 := -1) (sv := sv) (by omega) (fun _ => rfl) (E := fun S' r' => some (S', r')) ?_
  intro S' r' g
  exact ⟨_, rfl, g⟩
theorem exit_t (v : PV G t0' H0 K1 K2 n f S A C B Q j el P ND) (rc : RC n K1 K2 C Q) (ho : A 5 = o) (hr : (Q 12).toInt + 1 ≤ 6 * (n : Int)) {l m sv : Int32} : dc_wp (hm_DR_exit G S o m l) (fun q => trO G t0' H0 K1 K2 n f B j A C Q P ND (t0 (9, l, -1, m, sv, -1)) (Q 12).toInt.toNat 1 q.1 q.2) := by
  delta hm_DR_exit
  refine chkD v ho ?_
  refine js0_t v rc ho hr (y := m) (sv := sv) (E := fun S' r' => some (S', r')) ?_
  intro S' r' g
  exact ⟨_, rfl, g⟩
theorem loopEach_t (v : PV G t0' H0 K1 K2 n f S A C B Q j el P ND) (rc : RC n K1 K2 C Q) (ho : A 5 = o) (hr : (Q 12).toInt + 15 ≤ 6 * (n : Int)) {T : tT} {i lo : Nat} {I : List Nat} (hT : repC ND T i I) (hI : cov I lo (Q 12).toInt.toNat) (hlo : lo ≤ (Q 12).toInt.toNat) {r : Option Nat} (er : r = some (P i)) {l e sv : Int32} : dc_wp (hm_DR_loopEach G S o r e l) (fun q => trO G t0' H0 K1 K2 n f B j A C Q P ND (Tagn l e sv T) lo 15 q.1 q.2) := by
  have a7 := rc.2.2.1.2.1
  delta hm_DR_loopEach
  refine chkD v ho ?_
  refine wq_call (halt_t v rc ho (by omega)) ?_
  rintro ⟨S1, r1⟩ ⟨A1, C1, Q1, el1, P1, ND1, i1, I1, v1, rc1, ev1, m1, er1, il1, T1, cv1⟩
  have ho1 := (ev1.1 5 (by omega)).trans ho
  obtain ⟨T', p0⟩ := repC_ev hT hI (Nat.le_refl _) ev1
  refine chkD v1 ho1 ?_
  refine wq_call (jn2_t v1 rc1 ho1 (by omega) T' T1 (cov_app hI cv1 hlo (by omega)) (by omega) (by rw [er, p0]) er1 (sv := -1)) ?_
  rintro ⟨S2, r2⟩ ⟨A2, C2, Q2, el2, P2, ND2, i2, I2, v2, rc2, ev2, m2, er2, il2, T2, cv2⟩
  have ho2 := (ev2.1 5 (by omega)).trans ho1
  refine chkD v2 ho2 ?_
  refine wq_call (tested1_t v2 rc2 ho2 (by omega) T2 cv2 (by omega) er2) ?_
  rintro ⟨S3, r3⟩ ⟨A3, C3, Q3, el3, P3, ND3, i3, I3, v3, rc3, ev3, m3, er3, il3, T3, cv3⟩
  have ho3 := (ev3.1 5 (by omega)).trans ho2
  have er3 : r3 = some (P3 i3) := er3
  refine chkD v3 ho3 ?_
  refine wq_call (watch_t v3 rc3 ho3 (by omega) (sv := sv)) ?_
  rintro ⟨S4, r4⟩ ⟨A4, C4, Q4, el4, P4, ND4, i4, I4, v4, rc4, ev4, m4, er4, il4, T4, cv4⟩
  have ho4 := (ev4.1 5 (by omega)).trans ho3
  obtain ⟨T3', p3⟩ := repC_ev T3 cv3 (Nat.le_refl _) ev4
  rw [← p3] at er3
  refine chkD v4 ho4 ?_
  refine wq_call (abort_t v4 rc4 ho4 (by omega) T3' T4 cv3 cv4 (by omega) (by omega) er3 er4 (sv := sv)) ?_
  rintro ⟨S5, r5⟩ ⟨A5, C5, Q5, el5, P5, ND5, i5, I5, v5, rc5, ev5, m5, er5, il5, T5, cv5⟩
  have ho5 := (ev5.1 5 (by omega)).trans ho4
  refine chkD v5 ho5 ?_
  refine wq_call (jn1_t v5 rc5 ho5 (by omega) T5 cv5 (by omega) er5 (sv := -1)) ?_
  rintro ⟨S6, r6⟩ g
  exact ⟨_, rfl, g.up (evC_tr ev1 (evC_tr ev2 (evC_tr ev3 (evC_tr ev4 ev5)))) (m1 := 14) (by omega) (by omega)⟩
end CMP
