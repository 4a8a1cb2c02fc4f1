/-! behind a statement's first word: which statement it is -/
/-- what the reference does behind the word j0 -/
def rDp (e : Nat) (M : md_S) (ln g0 : Int32) (j0 : Nat) (q : md_S × Int32) : Prop := (j0 = 28 ∧ (mm_P2 e).2.2.2.1 M = some q) ∨ (j0 = 8 ∧ (mm_P2 e).2.2.2.2.1 M ln = some q) ∨ (j0 = 12 ∧ (mm_P2 e).2.2.2.2.2.1 M ln = some q) ∨ (j0 = 14 ∧ (mm_P2 e).2.2.2.2.2.2.1 M ln g0 = some q) ∨ (j0 = 16 ∧ (mm_P2 e).2.2.2.2.2.2.2.1 M ln = some q) ∨ (j0 = 17 ∧ (mm_P2 e).2.2.2.2.2.2.2.2.1 M ln = some q) ∨ (j0 = 22 ∧ (mm_P2 e).2.2.2.2.2.2.2.2.2.1 M ln 0 = some q) ∨ (j0 = 23 ∧ (mm_P2 e).2.2.2.2.2.2.2.2.2.2.1 M ln = some q) ∨ (j0 = 24 ∧ (mm_P2 e).2.2.2.2.2.2.2.2.2.2.2 M ln = some q) ∨ ((j0 = 2 ∨ j0 = 3 ∨ j0 = 4 ∨ j0 = 5 ∨ j0 = 6 ∨ j0 = 7 ∨ j0 = 21) ∧ mm_simple_JI M (kw.getD j0 0) ln = some q)
section RSC
variable {G : hg_E} {sz t0' : Nat} {H0 : Nat → Option va_E} {K1 K2 n : Nat} {f : Nat → Int32} {S : hg_S} {A C : Nat → Nat} {B : Nat → Nat → Int32} {Q : Nat → Int32} {j : Nat} {el : Nat → Option Nat} {P : Nat → Nat} {ND : Nat → ndT} {M : md_S} {b u w p0 : Int}
theorem RP_k {k k' : Int} (hp : RP M B Q u w p0 k) (h : k' ≤ k) : RP M B Q u w p0 k' := ⟨hp.1, ⟨hp.2.1.1, by have := hp.2.1.2; omega⟩, hp.2.2⟩
theorem rs8 (hA : BUalg) (hok : lw_ok G sz) (hK : 40 * n + 70 ≤ K1 ∧ 200 * n + 400 ≤ K2) {D e : Nat} (hb3 : ∀ e, StP G t0' H0 K1 K2 n f D 3 ((hm_P2 D).1) ((mm_P2 e).1)) (h : PV G t0' H0 K1 K2 n f S A C B Q j el P ND) (r : RM M C B n f Q j b u w) (hb : b ≤ (M.1 7).toInt) (rp : RP M B Q u w p0 4) (hd : 5 * (24 - (M.1 11).toInt) + 3 ≤ (D : Int)) {ln : Int32} {q : md_S × Int32} (hq : (mm_P2 e).2.2.2.2.1 M ln = some q) : dc_wp (hm_PA_takeRest (hm_P2 (D + 1)) G S (A 0) (some (G.2.1 8)) ln) (fun z => (∃ S' r, z = .inl (S', r) ∧ stO G t0' H0 K1 K2 n f (100 * (2 * (D + 1)) + (27 - (M.1 11).toInt).toNat) A C B Q P ND M u w p0 S' r q) ∨ ∃ X : hg_X, z = .inr X ∧ thr t0' H0 K1 K2 n (A 0) (A 1) X q.1) := by
  cases e with
  | zero => cases hq
  | succ e =>
    have hq : mm_present_I (mm_P2 e) M ln = some q := hq
    delta hm_PA_takeRest
    rw [tk_eq hok (show 8 < 33 by decide), Option.bind_some]
    delta hm_EN_ordinal
    rw [tk_eq hok (show 8 < 33 by decide), Option.bind_some, Option.bind_some, show hg_cst (hk_sv 3) (tk_or.getD 8 0) = some 8 by decide +kernel, Option.bind_some]
    show dc_wp ((hg_chk S (some (A 0)) 4).bind fun b => ceX G (A 0) (hm_PA_takePresent (hm_P2 D) G S b ln)) _
    refine wq_chk h.pa ?_
    exact present_c hA hok hK (hb3 e) h r hb rp hd hq
theorem rs12 (hA : BUalg) (hok : lw_ok G sz) (hK : 40 * n + 70 ≤ K1 ∧ 200 * n + 400 ≤ K2) {D e : Nat} (hb3 : ∀ e, StP G t0' H0 K1 K2 n f D 3 ((hm_P2 D).1) ((mm_P2 e).1)) (h : PV G t0' H0 K1 K2 n f S A C B Q j el P ND) (r : RM M C B n f Q j b u w) (hb : b ≤ (M.1 7).toInt) (rp : RP M B Q u w p0 4) (hd : 5 * (24 - (M.1 11).toInt) + 3 ≤ (D : Int)) {ln : Int32} {q : md_S × Int32} (hq : (mm_P2 e).2.2.2.2.2.1 M ln = some q) : dc_wp (hm_PA_takeRest (hm_P2 (D + 1)) G S (A 0) (some (G.2.1 12)) ln) (fun z => (∃ S' r, z = .inl (S', r) ∧ stO G t0' H0 K1 K2 n f (100 * (2 * (D + 1)) + (27 - (M.1 11).toInt).toNat) A C B Q P ND M u w p0 S' r q) ∨ ∃ X : hg_X, z = .inr X ∧ thr t0' H0 K1 K2 n (A 0) (A 1) X q.1) := by
  cases e with
  | zero => cases hq
  | succ e =>
    have hq : mm_suspend (mm_P2 e) M ln = some q := hq
    delta hm_PA_takeRest
    rw [tk_eq hok (show 12 < 33 by decide), Option.bind_some]
    delta hm_EN_ordinal
    rw [tk_eq hok (show 12 < 33 by decide), Option.bind_some, Option.bind_some, show hg_cst (hk_sv 3) (tk_or.getD 12 0) = some 13 by decide +kernel, Option.bind_some]
    show dc_wp ((hg_chk S (some (A 0)) 4).bind fun b => ceX G (A 0) (hm_PA_takeGuarded (hm_P2 D) G S b (some (G.2.1 12)) ln)) _
    refine wq_chk h.pa ?_
    exact suspend_c hA hok hK (hb3 e) h r hb rp hd hq
theorem rs14 (hA : BUalg) (hok : lw_ok G sz) (hK : 40 * n + 70 ≤ K1 ∧ 200 * n + 400 ≤ K2) {D e : Nat} (hb3 : ∀ e, StP G t0' H0 K1 K2 n f D 3 ((hm_P2 D).1) ((mm_P2 e).1)) (h : PV G t0' H0 K1 K2 n f S A C B Q j el P ND) (r : RM M C B n f Q j b u w) (hb : b ≤ (M.1 7).toInt) (rp : RP M B Q u w p0 4) (hd : 5 * (24 - (M.1 11).toInt) + 3 ≤ (D : Int)) {g0 : Int32} (hg : g0.toInt = p0) {ln : Int32} {q : md_S × Int32} (hq : (mm_P2 e).2.2.2.2.2.2.1 M ln g0 = some q) : dc_wp (hm_PA_takeRest (hm_P2 (D + 1)) G S (A 0) (some (G.2.1 14)) ln) (fun z => (∃ S' r, z = .inl (S', r) ∧ stO G t0' H0 K1 K2 n f (100 * (2 * (D + 1)) + (27 - (M.1 11).toInt).toNat) A C B Q P ND M u w p0 S' r q) ∨ ∃ X : hg_X, z = .inr X ∧ thr t0' H0 K1 K2 n (A 0) (A 1) X q.1) := by
  cases e with
  | zero => cases hq
  | succ e =>
    have hq : mm_loop (mm_P2 e) M ln g0 = some q := hq
    delta hm_PA_takeRest
    rw [tk_eq hok (show 14 < 33 by decide), Option.bind_some]
    delta hm_EN_ordinal
    rw [tk_eq hok (show 14 < 33 by decide), Option.bind_some, Option.bind_some, show hg_cst (hk_sv 3) (tk_or.getD 14 0) = some 9 by decide +kernel, Option.bind_some]
    show dc_wp ((hg_chk S (some (A 0)) 4).bind fun b => ceX G (A 0) (hm_PA_takeLoop (hm_P2 D) G S b ln)) _
    refine wq_chk h.pa ?_
    exact loop_c hA hok hK (hb3 e) h r hb rp hd hg hq
theorem rs16 (hA : BUalg) (hok : lw_ok G sz) (hK : 40 * n + 70 ≤ K1 ∧ 200 * n + 400 ≤ K2) {D e : Nat} (hb3 : ∀ e, StP G t0' H0 K1 K2 n f D 3 ((hm_P2 D).1) ((mm_P2 e).1)) (h : PV G t0' H0 K1 K2 n f S A C B Q j el P ND) (r : RM M C B n f Q j b u w) (hb : b ≤ (M.1 7).toInt) (rp : RP M B Q u w p0 4) (hd : 5 * (24 - (M.1 11).toInt) + 3 ≤ (D : Int)) (ho : (M.1 19).toInt < (M.1 11).toInt) {ln : Int32} {q : md_S × Int32} (hq : (mm_P2 e).2.2.2.2.2.2.2.1 M ln = some q) : dc_wp (hm_PA_takeRest (hm_P2 (D + 1)) G S (A 0) (some (G.2.1 16)) ln) (fun z => (∃ S' r, z = .inl (S', r) ∧ stO G t0' H0 K1 K2 n f (100 * (2 * (D + 1)) + (27 - (M.1 11).toInt).toNat) A C B Q P ND M u w p0 S' r q) ∨ ∃ X : hg_X, z = .inr X ∧ thr t0' H0 K1 K2 n (A 0) (A 1) X q.1) := by
  cases e with
  | zero => cases hq
  | succ e =>
    have hq : mm_trap (mm_P2 e) M ln = some q := hq
    delta hm_PA_takeRest
    rw [tk_eq hok (show 16 < 33 by decide), Option.bind_some]
    delta hm_EN_ordinal
    rw [tk_eq hok (show 16 < 33 by decide), Option.bind_some, Option.bind_some, show hg_cst (hk_sv 3) (tk_or.getD 16 0) = some 10 by decide +kernel, Option.bind_some]
    show dc_wp ((hg_chk S (some (A 0)) 4).bind fun b => ceX G (A 0) (hm_PA_takeTrap (hm_P2 D) G S b ln)) _
    refine wq_chk h.pa ?_
    exact trap_c hA hok hK (hb3 e) h r hb rp hd ho hq
theorem rs17 (hA : BUalg) (hok : lw_ok G sz) (hK : 40 * n + 70 ≤ K1 ∧ 200 * n + 400 ≤ K2) {D e : Nat} (hb3 : ∀ e, StP G t0' H0 K1 K2 n f D 3 ((hm_P2 D).1) ((mm_P2 e).1)) (h : PV G t0' H0 K1 K2 n f S A C B Q j el P ND) (r : RM M C B n f Q j b u w) (hb : b ≤ (M.1 7).toInt) (rp : RP M B Q u w p0 4) (hd : 5 * (24 - (M.1 11).toInt) + 3 ≤ (D : Int)) (h15 : 2 * (M.1 15).toInt ≤ p0 + 1) {ln : Int32} {q : md_S × Int32} (hq : (mm_P2 e).2.2.2.2.2.2.2.2.1 M ln = some q) : dc_wp (hm_PA_takeRest (hm_P2 (D + 1)) G S (A 0) (some (G.2.1 17)) ln) (fun z => (∃ S' r, z = .inl (S', r) ∧ stO G t0' H0 K1 K2 n f (100 * (2 * (D + 1)) + (27 - (M.1 11).toInt).toNat) A C B Q P ND M u w p0 S' r q) ∨ ∃ X : hg_X, z = .inr X ∧ thr t0' H0 K1 K2 n (A 0) (A 1) X q.1) := by
  cases e with
  | zero => cases hq
  | succ e =>
    have hq : mm_locals (mm_P2 e) M ln = some q := hq
    delta hm_PA_takeRest
    rw [tk_eq hok (show 17 < 33 by decide), Option.bind_some]
    delta hm_EN_ordinal
    rw [tk_eq hok (show 17 < 33 by decide), Option.bind_some, Option.bind_some, show hg_cst (hk_sv 3) (tk_or.getD 17 0) = some 11 by decide +kernel, Option.bind_some]
    show dc_wp ((hg_chk S (some (A 0)) 4).bind fun b => ceX G (A 0) (hm_PA_takeLocals (hm_P2 D) G S b ln)) _
    refine wq_chk h.pa ?_
    exact locals_c hA hok hK (hb3 e) h r hb rp hd h15 hq
theorem rs22 (hA : BUalg) (hok : lw_ok G sz) (hK : 40 * n + 70 ≤ K1 ∧ 200 * n + 400 ≤ K2) {D e : Nat} (hb3 : ∀ e, StP G t0' H0 K1 K2 n f D 3 ((hm_P2 D).1) ((mm_P2 e).1)) (h : PV G t0' H0 K1 K2 n f S A C B Q j el P ND) (r : RM M C B n f Q j b u w) (hb : b ≤ (M.1 7).toInt) (rp : RP M B Q u w p0 4) (hd : 5 * (24 - (M.1 11).toInt) + 3 ≤ (D : Int)) {ln : Int32} {q : md_S × Int32} (hq : (mm_P2 e).2.2.2.2.2.2.2.2.2.1 M ln 0 = some q) : dc_wp (hm_PA_takeRest (hm_P2 (D + 1)) G S (A 0) (some (G.2.1 22)) ln) (fun z => (∃ S' r, z = .inl (S', r) ∧ stO G t0' H0 K1 K2 n f (100 * (2 * (D + 1)) + (27 - (M.1 11).toInt).toNat) A C B Q P ND M u w p0 S' r q) ∨ ∃ X : hg_X, z = .inr X ∧ thr t0' H0 K1 K2 n (A 0) (A 1) X q.1) := by
  cases e with
  | zero => cases hq
  | succ e =>
    have hq : mm_abort (mm_P2 e) M ln 0 = some q := hq
    delta hm_PA_takeRest
    rw [tk_eq hok (show 22 < 33 by decide), Option.bind_some]
    delta hm_EN_ordinal
    rw [tk_eq hok (show 22 < 33 by decide), Option.bind_some, Option.bind_some, show hg_cst (hk_sv 3) (tk_or.getD 22 0) = some 14 by decide +kernel, Option.bind_some]
    show dc_wp ((hg_chk S (some (A 0)) 4).bind fun b => ceX G (A 0) (hm_PA_takeGuarded (hm_P2 D) G S b (some (G.2.1 22)) ln)) _
    refine wq_chk h.pa ?_
    exact abort_c hA hok hK (hb3 e) h r hb rp hd hq
theorem rs23 (hA : BUalg) (hok : lw_ok G sz) (hK : 40 * n + 70 ≤ K1 ∧ 200 * n + 400 ≤ K2) {D e : Nat} (hb3 : ∀ e, StP G t0' H0 K1 K2 n f D 3 ((hm_P2 D).1) ((mm_P2 e).1)) (h : PV G t0' H0 K1 K2 n f S A C B Q j el P ND) (r : RM M C B n f Q j b u w) (hb : b ≤ (M.1 7).toInt) (rp : RP M B Q u w p0 4) (hd : 5 * (24 - (M.1 11).toInt) + 3 ≤ (D : Int)) {ln : Int32} {q : md_S × Int32} (hq : (mm_P2 e).2.2.2.2.2.2.2.2.2.2.1 M ln = some q) : dc_wp (hm_PA_takeRest (hm_P2 (D + 1)) G S (A 0) (some (G.2.1 23)) ln) (fun z => (∃ S' r, z = .inl (S', r) ∧ stO G t0' H0 K1 K2 n f (100 * (2 * (D + 1)) + (27 - (M.1 11).toInt).toNat) A C B Q P ND M u w p0 S' r q) ∨ ∃ X : hg_X, z = .inr X ∧ thr t0' H0 K1 K2 n (A 0) (A 1) X q.1) := by
  cases e with
  | zero => cases hq
  | succ e =>
    have hq : mm_weak (mm_P2 e) M ln = some q := hq
    delta hm_PA_takeRest
    rw [tk_eq hok (show 23 < 33 by decide), Option.bind_some]
    delta hm_EN_ordinal
    rw [tk_eq hok (show 23 < 33 by decide), Option.bind_some, Option.bind_some, show hg_cst (hk_sv 3) (tk_or.getD 23 0) = some 15 by decide +kernel, Option.bind_some]
    show dc_wp ((hg_chk S (some (A 0)) 4).bind fun b => ceX G (A 0) (hm_PA_takeGuarded (hm_P2 D) G S b (some (G.2.1 23)) ln)) _
    refine wq_chk h.pa ?_
    exact weak_c hA hok hK hb3 h r hb rp hd hq
theorem rs24 (hA : BUalg) (hok : lw_ok G sz) (hK : 40 * n + 70 ≤ K1 ∧ 200 * n + 400 ≤ K2) {D e : Nat} (hb3 : ∀ e, StP G t0' H0 K1 K2 n f D 3 ((hm_P2 D).1) ((mm_P2 e).1)) (h : PV G t0' H0 K1 K2 n f S A C B Q j el P ND) (r : RM M C B n f Q j b u w) (hb : b ≤ (M.1 7).toInt) (rp : RP M B Q u w p0 4) (hd : 5 * (24 - (M.1 11).toInt) + 3 ≤ (D : Int)) {ln : Int32} {q : md_S × Int32} (hq : (mm_P2 e).2.2.2.2.2.2.2.2.2.2.2 M ln = some q) : dc_wp (hm_PA_takeRest (hm_P2 (D + 1)) G S (A 0) (some (G.2.1 24)) ln) (fun z => (∃ S' r, z = .inl (S', r) ∧ stO G t0' H0 K1 K2 n f (100 * (2 * (D + 1)) + (27 - (M.1 11).toInt).toNat) A C B Q P ND M u w p0 S' r q) ∨ ∃ X : hg_X, z = .inr X ∧ thr t0' H0 K1 K2 n (A 0) (A 1) X q.1) := by
  cases e with
  | zero => cases hq
  | succ e =>
    have hq : mm_every (mm_P2 e) M ln = some q := hq
    delta hm_PA_takeRest
    rw [tk_eq hok (show 24 < 33 by decide), Option.bind_some]
    delta hm_EN_ordinal
    rw [tk_eq hok (show 24 < 33 by decide), Option.bind_some, Option.bind_some, show hg_cst (hk_sv 3) (tk_or.getD 24 0) = some 12 by decide +kernel, Option.bind_some]
    show dc_wp ((hg_chk S (some (A 0)) 4).bind fun b => ceX G (A 0) (hm_PA_takeEvery (hm_P2 D) G S b ln)) _
    refine wq_chk h.pa ?_
    exact every_c hA hok hK (hb3 e) h r hb rp hd hq
theorem rs28 (hA : BUalg) (hok : lw_ok G sz) (hK : 40 * n + 70 ≤ K1 ∧ 200 * n + 400 ≤ K2) {D e : Nat} (hb3 : ∀ e, StP G t0' H0 K1 K2 n f D 3 ((hm_P2 D).1) ((mm_P2 e).1)) (h : PV G t0' H0 K1 K2 n f S A C B Q j el P ND) (r : RM M C B n f Q j b u w) (hb : b ≤ (M.1 7).toInt) (rp : RP M B Q u w p0 1) (hd : 5 * (24 - (M.1 11).toInt) + 3 ≤ (D : Int)) {ln : Int32} {q : md_S × Int32} (hq : (mm_P2 e).2.2.2.1 M = some q) : dc_wp (hm_PA_takeRest (hm_P2 D) G S (A 0) (some (G.2.1 28)) ln) (fun z => (∃ S' r, z = .inl (S', r) ∧ stO G t0' H0 K1 K2 n f (100 * (2 * D) + (27 - (M.1 11).toInt).toNat) A C B Q P ND M u w p0 S' r q) ∨ ∃ X : hg_X, z = .inr X ∧ thr t0' H0 K1 K2 n (A 0) (A 1) X q.1) := by
  cases e with
  | zero => cases hq
  | succ e =>
    have hq : mm_closed (mm_P2 e) M = some q := hq
    delta hm_PA_takeRest
    rw [tk_eq hok (show 28 < 33 by decide), Option.bind_some]
    delta hm_EN_ordinal
    rw [tk_eq hok (show 28 < 33 by decide), Option.bind_some, Option.bind_some, show hg_cst (hk_sv 3) (tk_or.getD 28 0) = some 0 by decide +kernel, Option.bind_some]
    exact closed_c hA hok hK (hb3 e) h r hb rp hd hq
theorem rs2 {D : Nat} (hA : BUalg) (hok : lw_ok G sz) (hK : 40 * n + 70 ≤ K1 ∧ 200 * n + 400 ≤ K2) {T : hm_T2} (h : PV G t0' H0 K1 K2 n f S A C B Q j el P ND) (r : RM M C B n f Q j b u w) (hb : b ≤ (M.1 7).toInt) (rp : RP M B Q u w p0 4) {ln : Int32} {q : md_S × Int32} (hq : mm_simple_JI M (kw.getD 2 0) ln = some q) : dc_wp (hm_PA_takeRest T G S (A 0) (some (G.2.1 2)) ln) (fun z => (∃ S' r, z = .inl (S', r) ∧ stO G t0' H0 K1 K2 n f (100 * (2 * (D + 1)) + (27 - (M.1 11).toInt).toNat) A C B Q P ND M u w p0 S' r q) ∨ ∃ X : hg_X, z = .inr X ∧ thr t0' H0 K1 K2 n (A 0) (A 1) X q.1) := by
  delta hm_PA_takeRest
  rw [tk_eq hok (show 2 < 33 by decide), Option.bind_some]
  delta hm_EN_ordinal
  rw [tk_eq hok (show 2 < 33 by decide), Option.bind_some, Option.bind_some, show hg_cst (hk_sv 3) (tk_or.getD 2 0) = some 1 by decide +kernel, Option.bind_some]
  exact nothing_c hA hK h r hb (RP_k rp (by decide)) hq
theorem rs3 {D : Nat} (hA : BUalg) (hok : lw_ok G sz) (hK : 40 * n + 70 ≤ K1 ∧ 200 * n + 400 ≤ K2) {T : hm_T2} (h : PV G t0' H0 K1 K2 n f S A C B Q j el P ND) (r : RM M C B n f Q j b u w) (hb : b ≤ (M.1 7).toInt) (rp : RP M B Q u w p0 4) {ln : Int32} {q : md_S × Int32} (hq : mm_simple_JI M (kw.getD 3 0) ln = some q) : dc_wp (hm_PA_takeRest T G S (A 0) (some (G.2.1 3)) ln) (fun z => (∃ S' r, z = .inl (S', r) ∧ stO G t0' H0 K1 K2 n f (100 * (2 * (D + 1)) + (27 - (M.1 11).toInt).toNat) A C B Q P ND M u w p0 S' r q) ∨ ∃ X : hg_X, z = .inr X ∧ thr t0' H0 K1 K2 n (A 0) (A 1) X q.1) := by
  delta hm_PA_takeRest
  rw [tk_eq hok (show 3 < 33 by decide), Option.bind_some]
  delta hm_EN_ordinal
  rw [tk_eq hok (show 3 < 33 by decide), Option.bind_some, Option.bind_some, show hg_cst (hk_sv 3) (tk_or.getD 3 0) = some 2 by decide +kernel, Option.bind_some]
  exact pause_c hA hK h r hb (RP_k rp (by decide)) hq
theorem rs4 {D : Nat} (hA : BUalg) (hok : lw_ok G sz) (hK : 40 * n + 70 ≤ K1 ∧ 200 * n + 400 ≤ K2) {T : hm_T2} (h : PV G t0' H0 K1 K2 n f S A C B Q j el P ND) (r : RM M C B n f Q j b u w) (hb : b ≤ (M.1 7).toInt) (rp : RP M B Q u w p0 4) {ln : Int32} {q : md_S × Int32} (hq : mm_simple_JI M (kw.getD 4 0) ln = some q) : dc_wp (hm_PA_takeRest T G S (A 0) (some (G.2.1 4)) ln) (fun z => (∃ S' r, z = .inl (S', r) ∧ stO G t0' H0 K1 K2 n f (100 * (2 * (D + 1)) + (27 - (M.1 11).toInt).toNat) A C B Q P ND M u w p0 S' r q) ∨ ∃ X : hg_X, z = .inr X ∧ thr t0' H0 K1 K2 n (A 0) (A 1) X q.1) := by
  delta hm_PA_takeRest
  rw [tk_eq hok (show 4 < 33 by decide), Option.bind_some]
  delta hm_EN_ordinal
  rw [tk_eq hok (show 4 < 33 by decide), Option.bind_some, Option.bind_some, show hg_cst (hk_sv 3) (tk_or.getD 4 0) = some 3 by decide +kernel, Option.bind_some]
  exact halt_c hA hK h r hb (RP_k rp (by decide)) hq
theorem rs5 {D : Nat} (hA : BUalg) (hok : lw_ok G sz) (hK : 40 * n + 70 ≤ K1 ∧ 200 * n + 400 ≤ K2) {T : hm_T2} (h : PV G t0' H0 K1 K2 n f S A C B Q j el P ND) (r : RM M C B n f Q j b u w) (hb : b ≤ (M.1 7).toInt) (rp : RP M B Q u w p0 4) {ln : Int32} {q : md_S × Int32} (hq : mm_simple_JI M (kw.getD 5 0) ln = some q) : dc_wp (hm_PA_takeRest T G S (A 0) (some (G.2.1 5)) ln) (fun z => (∃ S' r, z = .inl (S', r) ∧ stO G t0' H0 K1 K2 n f (100 * (2 * (D + 1)) + (27 - (M.1 11).toInt).toNat) A C B Q P ND M u w p0 S' r q) ∨ ∃ X : hg_X, z = .inr X ∧ thr t0' H0 K1 K2 n (A 0) (A 1) X q.1) := by
  delta hm_PA_takeRest
  rw [tk_eq hok (show 5 < 33 by decide), Option.bind_some]
  delta hm_EN_ordinal
  rw [tk_eq hok (show 5 < 33 by decide), Option.bind_some, Option.bind_some, show hg_cst (hk_sv 3) (tk_or.getD 5 0) = some 4 by decide +kernel, Option.bind_some]
  exact emit_c hA hok hK h r hb (RP_k rp (by decide)) hq
theorem rs6 {D : Nat} (hA : BUalg) (hok : lw_ok G sz) (hK : 40 * n + 70 ≤ K1 ∧ 200 * n + 400 ≤ K2) {T : hm_T2} (h : PV G t0' H0 K1 K2 n f S A C B Q j el P ND) (r : RM M C B n f Q j b u w) (hb : b ≤ (M.1 7).toInt) (rp : RP M B Q u w p0 4) {ln : Int32} {q : md_S × Int32} (hq : mm_simple_JI M (kw.getD 6 0) ln = some q) : dc_wp (hm_PA_takeRest T G S (A 0) (some (G.2.1 6)) ln) (fun z => (∃ S' r, z = .inl (S', r) ∧ stO G t0' H0 K1 K2 n f (100 * (2 * (D + 1)) + (27 - (M.1 11).toInt).toNat) A C B Q P ND M u w p0 S' r q) ∨ ∃ X : hg_X, z = .inr X ∧ thr t0' H0 K1 K2 n (A 0) (A 1) X q.1) := by
  delta hm_PA_takeRest
  rw [tk_eq hok (show 6 < 33 by decide), Option.bind_some]
  delta hm_EN_ordinal
  rw [tk_eq hok (show 6 < 33 by decide), Option.bind_some, Option.bind_some, show hg_cst (hk_sv 3) (tk_or.getD 6 0) = some 5 by decide +kernel, Option.bind_some]
  exact sustain_c hA hok hK h r hb (RP_k rp (by decide)) hq
theorem rs7 {D : Nat} (hA : BUalg) (hok : lw_ok G sz) (hK : 40 * n + 70 ≤ K1 ∧ 200 * n + 400 ≤ K2) {T : hm_T2} (h : PV G t0' H0 K1 K2 n f S A C B Q j el P ND) (r : RM M C B n f Q j b u w) (hb : b ≤ (M.1 7).toInt) (rp : RP M B Q u w p0 4) {ln : Int32} {q : md_S × Int32} (hq : mm_simple_JI M (kw.getD 7 0) ln = some q) : dc_wp (hm_PA_takeRest T G S (A 0) (some (G.2.1 7)) ln) (fun z => (∃ S' r, z = .inl (S', r) ∧ stO G t0' H0 K1 K2 n f (100 * (2 * (D + 1)) + (27 - (M.1 11).toInt).toNat) A C B Q P ND M u w p0 S' r q) ∨ ∃ X : hg_X, z = .inr X ∧ thr t0' H0 K1 K2 n (A 0) (A 1) X q.1) := by
  delta hm_PA_takeRest
  rw [tk_eq hok (show 7 < 33 by decide), Option.bind_some]
  delta hm_EN_ordinal
  rw [tk_eq hok (show 7 < 33 by decide), Option.bind_some, Option.bind_some, show hg_cst (hk_sv 3) (tk_or.getD 7 0) = some 6 by decide +kernel, Option.bind_some]
  exact exit_c hA hok hK h r hb (RP_k rp (by decide)) hq
theorem rs21 {D : Nat} (hA : BUalg) (hok : lw_ok G sz) (hK : 40 * n + 70 ≤ K1 ∧ 200 * n + 400 ≤ K2) {T : hm_T2} (h : PV G t0' H0 K1 K2 n f S A C B Q j el P ND) (r : RM M C B n f Q j b u w) (hb : b ≤ (M.1 7).toInt) (rp : RP M B Q u w p0 4) {ln : Int32} {q : md_S × Int32} (hq : mm_simple_JI M (kw.getD 21 0) ln = some q) : dc_wp (hm_PA_takeRest T G S (A 0) (some (G.2.1 21)) ln) (fun z => (∃ S' r, z = .inl (S', r) ∧ stO G t0' H0 K1 K2 n f (100 * (2 * (D + 1)) + (27 - (M.1 11).toInt).toNat) A C B Q P ND M u w p0 S' r q) ∨ ∃ X : hg_X, z = .inr X ∧ thr t0' H0 K1 K2 n (A 0) (A 1) X q.1) := by
  delta hm_PA_takeRest
  rw [tk_eq hok (show 21 < 33 by decide), Option.bind_some]
  delta hm_EN_ordinal
  rw [tk_eq hok (show 21 < 33 by decide), Option.bind_some, Option.bind_some, show hg_cst (hk_sv 3) (tk_or.getD 21 0) = some 7 by decide +kernel, Option.bind_some]
  exact await_c hA hok hK h r hb (RP_k rp (by decide)) hq
end RSC
