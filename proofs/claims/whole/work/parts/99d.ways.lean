/-- ways: ranks of blocks -/
def RkP (G : Gr) (n : Nat → Nat) : Prop := ∃ rk : Nat → Nat, (∀ b, b < qB G → n b ≠ 0 → rk b < nzc G n) ∧ (∀ e, e < qE G → qW G e = false → n (qF G e) ≠ 0 → n (qT G e) ≠ 0 ∧ rk (qT G e) < rk (qF G e))
theorem RkP_congr {G : Gr} (w : WG G) {n n' : Nat → Nat} (h : RkP G n) (hn : ∀ b, b < qB G → n' b = n b) : RkP G n' := by
  obtain ⟨rk, h1, h2⟩ := h
  refine ⟨rk, fun b hb hz => ?_, fun e he hw hz => ?_⟩
  · rw [nzc_congr hn]; rw [hn b hb] at hz; exact h1 b hb hz
  · have wf := w.2.2.2.1 e he
    rw [hn _ wf.1] at hz
    rw [hn _ wf.2.1]
    exact h2 e he hw hz
theorem RkP_psn {G : Gr} (w : WG G) (hO : ∀ b, b < qB G → oG G b = true) {n : Nat → Nat} (hc : Con G n) (h : RkP G n) : ∀ x, x ≤ qB G → RkP G (psn G n x) := by
  intro x
  induction x with
  | zero => intro _; exact h
  | succ x ih =>
    intro hx
    have hr := ih (by omega)
    have hcon := (psn_ext w hc x (by omega)).1
    by_cases hz : psn G n x x = 0
    · by_cases hcf : cf G (psn G n x) x = 0
      · refine RkP_congr w hr (fun b hb => ?_)
        rw [psn_s]
        by_cases q : b = x
        · rw [if_pos q, q, hcf, hz]
        · rw [if_neg q]
      · obtain ⟨rk, h1, h2⟩ := hr
        have hup := nzc_up (by omega : x < qB G) hz hcf
        refine ⟨upN rk x (nzc G (psn G n x)), fun b hb hn => ?_, fun e he hw hn => ?_⟩
        · by_cases q : b = x
          · rw [q, upN_eq]; omega
          · rw [psn_s, if_neg q] at hn
            rw [upN_ne q]
            have := h1 b hb hn
            omega
        · have wf := w.2.2.2.1 e he
          by_cases q : qF G e = x
          · have hrd : rdy G (psn G n x) x (qE G) = true := by
              unfold cf at hcf
              have := no_end hO w he
              rw [q] at this
              rw [if_neg this] at hcf
              by_cases z : rdy G (psn G n x) x (qE G) = true
              · exact z
              · rw [if_neg z] at hcf; exact absurd rfl hcf
            have hb := rdy_iff.mp hrd e he q
            unfold bey at hb
            rw [if_neg (bf_ne hw)] at hb
            have hne : qT G e ≠ x := fun z => by rw [z] at hb; exact hb hz
            refine ⟨by rw [psn_s, if_neg hne]; exact hb, ?_⟩
            rw [q, upN_eq, upN_ne hne]
            exact h1 _ wf.2.1 hb
          · rw [psn_s, if_neg q] at hn
            obtain ⟨u1, u2⟩ := h2 e he hw hn
            have hne : qT G e ≠ x := fun z => by rw [z] at u1; exact u1 hz
            rw [psn_s, if_neg hne, upN_ne q, upN_ne hne]
            exact ⟨u1, u2⟩
    · refine RkP_congr w hr (fun b hb => ?_)
      rw [psn_s]
      by_cases q : b = x
      · rw [if_pos q, q]; exact hcon x (by omega) hz
      · rw [if_neg q]
theorem rank_ex {G : Gr} (w : WG G) (hO : ∀ b, b < qB G → oG G b = true) (hz : ∀ b, b < qB G → nW G b ≠ 0) : ∃ rk : Nat → Nat, (∀ b, b < qB G → rk b < qB G) ∧ (∀ e, e < qE G → qW G e = false → rk (qT G e) < rk (qF G e)) := by
  have key : ∀ p, RkP G (npi G p) := by
    intro p
    induction p with
    | zero => exact ⟨fun _ => 0, fun b _ h => absurd rfl h, fun e _ _ h => absurd rfl h⟩
    | succ p ih => exact RkP_psn w hO (npi_con w p) ih _ (Nat.le_refl _)
  obtain ⟨rk, h1, h2⟩ := key (qB G)
  refine ⟨rk, fun b hb => ?_, fun e he hw => ?_⟩
  · have := h1 b hb (hz b hb)
    have h3 : nzc G (npi G (qB G)) ≤ qB G := cntP_le _ _
    omega
  · exact (h2 e he hw (hz _ (w.2.2.2.1 e he).1)).2
/-- the edge by which a way goes on -/
def bsE (G : Gr) (b l : Nat) : Nat → Option Nat
  | 0 => none
  | e + 1 => if qF G e = b ∧ aD G e ≤ l then some e else bsE G b l e
theorem bsE_some {G : Gr} {b l n e : Nat} (h : bsE G b l n = some e) : e < n ∧ qF G e = b ∧ aD G e ≤ l := by
  induction n with
  | zero => cases h
  | succ n ih =>
    have h' : (if qF G n = b ∧ aD G n ≤ l then some n else bsE G b l n) = some e := h
    by_cases q : qF G n = b ∧ aD G n ≤ l
    · rw [if_pos q] at h'
      have : n = e := Option.some.inj h'
      subst this
      exact ⟨by omega, q⟩
    · rw [if_neg q] at h'
      obtain ⟨a1, a2⟩ := ih h'
      exact ⟨by omega, a2⟩
theorem bsE_same {G : Gr} {b l m d : Nat} (h : oN G b m = oN G b (m + d)) : bsE G b l (m + d) = bsE G b l m := by
  induction d with
  | zero => rfl
  | succ d ih =>
    have h1 : oN G b m ≤ oN G b (m + d) := cntP_mono _ (by omega)
    have h2 : oN G b (m + d) ≤ oN G b (m + (d + 1)) := cntP_mono _ (by omega)
    have h3 := no_out h (e := m + d) (by omega) (by omega)
    show (if qF G (m + d) = b ∧ aD G (m + d) ≤ l then some (m + d) else bsE G b l (m + d)) = _
    rw [if_neg (fun z => h3 z.1)]
    exact ih (by omega)
theorem bsE_eq {G : Gr} {b l m m' : Nat} (h : oN G b m = oN G b m') : bsE G b l m = bsE G b l m' := by
  rcases Nat.le_total m m' with q | q
  · have := bsE_same (l := l) (d := m' - m) (show oN G b m = oN G b (m + (m' - m)) by rw [show m + (m' - m) = m' by omega]; exact h)
    rw [show m + (m' - m) = m' by omega] at this
    exact this.symm
  · have := bsE_same (l := l) (d := m - m') (show oN G b m' = oN G b (m' + (m - m')) by rw [show m' + (m - m') = m by omega]; exact h.symm)
    rw [show m' + (m - m') = m by omega] at this
    exact this
def nxE (G : Gr) (b l : Nat) : Option Nat := bsE G b l (qE G)
def pS (G : Gr) (x : Nat × Nat) : Option (Nat × Nat) := match nxE G x.1 x.2 with
  | none => none
  | some e => if qW G e = true then none else some (qT G e, x.2 - aD G e)
def pA (G : Gr) (x : Nat × Nat) : Nat → Option (Nat × Nat)
  | 0 => some x
  | i + 1 => match pA G x i with
    | none => none
    | some y => pS G y
theorem pA_s {G : Gr} {x y : Nat × Nat} {i : Nat} (h : pA G x i = some y) : pA G x (i + 1) = pS G y := by
  show (match pA G x i with | none => none | some y => pS G y) = _
  rw [h]
theorem pA_rk {G : Gr} (w : WG G) {rk : Nat → Nat} (hrk : ∀ e, e < qE G → qW G e = false → rk (qT G e) < rk (qF G e)) {x : Nat × Nat} (hx : x.1 < qB G) {i : Nat} {y : Nat × Nat} (h : pA G x i = some y) : y.1 < qB G ∧ rk y.1 + i ≤ rk x.1 ∧ y.2 ≤ x.2 := by
  induction i generalizing y with
  | zero =>
    have : x = y := Option.some.inj h
    subst this
    exact ⟨hx, by omega, Nat.le_refl _⟩
  | succ i ih =>
    cases hz : pA G x i with
    | none =>
      have h' : (match pA G x i with | none => none | some y => pS G y) = some y := h
      rw [hz] at h'; cases h'
    | some z =>
      rw [pA_s hz] at h
      obtain ⟨a1, a2, a3⟩ := ih hz
      unfold pS at h
      cases hn : nxE G z.1 z.2 with
      | none => rw [hn] at h; cases h
      | some e =>
        rw [hn] at h
        dsimp only at h
        obtain ⟨b1, b2, b3⟩ := bsE_some hn
        cases hw : qW G e with
        | true => rw [if_pos hw] at h; cases h
        | false =>
          rw [if_neg (bf_ne hw)] at h
          have : (qT G e, z.2 - aD G e) = y := Option.some.inj h
          subst this
          have := hrk e b1 hw
          rw [b2] at this
          exact ⟨(w.2.2.2.1 e b1).2.1, by show rk (qT G e) + (i + 1) ≤ rk x.1; omega, by show z.2 - aD G e ≤ x.2; omega⟩
/-- where a way begins -/
def clB (G : Gr) (n : Nat) : Nat → Nat
  | 0 => 0
  | b + 1 => if hdB G b (qE G) = true ∧ bsS G b ≤ n then b else clB G n b
def rfB (G : Gr) (n : Nat) : Nat → Option Nat
  | 0 => none
  | b + 1 => if hdB G b (qE G) = true ∧ bsS G b ≤ n ∧ n < bsS G b + nW G b then some b else rfB G n b
theorem bsS_mono (G : Gr) (b : Nat) : bsS G b ≤ bsS G (b + 1) := by rw [bsS_s]; omega
theorem bsS_ge (G : Gr) (b : Nat) : nW G 0 ≤ bsS G b := by unfold bsS; omega
theorem bg_hi {G : Gr} {n x : Nat} (h0 : nW G 0 ≤ n) (hx : n < bsS G x) : clB G n x < x ∧ hdB G (clB G n x) (qE G) = true ∧ bsS G (clB G n x) ≤ n ∧ rfB G n x = some (clB G n x) := by
  induction x with
  | zero => rw [bsS_0] at hx; omega
  | succ x ih =>
    show (if hdB G x (qE G) = true ∧ bsS G x ≤ n then x else clB G n x) < x + 1 ∧ hdB G (if hdB G x (qE G) = true ∧ bsS G x ≤ n then x else clB G n x) (qE G) = true ∧ bsS G (if hdB G x (qE G) = true ∧ bsS G x ≤ n then x else clB G n x) ≤ n ∧ (if hdB G x (qE G) = true ∧ bsS G x ≤ n ∧ n < bsS G x + nW G x then some x else rfB G n x) = some (if hdB G x (qE G) = true ∧ bsS G x ≤ n then x else clB G n x)
    rw [bsS_s] at hx
    by_cases hc : hdB G x (qE G) = true ∧ bsS G x ≤ n
    · rw [if_pos hc.1] at hx
      rw [if_pos hc, if_pos ⟨hc.1, hc.2, hx⟩]
      exact ⟨by omega, hc.1, hc.2, rfl⟩
    · rw [if_neg hc, if_neg (fun z => hc ⟨z.1, z.2.1⟩)]
      have hx2 : n < bsS G x := by
        by_cases q : hdB G x (qE G) = true
        · by_cases q2 : bsS G x ≤ n
          · exact absurd ⟨q, q2⟩ hc
          · omega
        · rw [if_neg q] at hx; omega
      obtain ⟨a1, a2, a3, a4⟩ := ih hx2
      exact ⟨by omega, a2, a3, a4⟩
theorem bg_lo {G : Gr} {n : Nat} (h0 : n < nW G 0) (x : Nat) : clB G n x = 0 ∧ rfB G n x = none := by
  induction x with
  | zero => exact ⟨rfl, rfl⟩
  | succ x ih =>
    have := bsS_ge G x
    show (if hdB G x (qE G) = true ∧ bsS G x ≤ n then x else clB G n x) = 0 ∧ (if hdB G x (qE G) = true ∧ bsS G x ≤ n ∧ n < bsS G x + nW G x then some x else rfB G n x) = none
    rw [if_neg (fun z => by have := z.2; omega), if_neg (fun z => by have := z.2.1; omega)]
    exact ih
/-- the beginning of way n -/
def bgP (G : Gr) (n : Nat) : Nat × Nat := if n < nW G 0 then (0, n) else (clB G n (qB G), n - bsS G (clB G n (qB G)))
def eV (o : Option Nat) : Int32 := match o with
  | none => N1
  | some e => nI e
/-- a way as it is laid out: n blocks long -/
def Lay (G : Gr) (x : Nat × Nat) (len : Nat) (bk ed : Nat → Int32) : Prop := (∀ i, i < len → ∃ y, pA G x i = some y ∧ bk i = nI y.1 ∧ ed i = eV (nxE G y.1 y.2)) ∧ pA G x len = none
theorem Lay_len {G : Gr} {x : Nat × Nat} {n m : Nat} {b e b' e' : Nat → Int32} (h : Lay G x n b e) (h' : Lay G x m b' e') : n = m := by
  rcases Nat.lt_trichotomy n m with q | q | q
  · obtain ⟨y, y1, -⟩ := h'.1 n q
    rw [h.2] at y1; cases y1
  · exact q
  · obtain ⟨y, y1, -⟩ := h.1 m q
    rw [h'.2] at y1; cases y1
theorem Lay_eq {G : Gr} {x : Nat × Nat} {n : Nat} {b e b' e' : Nat → Int32} (h : Lay G x n b e) (h' : Lay G x n b' e') {i : Nat} (hi : i < n) : b i = b' i ∧ e i = e' i := by
  obtain ⟨y, y1, y2, y3⟩ := h.1 i hi
  obtain ⟨z, z1, z2, z3⟩ := h'.1 i hi
  rw [y1] at z1
  have : y = z := Option.some.inj z1
  subst this
  exact ⟨y2.trans z2.symm, y3.trans z3.symm⟩
