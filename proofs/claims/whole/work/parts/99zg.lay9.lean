/-- mend of the reference: the arcs are laid -/
theorem zJ_t {z : Int} (h1 : -9223372036854775808 ≤ z) (h2 : z < 9223372036854775808) : (zJ z).toInt = z := Int64.toInt_ofInt_of_le h1 h2
theorem zJ_sub (a b : Int) : zJ a - zJ b = zJ (a - b) := (Int64.ofInt_sub a b).symm
theorem zJ_neg (a : Int) : -zJ a = zJ (-a) := (Int64.ofInt_neg a).symm
theorem zJ_mul (a b : Int) : zJ a * zJ b = zJ (a * b) := (Int64.ofInt_mul a b).symm
theorem zJ_lt {a b : Int} (h1 : -9223372036854775808 ≤ a) (h2 : a < 9223372036854775808) (h3 : -9223372036854775808 ≤ b) (h4 : b < 9223372036854775808) : zJ a < zJ b ↔ a < b := by rw [Int64.lt_iff_toInt_lt, zJ_t h1 h2, zJ_t h3 h4]
theorem zJ_le {a b : Int} (h1 : -9223372036854775808 ≤ a) (h2 : a < 9223372036854775808) (h3 : -9223372036854775808 ≤ b) (h4 : b < 9223372036854775808) : zJ a ≤ zJ b ↔ a ≤ b := by rw [Int64.le_iff_toInt_le, zJ_t h1 h2, zJ_t h3 h4]
theorem zJ_inj {a b : Int} (h1 : -9223372036854775808 ≤ a) (h2 : a < 9223372036854775808) (h3 : -9223372036854775808 ≤ b) (h4 : b < 9223372036854775808) : zJ a = zJ b ↔ a = b := by rw [← Int64.toInt_inj, zJ_t h1 h2, zJ_t h3 h4]
theorem zJ0 : (0 : Int64) = zJ 0 := rfl
theorem zJA : (1000000000000000 : Int64) = zJ 1000000000000000 := rfl
abbrev FN : Type := Nat → Nat
/-- pairs of arcs: m, from, to, cost, room, what was there before -/
abbrev PrT : Type := Nat × FN × FN × FZ × FZ × FZ
def aM (t : PrT) : Nat := t.1
def aF (t : PrT) : FN := t.2.1
def aT (t : PrT) : FN := t.2.2.1
def aK (t : PrT) : FZ := t.2.2.2.1
def aP (t : PrT) : FZ := t.2.2.2.2.1
def aY (t : PrT) : FZ := t.2.2.2.2.2
def aW (t : PrT) : Nw := rw' 21 (aM t) (aF t) (aT t) (aK t) (aP t)
def aOK (t : PrT) : Prop := aM t ≤ 101 ∧ ∀ l, l < aM t → aF t l < 21 ∧ aT t l < 21 ∧ (0 ≤ aK t l ∧ aK t l ≤ 1) ∧ (0 ≤ aP t l ∧ aP t l ≤ 1000000000000000) ∧ (-aP t l ≤ aY t l ∧ aY t l ≤ 0)
def adP (t : PrT) (u v : Nat) (k cp y : Int) : PrT := (aM t + 1, upNn (aF t) (aM t) u, upNn (aT t) (aM t) v, upZ (aK t) (aM t) k, upZ (aP t) (aM t) cp, upZ (aY t) (aM t) y)
theorem adP_lt {t : PrT} {u v : Nat} {k cp y : Int} {i : Nat} (h : i < aM t) : aF (adP t u v k cp y) i = aF t i ∧ aT (adP t u v k cp y) i = aT t i ∧ aK (adP t u v k cp y) i = aK t i ∧ aP (adP t u v k cp y) i = aP t i ∧ aY (adP t u v k cp y) i = aY t i := ⟨if_neg (by omega), if_neg (by omega), upZ_n (by omega), upZ_n (by omega), upZ_n (by omega)⟩
theorem adP_eq {t : PrT} {u v : Nat} {k cp y : Int} : aF (adP t u v k cp y) (aM t) = u ∧ aT (adP t u v k cp y) (aM t) = v ∧ aK (adP t u v k cp y) (aM t) = k ∧ aP (adP t u v k cp y) (aM t) = cp ∧ aY (adP t u v k cp y) (aM t) = y := ⟨if_pos rfl, if_pos rfl, upZ_e _ _ _, upZ_e _ _ _, upZ_e _ _ _⟩
theorem adP_ok {t : PrT} {u v : Nat} {k cp y : Int} (h : aOK t) (hm : aM t ≤ 100) (hu : u < 21) (hv : v < 21) (hk : 0 ≤ k ∧ k ≤ 1) (hc : 0 ≤ cp ∧ cp ≤ 1000000000000000) (hy : -cp ≤ y ∧ y ≤ 0) : aOK (adP t u v k cp y) := by
  refine ⟨show aM t + 1 ≤ 101 by omega, fun l hl => ?_⟩
  have hl : l < aM t + 1 := hl
  by_cases e : l = aM t
  · obtain ⟨a1, a2, a3, a4, a5⟩ := adP_eq (t := t) (u := u) (v := v) (k := k) (cp := cp) (y := y)
    rw [e, a1, a2, a3, a4, a5]
    exact ⟨hu, hv, hk, hc, hy⟩
  · obtain ⟨a1, a2, a3, a4, a5⟩ := adP_lt (t := t) (u := u) (v := v) (k := k) (cp := cp) (y := y) (show l < aM t by omega)
    rw [a1, a2, a3, a4, a5]
    exact h.2 l (by omega)
/-- the arcs in the arrays -/
def MA (t : PrT) (f : FZ) (H : Hp) : Prop := gI H 0 0 52 = nI (2 * aM t) ∧ ∀ a, a < 2 * aM t → gI H 0 48 a = nI (nU (aW t) a) ∧ gI H 0 49 a = nI (nV (aW t) a) ∧ gJ H 0 50 a = zJ (nR (aW t) f a) ∧ gI H 0 51 a = zI (nC (aW t) f a)
abbrev f00 : FZ := fun _ => 0
theorem g52 {H : Hp} {k i : Nat} {v : Int32} (h : k ≠ 0) : gI (sI H 0 k i v) 0 0 52 = gI H 0 0 52 := by rw [gI_ne (by omega)]
def pshH (u v : Nat) (R : Int64) (K : Int32) (K' : Int32) (a : Nat) (H : Hp) : Hp := sI (sI (sJ (sI (sI (sI (sJ (sI (sI H 0 48 a (nI u)) 0 49 a (nI v)) 0 50 a R) 0 51 a K) 0 48 (a + 1) (nI v)) 0 49 (a + 1) (nI u)) 0 50 (a + 1) 0) 0 51 (a + 1) K') 0 0 52 (nI (a + 2))
theorem x9_push {H : Hp} {a u v : Nat} {R : Int64} {K : Int} (h : gI H 0 0 52 = nI a) (ha : a < 310) : f_X9_push (nI u) (nI v) R (zI K) H = some ((), pshH u v R (zI K) (zI (-K)) a H) := by
  unfold f_X9_push pshH
  simp only [hl_e, g52 (show (48 : Nat) ≠ 0 by decide), g52 (show (49 : Nat) ≠ 0 by decide), g52 (show (51 : Nat) ≠ 0 by decide), gI_sJ, h, l1, l2, nIadd, gd_nI (show a < 320 by omega) (show 320 < 2 ^ 31 by decide), gd_nI (show a + 1 < 320 by omega) (show 320 < 2 ^ 31 by decide), nI_clamp (show a < 2 ^ 31 by omega), nI_clamp (show a + 1 < 2 ^ 31 by omega), zI_neg]
theorem MA_push {t : PrT} {H : Hp} {u v : Nat} {K R y : Int} (h : MA t f00 H) : MA (adP t u v K R y) f00 (pshH u v (zJ R) (zI K) (zI (-K)) (2 * aM t) H) := by
  have hm : aM (adP t u v K R y) = aM t + 1 := rfl
  refine ⟨?_, fun a ha => ?_⟩
  · unfold pshH
    rw [gI_eq, hm]
    rfl
  · rw [hm] at ha
    obtain ⟨b1, b2, b3, b4, b5⟩ := adP_eq (t := t) (u := u) (v := v) (k := K) (cp := R) (y := y)
    by_cases e : a / 2 = aM t
    · unfold nU nV nR nC
      show _ ∧ _ ∧ gJ _ 0 50 a = zJ (if a % 2 = 0 then aP (adP t u v K R y) (a / 2) - 0 else 0) ∧ gI _ 0 51 a = zI (if a % 2 = 0 then aK (adP t u v K R y) (a / 2) else -aK (adP t u v K R y) (a / 2))
      have e1 : nF (aW (adP t u v K R y)) (a / 2) = u := by rw [e]; exact b1
      have e2 : nT (aW (adP t u v K R y)) (a / 2) = v := by rw [e]; exact b2
      rw [e1, e2, e, b3, b4]
      unfold pshH
      by_cases p : a % 2 = 0
      · have ea : a = 2 * aM t := by omega
        subst ea
        rw [if_pos p, if_pos p, if_pos p, if_pos p]
        refine ⟨?_, ?_, ?_, ?_⟩
        · simp (disch := omega) only [gI_ne, gI_sJ, gI_eq]
        · simp (disch := omega) only [gI_ne, gI_sJ, gI_eq]
        · simp (disch := omega) only [gJ_ne, gJ_sI, gJ_eq, Int.sub_zero]
        · simp (disch := omega) only [gI_ne, gI_sJ, gI_eq]
      · have ea : a = 2 * aM t + 1 := by omega
        subst ea
        rw [if_neg p, if_neg p, if_neg p, if_neg p]
        refine ⟨?_, ?_, ?_, ?_⟩
        · simp (disch := omega) only [gI_ne, gI_sJ, gI_eq]
        · simp (disch := omega) only [gI_ne, gI_sJ, gI_eq]
        · simp (disch := omega) only [gJ_ne, gJ_sI, gJ_eq]; rfl
        · simp (disch := omega) only [gI_ne, gI_sJ, gI_eq]
    · obtain ⟨c1, c2, c3, c4, c5⟩ := adP_lt (t := t) (u := u) (v := v) (k := K) (cp := R) (y := y) (show a / 2 < aM t by omega)
      have q1 : nU (aW (adP t u v K R y)) a = nU (aW t) a := by
        unfold nU
        show (if a % 2 = 0 then aF (adP t u v K R y) (a / 2) else aT (adP t u v K R y) (a / 2)) = if a % 2 = 0 then aF t (a / 2) else aT t (a / 2)
        rw [c1, c2]
      have q2 : nV (aW (adP t u v K R y)) a = nV (aW t) a := by
        unfold nV
        show (if a % 2 = 0 then aT (adP t u v K R y) (a / 2) else aF (adP t u v K R y) (a / 2)) = if a % 2 = 0 then aT t (a / 2) else aF t (a / 2)
        rw [c1, c2]
      have q3 : nR (aW (adP t u v K R y)) f00 a = nR (aW t) f00 a := by
        unfold nR
        show (if a % 2 = 0 then aP (adP t u v K R y) (a / 2) - 0 else 0) = if a % 2 = 0 then aP t (a / 2) - 0 else 0
        rw [c4]
      have q4 : nC (aW (adP t u v K R y)) f00 a = nC (aW t) f00 a := by
        unfold nC
        show (if a % 2 = 0 then aK (adP t u v K R y) (a / 2) else -aK (adP t u v K R y) (a / 2)) = if a % 2 = 0 then aK t (a / 2) else -aK t (a / 2)
        rw [c3]
      rw [q1, q2, q3, q4]
      obtain ⟨r1, r2, r3, r4⟩ := h.2 a (by omega)
      unfold pshH
      rw [← r1, ← r2, ← r3, ← r4]
      refine ⟨?_, ?_, ?_, ?_⟩
      · simp (disch := omega) only [gI_ne, gI_sJ]
      · simp (disch := omega) only [gI_ne, gI_sJ]
      · simp (disch := omega) only [gJ_ne, gJ_sI]
      · simp (disch := omega) only [gI_ne, gI_sJ]
/-- what stands of the routine, and what is over at each node -/
def SR (r : Nat) (G : Gr) (bl : Nat → Nat) (H : Hp) : Prop := gI H 0 1 r = nI (qB G) ∧ gI H 0 2 r = nI (qE G) ∧ (∀ b, b < qB G → gI H 0 4 (20 * r + b) = nI (qK G b)) ∧ ∀ e, e < qE G → gI H 0 6 (40 * r + e) = nI (qF G e) ∧ gI H 0 7 (40 * r + e) = nI (qT G e) ∧ gI H 0 10 (40 * r + e) = nI (bl e)
theorem SR_f {r : Nat} {G : Gr} {bl : Nat → Nat} {H H' : Hp} (h : SR r G bl H) (q : ∀ k i, (k = 1 ∨ k = 2 ∨ k = 4 ∨ k = 6 ∨ k = 7 ∨ k = 10) → gI H' 0 k i = gI H 0 k i) : SR r G bl H' := by
  unfold SR
  rw [q 1 r (by omega), q 2 r (by omega)]
  refine ⟨h.1, h.2.1, fun b hb => ?_, fun e he => ?_⟩
  · rw [q 4 _ (by omega)]; exact h.2.2.1 b hb
  · rw [q 6 _ (by omega), q 7 _ (by omega), q 10 _ (by omega)]; exact h.2.2.2 e he
def yS (t : PrT) (v : Nat) : Int := nt (aW t) (aY t) f00 v (aM t)
theorem yS_ad {t : PrT} {u v x : Nat} {k cp y : Int} : yS (adP t u v k cp y) x = yS t x + y * (i1 v x - i1 u x) := by
  unfold yS
  have hm : aM (adP t u v k cp y) = aM t + 1 := rfl
  obtain ⟨b1, b2, b3, b4, b5⟩ := adP_eq (t := t) (u := u) (v := v) (k := k) (cp := cp) (y := y)
  have e1 : nt (aW (adP t u v k cp y)) (aY (adP t u v k cp y)) f00 x (aM t + 1) = nt (aW (adP t u v k cp y)) (aY (adP t u v k cp y)) f00 x (aM t) + (aY (adP t u v k cp y) (aM t) + 0) * (i1 (aT (adP t u v k cp y) (aM t)) x - i1 (aF (adP t u v k cp y) (aM t)) x) := rfl
  have e2 : nt (aW (adP t u v k cp y)) (aY (adP t u v k cp y)) f00 x (aM t) = nt (aW t) (aY t) f00 x (aM t) := by
    refine smZ_congr (fun l hl => ?_)
    obtain ⟨c1, c2, c3, c4, c5⟩ := adP_lt (t := t) (u := u) (v := v) (k := k) (cp := cp) (y := y) hl
    show (aY (adP t u v k cp y) l + 0) * (i1 (aT (adP t u v k cp y) l) x - i1 (aF (adP t u v k cp y) l) x) = (aY t l + 0) * (i1 (aT t l) x - i1 (aF t l) x)
    rw [c1, c2, c5]
  rw [hm, e1, e2, b1, b2, b5, Int.add_zero]
def MO (X : FZ) (H : Hp) : Prop := ∀ v, v < 21 → gJ H 0 53 v = zJ (X v)
theorem PR2_ad {F0 T0 : FN} {b : FZ} {j : Nat} {t : PrT} {u v : Nat} {k cp y : Int} (h : PR2 F0 T0 b j (aM t) (aF t) (aT t) (aK t) (aP t) (aY t)) : PR2 F0 T0 b j (aM t) (aF (adP t u v k cp y)) (aT (adP t u v k cp y)) (aK (adP t u v k cp y)) (aP (adP t u v k cp y)) (aY (adP t u v k cp y)) := PR2_cg h (fun i hi => adP_lt hi)
/-- the state while they are laid: j links -/
def jE (G : Gr) (j : Nat) : Nat := if j ≤ qE G then j else qE G
def LyS (r : Nat) (G : Gr) (bl : Nat → Nat) (j : Nat) (H : Hp) : Prop := ∃ t, aOK t ∧ (aM t ≤ j + jE G j ∧ ∀ x, -(1000000 * (jE G j : Int)) ≤ yS t x ∧ yS t x ≤ 1000000 * (jE G j : Int)) ∧ MA t f00 H ∧ PR2 (lF G) (lT G) (bz G bl) j (aM t) (aF t) (aT t) (aK t) (aP t) (aY t) ∧ MO (yS t) H ∧ SR r G bl H
theorem x9_m24 {H : Hp} {b1 : Int32} {k : Hp → Option (Int64 × Hp)} {Q : Int64 → Hp → Prop} {r : Nat} {G : Gr} {bl : Nat → Nat} (hS : SR r G bl H) (h52 : gI H 0 0 52 = nI 0) (hk : ∀ H', LyS r G bl 0 H' → ok (k H') Q) : ok (L_X9_mend_24 b1 k FU 0 H) Q := by
  refine ok_g1 21 (fun i H' => gI H' 0 0 52 = nI 0 ∧ SR r G bl H' ∧ ∀ v, v < i → gJ H' 0 53 v = zJ 0) ?_ ?_ rfl ⟨h52, hS, fun v hv => absurd hv (by omega)⟩ (FUgt (by omega))
  · rintro i n H1 hi ⟨h1, h2, h3⟩ K
    rw [L_X9_mend_24, l21, if_neg (by rw [nI_le_iff (by omega) (by omega)]; omega), gd_nI (by omega) (by decide), nI_clamp (n := i) (by omega), hl_e, vl_e, show nI i + 1 = nI (i + 1) from nIadd i 1]
    refine K _ ⟨h1, SR_f h2 (fun _ _ _ => rfl), fun v hv => ?_⟩
    by_cases e : v = i
    · rw [e, gJ_eq]; rfl
    · rw [gJ_ne (by omega)]; exact h3 v (by omega)
  · rintro n H1 ⟨h1, h2, h3⟩
    rw [L_X9_mend_24, l21, if_pos (by rw [nI_le_iff (by omega) (by omega)]; omega)]
    refine hk H1 ⟨(0, fun _ => 0, fun _ => 0, fun _ => 0, fun _ => 0, fun _ => 0), ⟨by decide, fun l hl => absurd hl (Nat.not_lt_zero _)⟩, ⟨Nat.zero_le _, fun x => by rw [show jE G 0 = 0 from if_pos (Nat.zero_le _)]; exact ⟨Int.le_refl _, Int.le_refl _⟩⟩, ⟨h1, fun a ha => absurd ha (Nat.not_lt_zero _)⟩, PR2_0 _ _ _ _ _ _ _ _, fun v hv => h3 v hv, h2⟩
theorem pshH_i {H : Hp} {u v a : Nat} {R : Int64} {K K' : Int32} {k i : Nat} (h : k ≠ 48 ∧ k ≠ 49 ∧ k ≠ 51 ∧ k ≠ 0) : gI (pshH u v R K K' a H) 0 k i = gI H 0 k i := by
  unfold pshH
  simp (disch := omega) only [gI_ne, gI_sJ]
theorem pshH_j {H : Hp} {u v a : Nat} {R : Int64} {K K' : Int32} {k i : Nat} (h : k ≠ 50) : gJ (pshH u v R K K' a H) 0 k i = gJ H 0 k i := by
  unfold pshH
  simp (disch := omega) only [gJ_ne, gJ_sI]
theorem SR_p {r : Nat} {G : Gr} {bl : Nat → Nat} {H : Hp} {u v a : Nat} {R : Int64} {K K' : Int32} (h : SR r G bl H) : SR r G bl (pshH u v R K K' a H) := SR_f h (fun k i hk => pshH_i (by omega))
theorem MO_p {X : FZ} {H : Hp} {u v a : Nat} {R : Int64} {K K' : Int32} (h : MO X H) : MO X (pshH u v R K K' a H) := fun x hx => by rw [pshH_j (by decide)]; exact h x hx
theorem MA_o {t : PrT} {f : FZ} {H : Hp} (h : MA t f H) (i : Nat) (v : Int64) : MA t f (sJ H 0 53 i v) := ⟨h.1, fun a ha => by
  obtain ⟨r1, r2, r3, r4⟩ := h.2 a ha
  exact ⟨r1, r2, by rw [gJ_ne (by omega)]; exact r3, r4⟩⟩
