/-- carrying, in the reference -/
theorem par2 : ∀ a : Fin 320, ((nI a.val - nI a.val / 2 * 2 = 0) ↔ a.val % 2 = 0) := by decide +kernel
theorem x9_mar {t : PrT} {f X p far : FZ} {Fr : Int} {bY : Nat → Option Nat} {rk P e : Nat → Nat} {n i : Nat} (hr : Q9 t f X p) (hP : PF (a9 t f) Fr X far bY rk P e n) (hi : i < n) : P i < 21 ∧ P (i + 1) < 21 ∧ bY (P i) = some (e i) ∧ e i < 2 * aM t ∧ e i < 320 ∧ 0 < nR (aW t) f (e i) ∧ nU (aW t) (e i) = P (i + 1) ∧ far (P (i + 1)) + nC (aW t) f (e i) = far (P i) := by
  obtain ⟨a1, a2, a3, a4, a5, a6, a7⟩ := hP.2.1 i hi
  have a2 : e i < 2 * aM t := a2
  have hm := hr.1.1
  exact ⟨(hP.1 i (by omega)).1, (hP.1 (i + 1) (by omega)).1, a1, a2, by omega, of_decide_eq_true a3, a5, a6⟩
theorem x9_m538 {t : PrT} {f X p far : FZ} {bY : Nat → Option Nat} {rk P e : Nat → Nat} {n : Nat} {H : Hp} {b2 : Int64} {b4 b6 : Int32} {k : Int64 → Int32 → Hp → Option (Int64 × Hp)} {Q : Int64 → Hp → Prop} (hr : Q9 t f X p) (hM : MX t f X H) (hF : FB9 far bY H) (hP : PF (a9 t f) 1000000 X far bY rk P e n) (hn : n < 21) (hs : X (P 0) < 0) (hk : ∀ m, Amt (aW t) f X (P 0) e n m → ok (k (zJ m) (nI (P n)) H) Q) : ok (L_X9_mend_538 b2 b4 b6 k FU (zJ (-X (P 0))) (nI (P 0)) H) Q := by
  have hx0 := hr.2.2.2.2 (P 0) (hP.1 0 (by omega)).1
  refine ok_w2 (fun d x y H' => ∃ i m, i + d = n ∧ H' = H ∧ x = zJ m ∧ y = nI (P i) ∧ Amt (aW t) f X (P 0) e i m) ?_ (d := n) ⟨0, -X (P 0), by omega, rfl, rfl, rfl, by omega, by omega, fun j hj => absurd hj (by omega), .inl rfl⟩ (FUgt (by omega))
  rintro d g x y H1 ⟨i, m, hd, rfl, rfl, rfl, hA⟩ K
  rw [L_X9_mend_538]
  by_cases hi : i < n
  · obtain ⟨p1, p2, p3, p4, p5, p6, p7, p8⟩ := x9_mar hr hP hi
    have hroom := nR_rg hr p4
    have hA' := Amt_st hA p6
    have hm1 := hA.1
    have hm2 := hA.2.1
    have eb : gI H1 0 55 (P i) = nI (e i) := by rw [(hF _ p1).2, p3]; rfl
    obtain ⟨r1, r2, r3, r4⟩ := hM.1.2 _ p4
    simp only [gd_nI p1 (show 21 < 2 ^ 31 by decide), nI_clamp (show P i < 2 ^ 31 by omega), eb, gd_nI p5 (show 320 < 2 ^ 31 by decide), nI_clamp (show e i < 2 ^ 31 by omega), r1, r3, vl_e, jn]
    rw [if_neg (nI_pos (by omega)), p7]
    have ec : (0 ≤ lg_cmp (zJ (nR (aW t) f (e i))) (zJ m)) = (zJ m ≤ zJ (nR (aW t) f (e i))) := c_ge _ _
    by_cases e5 : nR (aW t) f (e i) < m
    · rw [if_neg (by rw [ec, zJ_le (by omega) (by omega) (by omega) (by omega)]; omega)]
      rw [if_pos e5] at hA'
      exact K (d - 1) _ _ _ (by omega) ⟨i + 1, _, by omega, rfl, rfl, rfl, hA'⟩
    · rw [if_pos (by rw [ec, zJ_le (by omega) (by omega) (by omega) (by omega)]; omega)]
      rw [if_neg e5] at hA'
      exact K (d - 1) _ _ _ (by omega) ⟨i + 1, _, by omega, rfl, rfl, rfl, hA'⟩
  · have e : i = n := by omega
    subst e
    have hPn : P i < 21 := (hP.1 i (Nat.le_refl _)).1
    rw [gd_nI hPn (by decide), nI_clamp (n := P i) (by omega), (hF _ hPn).2, hP.2.2.1, if_pos (show by9 none < 0 by decide)]
    exact hk m hA
theorem nR_psh {t : PrT} {f : FZ} {a b : Nat} {z : Int} : nR (aW t) (psh f a z) b = if b = a then nR (aW t) f a - z else if b / 2 = a / 2 then nR (aW t) f b + z else nR (aW t) f b := by
  unfold nR
  show (if b % 2 = 0 then aP t (b / 2) - psh f a z (b / 2) else psh f a z (b / 2)) = if b = a then (if a % 2 = 0 then aP t (a / 2) - f (a / 2) else f (a / 2)) - z else if b / 2 = a / 2 then (if b % 2 = 0 then aP t (b / 2) - f (b / 2) else f (b / 2)) + z else (if b % 2 = 0 then aP t (b / 2) - f (b / 2) else f (b / 2))
  unfold psh
  by_cases e1 : b = a
  · subst e1
    rw [if_pos rfl, upZ_e]
    split <;> omega
  · rw [if_neg e1]
    by_cases e2 : b / 2 = a / 2
    · rw [if_pos e2, e2, upZ_e]
      by_cases e3 : b % 2 = 0
      · rw [if_pos e3, if_pos e3, if_neg (by omega)]; omega
      · rw [if_neg e3, if_neg e3, if_pos (by omega)]
    · rw [if_neg e2, upZ_n e2]
theorem nC_psh {t : PrT} {f g : FZ} {b : Nat} : nC (aW t) g b = nC (aW t) f b := rfl
def prt (a : Nat) : Nat := if a % 2 = 0 then a + 1 else a - 1
theorem MA_psh {t : PrT} {f : FZ} {a : Nat} {z : Int} {H : Hp} (h : MA t f H) (ha : a < 2 * aM t) : MA t (psh f a z) (sJ (sJ H 0 50 a (zJ (nR (aW t) f a - z))) 0 50 (prt a) (zJ (nR (aW t) f (prt a) + z))) := by
  refine ⟨h.1, fun b hb => ?_⟩
  obtain ⟨r1, r2, r3, r4⟩ := h.2 b hb
  refine ⟨r1, r2, ?_, by rw [nC_psh (f := f)]; exact r4⟩
  rw [nR_psh]
  have hp : prt a ≠ a ∧ prt a / 2 = a / 2 ∧ ∀ b, b / 2 = a / 2 → b ≠ a → b = prt a := by
    unfold prt
    split <;> refine ⟨by omega, by omega, fun b _ _ => by omega⟩
  by_cases e1 : b = a
  · subst e1
    rw [if_pos rfl, gJ_ne (by omega), gJ_eq]
  · rw [if_neg e1]
    by_cases e2 : b / 2 = a / 2
    · rw [if_pos e2, hp.2.2 b e2 e1, gJ_eq]
    · rw [if_neg e2, gJ_ne (by intro q; rw [q.2.2] at e2; exact e2 hp.2.1), gJ_ne (by omega)]; exact r3
theorem cst_psh {t : PrT} {f : FZ} {a : Nat} {z : Int} (ha : a < 2 * aM t) : smZ (fun l => aK t l * psh f a z l) (aM t) = smZ (fun l => aK t l * f l) (aM t) + z * nC (aW t) f a := by
  have e : smZ (fun l => aK t l * psh f a z l) (aM t) = smZ (upZ (fun l => aK t l * f l) (a / 2) (aK t (a / 2) * (if a % 2 = 0 then f (a / 2) + z else f (a / 2) - z))) (aM t) := by
    refine smZ_congr (fun l hl => ?_)
    unfold psh
    by_cases e : l = a / 2
    · rw [e, upZ_e, upZ_e]
    · rw [upZ_n e, upZ_n e]
  rw [e, smZ_up (by omega)]
  unfold nC
  show _ = smZ (fun l => aK t l * f l) (aM t) + z * (if a % 2 = 0 then aK t (a / 2) else -aK t (a / 2))
  split <;> grind
def FB5 (bY : Nat → Option Nat) (H : Hp) : Prop := ∀ v, v < 21 → gI H 0 55 v = by9 (bY v)
theorem x9_m671 {t : PrT} {f X X' p q far : FZ} {bY : Nat → Option Nat} {rk P e : Nat → Nat} {n : Nat} {H : Hp} {b2 : Int64} {b4 : Int32} {m : Int} {k : Hp → Option (Int64 × Hp)} {Q : Int64 → Hp → Prop} (hr : Q9 t f X p) (hM : MX t f X' H) (hF : FB5 bY H) (hP : PF (a9 t f) 1000000 X far bY rk P e n) (hn : n < 21) (hq : RC (aW t) f q) (hqf : ∀ i, i ≤ n → q (P i) = far (P i)) (hA : ∀ j, j < n → m ≤ nR (aW t) f (e j)) (hm : 0 < m) (hk : ∀ fi H', MX t fi X' H' → Pu (aW t) (aY t) q f P e m n fi → smZ (fun l => aK t l * fi l) (aM t) = smZ (fun l => aK t l * f l) (aM t) + m * (far (P 0) - far (P n)) → ok (k H') Q) : ok (L_X9_mend_671 b2 b4 (zJ m) k FU (nI (P 0)) H) Q := by
  refine ok_w1 (fun d y H' => ∃ i fi, i + d = n ∧ y = nI (P i) ∧ MX t fi X' H' ∧ FB5 bY H' ∧ Pu (aW t) (aY t) q f P e m i fi ∧ smZ (fun l => aK t l * fi l) (aM t) = smZ (fun l => aK t l * f l) (aM t) + m * (far (P 0) - far (P i))) ?_ (d := n) ⟨0, f, by omega, rfl, hM, hF, Pu_0 hq hm, by rw [Int.sub_self]; omega⟩ (FUgt (by omega))
  rintro d g y H1 ⟨i, fi, hd, rfl, hM1, hF1, hu, hcs⟩ K
  rw [L_X9_mend_671]
  by_cases hi : i < n
  · obtain ⟨p1, p2, p3, p4, p5, p6, p7, p8⟩ := x9_mar hr hP hi
    have hu' := Pu_st rw_NL hu hP hi hm (hA i hi) hqf
    have eb : gI H1 0 55 (P i) = nI (e i) := by rw [hF1 _ p1, p3]; rfl
    obtain ⟨r1, r2, r3, r4⟩ := hM1.1.2 _ p4
    have hpt : prt (e i) < 2 * aM t ∧ prt (e i) < 320 ∧ prt (e i) ≠ e i := by
      have := hr.1.1
      unfold prt
      split <;> omega
    obtain ⟨s1, s2, s3, s4⟩ := hM1.1.2 _ hpt.1
    have ep := par2 ⟨e i, p5⟩
    have ep : (nI (e i) - nI (e i) / 2 * 2 = 0) ↔ e i % 2 = 0 := ep
    have fin : ok (gd (nI (prt (e i))) 320 (gd (nI (prt (e i))) 320 (hl (sJ (sJ H1 0 50 (e i) (zJ (nR (aW t) fi (e i)) - zJ m)) 0 50 (Int32.toNatClampNeg (nI (prt (e i)))) (gJ (sJ H1 0 50 (e i) (zJ (nR (aW t) fi (e i)) - zJ m)) 0 50 (Int32.toNatClampNeg (nI (prt (e i)))) + zJ m)) (fun H93 => gd (nI (e i)) 320 (vl (gI H93 0 48 (e i)) (fun v94 => L_X9_mend_671 b2 b4 (zJ m) k g v94 H93)))))) Q := by
      rw [gd_nI hpt.2.1 (by decide), gd_nI hpt.2.1 (by decide), nI_clamp (n := prt (e i)) (by omega), hl_e, gd_nI p5 (by decide), vl_e, gJ_ne (by omega), s3, zJ_sub, zJ_add, gI_sJ, gI_sJ, r1, p7]
      refine K (d - 1) _ _ (by omega) ⟨i + 1, psh fi (e i) m, by omega, rfl, ⟨MA_psh hM1.1 p4, fun v hv => ?_⟩, fun v hv => hF1 v hv, hu', ?_⟩
      · rw [gJ_ne (by omega), gJ_ne (by omega)]; exact hM1.2 v hv
      · rw [cst_psh p4, hcs, nC_psh (f := f)]
        have : nC (aW t) f (e i) = far (P i) - far (P (i + 1)) := by omega
        rw [this]
        grind
    simp only [gd_nI p1 (show 21 < 2 ^ 31 by decide), nI_clamp (show P i < 2 ^ 31 by omega), eb, gd_nI p5 (show 320 < 2 ^ 31 by decide), nI_clamp (show e i < 2 ^ 31 by omega), r3]
    rw [if_neg (nI_pos (by omega)), vl_e, gd_nI p5 (by decide), gd_nI p5 (by decide), nI_clamp (n := e i) (by omega), r3, hl_e, show decide (¬ (2 : Int32) = 0) = true from rfl, gb_t, jn_if2]
    by_cases e6 : e i % 2 = 0
    · rw [if_pos (ep.mpr e6), show nI (e i) + 1 = nI (prt (e i)) from by rw [show prt (e i) = e i + 1 from if_pos e6]; exact nIadd _ 1]
      exact fin
    · rw [if_neg (fun z => e6 (ep.mp z)), show nI (e i) - 1 = nI (prt (e i)) from by rw [show prt (e i) = e i - 1 from if_neg e6]; exact nI_sub (a := e i) (b := 1) (by omega)]
      exact fin
  · have e : i = n := by omega
    subst e
    have hPn : P i < 21 := (hP.1 i (Nat.le_refl _)).1
    rw [gd_nI hPn (by decide), nI_clamp (n := P i) (by omega), hF1 _ hPn, hP.2.2.1, if_pos (show by9 none < 0 by decide)]
    exact hk fi H1 hM1 hu hcs
