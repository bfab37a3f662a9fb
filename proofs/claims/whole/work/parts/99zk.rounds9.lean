/-- the rounds of the reference -/
theorem jn_am {α : Type} (F : Int64 → Hp → Option α) (c : Prop) [Decidable c] (a b : Int64) (x : Int32) (n : Nat) (H : Hp) : jn F (fun j => if c then j a H else gd x n (j b H)) = if c then F a H else gd x n (F b H) := rfl
theorem Q9_st {t : PrT} {f X p q fi : FZ} {m : Int} {P e : Nat → Nat} {n : Nat} {D' : Int} (h : Q9 t f X p) (hp0 : P 0 < 21) (hpn : P n < 21) (hne : P 0 ≠ P n) (hm : 0 < m) (hm1 : m ≤ -X (P 0)) (hm2 : m ≤ X (P n)) (hq : ∀ v, v < 21 → 0 ≤ q v ∧ (0 < X v → q v ≤ 0) ∧ (X v < 0 → D' ≤ q v)) (hu : Pu (aW t) (aY t) q f P e m n fi) : Q9 t fi (xP X (P 0) (P n) m) q := by
  obtain ⟨hO, hc, hp, hX, hXr⟩ := h
  have xv : ∀ v, (0 < xP X (P 0) (P n) m v → 0 < X v ∧ xP X (P 0) (P n) m v ≤ X v) ∧ (xP X (P 0) (P n) m v < 0 → X v < 0 ∧ X v ≤ xP X (P 0) (P n) m v) := by
    intro v
    unfold xP
    by_cases e1 : v = P 0
    · subst e1; rw [upZ_e]; omega
    · rw [upZ_n e1]
      by_cases e2 : v = P n
      · subst e2; rw [upZ_e]; omega
      · rw [upZ_n e2]; omega
  refine ⟨hO, hu.1, fun v hv => ?_, fun v hv => ?_, fun v hv => ?_⟩
  · have a1 := hq v hv
    exact ⟨a1.1, fun hx => a1.2.1 ((xv v).1 hx).1⟩
  · have a1 : nt (aW t) (aY t) fi v (aM t) = nt (aW t) (aY t) f v (aM t) + m * (i1 (P 0) v - i1 (P n) v) := hu.2.2.2 v
    rw [xP_v hne, a1, ← hX v hv]
  · have a1 := hXr v hv
    have a2 := xv v
    have : 0 < xP X (P 0) (P n) m v ∨ xP X (P 0) (P n) m v < 0 ∨ xP X (P 0) (P n) m v = 0 := by omega
    omega
theorem x9_m233 {t : PrT} {f X p : FZ} {H : Hp} {k : Int64 → Hp → Option (Int64 × Hp)} {Q : Int64 → Hp → Prop} (h0 : Q9 t f X p) (hM0 : MX t f X H) (hk : ∀ f p H', RC (aW t) f p → (∀ v, v < 21 → nt (aW t) (aY t) f v (aM t) = 0) → ok (k (zJ (smZ (fun l => aK t l * f l) (aM t))) H') Q) : ok (L_X9_mend_233 k FU (zJ (smZ (fun l => aK t l * f l) (aM t))) 1 H) Q := by
  refine ok_w2 (fun d x y H' => ∃ f X p, MX t f X H' ∧ Q9 t f X p ∧ x = zJ (smZ (fun l => aK t l * f l) (aM t)) ∧ ((y = nI 1 ∧ d = (ps X 21).toNat + 1) ∨ (y = nI 0 ∧ d = 0 ∧ ∀ v, v < 21 → X v = 0))) ?_ (d := (ps X 21).toNat + 1) ⟨f, X, p, hM0, h0, rfl, .inl ⟨rfl, rfl⟩⟩ ?_
  · rintro d g x y H1 ⟨f, X, p, hM, hr, rfl, hy⟩ K
    rw [L_X9_mend_233]
    rcases hy with ⟨rfl, rfl⟩ | ⟨rfl, rfl, hz⟩
    · rw [if_neg (by decide)]
      refine x9_m241 hr hM (fun far0 bY0 H2 hM2 hF2 hi2 => ?_)
      refine x9_m290 hr (zBI_0 (by omega) (fun v hv => (hr.2.2.1 v hv).2) hi2) hF2 hM2 (fun far bY rk H3 hM3 hF3 ho => ?_)
      refine x9_m441 hr hM3 hF3 ho (fun z hL => ?_)
      rw [jn_if2]
      rcases hL with ⟨rfl, hno⟩ | ⟨s, hs, rfl, hs1, hs2, hs3⟩
      · rw [if_pos (show N1 < 0 by decide), if_pos rfl]
        refine K 0 _ _ _ (by omega) ⟨f, X, p, hM3, hr, rfl, .inr ⟨rfl, rfl, ?_⟩⟩
        refine cut0 (Fr := 1000000) (far := far) (aW_F hr.1) (fun v hv => hr.2.2.2.1 v hv) (fun l hl => ?_) ho.1 (fun j hj hu => ?_) (fun v hv hf => ?_) (fun v hv hf => ?_)
        · have a1 : 0 ≤ f l ∧ f l ≤ aP t l := hr.2.1.2 l hl
          have a2 := (hr.1.2 l hl).2.2.2.2
          refine ⟨fun h => ?_, fun h => ?_⟩
          · have h : f l ≤ 0 := h
            omega
          · have h : aP t l - f l ≤ 0 := h
            omega
        · have wA : zAW (a9 t f) 1 := zAW_n (aW_F hr.1) hr.2.1.2
          obtain ⟨w1, _, w3⟩ := wA j hj
          have w3 : nC (aW t) f j ≤ 1 := w3
          rcases (ho.2 _ w1).2 with q | ⟨_, q2, _⟩
          · exact absurd q.1 hu
          · have q2 : far (nU (aW t) j) + 1 < 1000000 := q2
            omega
        · have := hno v hv
          by_cases e : X v < 0
          · exact absurd ⟨e, hf⟩ this
          · omega
        · rcases (ho.2 v hv).2 with q | ⟨q1, _⟩
          · exact q.2.2
          · exact absurd hf q1
      · rw [if_neg (nI_pos (by omega)), if_neg (by decide), gd_nI hs (by decide), nI_clamp (n := s) (by omega), hM3.2 s hs, zJ_neg, vl_e]
        obtain ⟨q, P, e, n, t1, t2, t3, t4, t5, t6, t7, t8, t9⟩ := round_q (D := 0) (aW_F hr.1) (by omega) (by omega) hr.2.1 (fun v hv => ⟨(hr.2.2.1 v hv).1, (hr.2.2.1 v hv).2, fun _ => (hr.2.2.1 v hv).1⟩) ho hs hs1 hs2 hs3
        have t1 : n < 21 := t1
        subst t2
        have hPn : P n < 21 := (t3.1 n (Nat.le_refl _)).1
        have hn0 := t3.2.2.2.1
        have hfn := t3.2.2.2.2
        have hne : P 0 ≠ P n := by intro z; rw [z] at hs1; omega
        have hxs := hr.2.2.2.2 (P 0) hs
        have hxn := hr.2.2.2.2 (P n) hPn
        have hfr := zOT_rg ho (fun v hv => (hr.2.2.1 v hv).1) (by omega) (by omega) (v := P 0) hs
        refine x9_m538 hr hM3 hF3 t3 t1 hs1 (fun m0 hA => ?_)
        obtain ⟨a1, a2, a3, a4⟩ := hA
        rw [gd_nI hPn (by decide), jn_am, nI_clamp (n := P n) (by omega), hM3.2 _ hPn]
        have ec : (0 ≤ lg_cmp (zJ (X (P n))) (zJ m0)) = (zJ m0 ≤ zJ (X (P n))) := c_ge _ _
        have key : ∀ m, 0 < m → m ≤ -X (P 0) → m ≤ X (P n) → (∀ j, j < n → m ≤ nR (aW t) f (e j)) → ok (gd (nI (P 0)) 21 (vl ((zJ (smZ (fun l => aK t l * f l) (aM t)) + (zJ m * (Int32.toInt64 (gI H3 0 54 (P 0)))))) (fun v84 => gd (nI (P n)) 21 (gd (nI (P n)) 21 (hl (sJ H3 0 53 (P n) (zJ (X (P n)) - zJ m)) (fun H85 => gd (nI (P 0)) 21 (gd (nI (P 0)) 21 (hl (sJ H85 0 53 (P 0) ((gJ H85 0 53 (P 0)) + zJ m)) (fun H86 => L_X9_mend_671 v84 1 (zJ m) (fun H96 => L_X9_mend_233 k g v84 1 H96) FU (nI (P 0)) H86))))))))) Q := by
          intro m m1 m2 m3 m4
          rw [gd_nI hs (by decide), vl_e, gd_nI hPn (by decide), gd_nI hPn (by decide), hl_e, gd_nI hs (by decide), gd_nI hs (by decide), hl_e, gJ_ne (by omega), hM3.2 _ hs, (hF3 _ hs).1, zJ_I (by omega) (by omega), zJ_mul, zJ_add, zJ_sub, zJ_add]
          refine x9_m671 (X' := xP X (P 0) (P n) m) hr ⟨MA_o (MA_o hM3.1 _ _) _ _, fun v hv => ?_⟩ (fun v hv => (hF3 v hv).2) t3 t1 t4 t5 m4 m1 (fun fi H4 hM4 hu hcs => ?_)
          · unfold xP
            by_cases e1 : v = P 0
            · rw [e1, gJ_eq, upZ_e]
            · rw [gJ_ne (by omega), upZ_n e1]
              by_cases e2 : v = P n
              · rw [e2, gJ_eq, upZ_e]
              · rw [gJ_ne (by omega), upZ_n e2]; exact hM3.2 v hv
          · have hps := ps_xP (X := X) (n := 21) hPn hne m1 m2 m3
            have hps0 := ps_0 (xP X (P 0) (P n) m) 21
            refine K ((ps (xP X (P 0) (P n) m) 21).toNat + 1) _ _ _ (by omega) ⟨fi, _, q, hM4, Q9_st hr hs hPn hne m1 m2 m3 t6 hu, ?_, .inl ⟨rfl, rfl⟩⟩
            rw [hcs, hfn, Int.sub_zero]
        by_cases e5 : X (P n) < m0
        · rw [if_neg (by rw [ec, zJ_le (by omega) (by omega) (by omega) (by omega)]; omega), gd_nI hPn (by decide)]
          exact key _ hn0 (by omega) (Int.le_refl _) (fun j hj => by have := a3 j hj; omega)
        · rw [if_pos (by rw [ec, zJ_le (by omega) (by omega) (by omega) (by omega)]; omega)]
          exact key m0 a1 a2 (by omega) a3
    · rw [if_pos (show nI 0 = 0 from rfl)]
      refine hk f p H1 hr.2.1 (fun v hv => ?_)
      rw [← hr.2.2.2.1 v hv]; exact hz v hv
  · have h2 := smZ_bd (f := fun v => if 0 < X v then X v else 0) (M := 40000000) (n := 21) (fun i hi => by
      have := h0.2.2.2.2 i hi
      split <;> omega)
    have e : ps X 21 = smZ (fun v => if 0 < X v then X v else 0) 21 := rfl
    rw [← e] at h2
    exact FUgt (by omega)
/-- what the arcs are when all are laid -/
theorem Q9_0 {r : Nat} {G : Gr} {bl : Nat → Nat} {H : Hp} (hG : GG G bl) (h : LyS r G bl (lk G) H) : ∃ t, aOK t ∧ PR2 (lF G) (lT G) (bz G bl) (lk G) (aM t) (aF t) (aT t) (aK t) (aP t) (aY t) ∧ MX t f00 (yS t) H ∧ Q9 t f00 (yS t) (fun _ => 0) := by
  obtain ⟨g1, g2, g3, g4, g5⟩ := GG_n hG
  obtain ⟨t, t1, ⟨t2, t7⟩, t3, t4, t5, t6⟩ := h
  refine ⟨t, t1, t4, ⟨t3, t5⟩, t1, RC_l.mpr (fun l hl => ?_), fun v hv => ⟨Int.le_refl _, fun _ => Int.le_refl _⟩, fun v hv => rfl, fun v hv => ?_⟩
  · obtain ⟨a1, a2, a3, a4, a5⟩ := t1.2 l hl
    refine ⟨⟨Int.le_refl _, a4.1⟩, fun _ => ?_, fun h => ?_⟩
    · show 0 - 0 ≤ aK t l
      omega
    · exact absurd h (by show ¬ (0 : Int) < 0; omega)
  · have h7 := t7 v
    have j2 : jE G (lk G) = qE G := by unfold jE; split <;> omega
    rw [j2] at h7
    omega
