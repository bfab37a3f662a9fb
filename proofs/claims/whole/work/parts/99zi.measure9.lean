/-- how far, in the reference -/
def by9 (o : Option Nat) : Int32 := match o with
  | none => N1
  | some a => nI a
def FB9 (far : FZ) (bY : Nat → Option Nat) (H : Hp) : Prop := ∀ v, v < 21 → gI H 0 54 v = zI (far v) ∧ gI H 0 55 v = by9 (bY v)
def MX (t : PrT) (f X : FZ) (H : Hp) : Prop := MA t f H ∧ MO X H
theorem MX_s {t : PrT} {f X : FZ} {H : Hp} (h : MX t f X H) {k : Nat} (hk : k = 54 ∨ k = 55) (i : Nat) (v : Int32) : MX t f X (sI H 0 k i v) := by
  refine ⟨⟨by rw [gI_ne (by omega)]; exact h.1.1, fun a ha => ?_⟩, fun x hx => h.2 x hx⟩
  obtain ⟨r1, r2, r3, r4⟩ := h.1.2 a ha
  refine ⟨by rw [gI_ne (by omega)]; exact r1, by rw [gI_ne (by omega)]; exact r2, r3, by rw [gI_ne (by omega)]; exact r4⟩
def Q9 (t : PrT) (f X p : FZ) : Prop := aOK t ∧ RC (aW t) f p ∧ (∀ v, v < 21 → 0 ≤ p v ∧ (0 < X v → p v ≤ 0)) ∧ (∀ v, v < 21 → X v = nt (aW t) (aY t) f v (aM t)) ∧ ∀ v, v < 21 → -40000000 ≤ X v ∧ X v ≤ 40000000
abbrev a9 (t : PrT) (f : FZ) : Ac := nA (aW t) f
theorem aW_F {t : PrT} (h : aOK t) : NWF (aW t) 1 := rw_NWF (fun l hl => ⟨(h.2 l hl).1, (h.2 l hl).2.1, (h.2 l hl).2.2.1⟩)
theorem nR_rg {t : PrT} {f X p : FZ} (h : Q9 t f X p) {a : Nat} (ha : a < 2 * aM t) : 0 ≤ nR (aW t) f a ∧ nR (aW t) f a ≤ 1000000000000000 := by
  have h1 := h.2.1.2 (a / 2) (show a / 2 < aM t by omega)
  have h1 : 0 ≤ f (a / 2) ∧ f (a / 2) ≤ aP t (a / 2) := h1
  have h2 := (h.1.2 (a / 2) (by omega)).2.2.2.1
  unfold nR
  split
  · show 0 ≤ aP t (a / 2) - f (a / 2) ∧ aP t (a / 2) - f (a / 2) ≤ _
    omega
  · show 0 ≤ f (a / 2) ∧ f (a / 2) ≤ _
    omega
theorem x9_m241 {t : PrT} {f X p : FZ} {H : Hp} {b2 : Int64} {k : Hp → Option (Int64 × Hp)} {Q : Int64 → Hp → Prop} (hr : Q9 t f X p) (hM : MX t f X H) (hk : ∀ far bY H', MX t f X H' → FB9 far bY H' → (∀ v, v < 21 → bY v = none ∧ far v = if 0 < X v then 0 else 1000000) → ok (k H') Q) : ok (L_X9_mend_241 b2 k FU 0 H) Q := by
  refine ok_g1 21 (fun i H' => MX t f X H' ∧ ∀ v, v < i → gI H' 0 54 v = zI (if 0 < X v then 0 else 1000000) ∧ gI H' 0 55 v = N1) ?_ ?_ rfl ⟨hM, fun v hv => absurd hv (by omega)⟩ (FUgt (by omega))
  · rintro i n H1 hi ⟨hM1, hI⟩ K
    have hx := hr.2.2.2.2 i hi
    rw [L_X9_mend_241, l21, if_neg (by rw [nI_le_iff (by omega) (by omega)]; omega)]
    simp only [gd_nI (show i < 21 by omega) (show 21 < 2 ^ 31 by decide), nI_clamp (show i < 2 ^ 31 by omega), hl_e, vl_e]
    have ec : (lg_cmp (gJ H1 0 53 i) 0 ≤ 0) = (zJ (X i) ≤ zJ 0) := by rw [hM1.2 i hi]; exact c_le _ _
    rw [show nI i + 1 = nI (i + 1) from nIadd i 1, show (-1 : Int32) = N1 from rfl, show (1000000 : Int32) = zI 1000000 from rfl]
    by_cases e : 0 < X i
    · rw [if_neg (by rw [ec, zJ_le (by omega) (by omega) (by omega) (by omega)]; omega)]
      refine K _ ⟨MX_s (MX_s hM1 (by omega) _ _) (by omega) _ _, fun v hv => ?_⟩
      by_cases e2 : v = i
      · rw [e2, gI_ne (by omega), gI_eq, gI_eq, if_pos e]; exact ⟨rfl, rfl⟩
      · rw [gI_ne (by omega), gI_ne (by omega), gI_ne (by omega), gI_ne (by omega)]; exact hI v (by omega)
    · rw [if_pos (by rw [ec, zJ_le (by omega) (by omega) (by omega) (by omega)]; omega)]
      refine K _ ⟨MX_s (MX_s hM1 (by omega) _ _) (by omega) _ _, fun v hv => ?_⟩
      by_cases e2 : v = i
      · rw [e2, gI_ne (by omega), gI_eq, gI_eq, if_neg e]; exact ⟨rfl, rfl⟩
      · rw [gI_ne (by omega), gI_ne (by omega), gI_ne (by omega), gI_ne (by omega)]; exact hI v (by omega)
  · rintro n H1 ⟨hM1, hI⟩
    rw [L_X9_mend_241, l21, if_pos (by rw [nI_le_iff (by omega) (by omega)]; omega)]
    exact hk (fun v => if 0 < X v then 0 else 1000000) (fun _ => none) H1 hM1 (fun v hv => hI v (by omega)) (fun v hv => ⟨rfl, rfl⟩)
theorem x9_m301 {t : PrT} {f X p far : FZ} {bY : Nat → Option Nat} {n0 kk : Nat} {H : Hp} {b2 : Int64} {k : Int32 → Hp → Option (Int64 × Hp)} {Q : Int64 → Hp → Prop} (hr : Q9 t f X p) (hB : zBI (a9 t f) 1000000 1 p X n0 far bY) (hW : zSW (a9 t f) 1000000 p far kk 0 false) (hn : n0 ≤ 5000) (hF : FB9 far bY H) (hM : MX t f X H) (hk : ∀ fl n far' bY' H', MX t f X H' → FB9 far' bY' H' → zBI (a9 t f) 1000000 1 p X n far' bY' → n ≤ n0 + 202 → zSW (a9 t f) 1000000 p far' kk (2 * aM t) fl → (zAX (a9 t f) 1000000 far (2 * aM t) → fl = false) → ok (k (bI fl) H') Q) : ok (L_X9_mend_301 b2 k FU 0 0 H) Q := by
  obtain ⟨hO, hc, hp, hX, hXr⟩ := hr
  have hm := hO.1
  have wA : zAW (a9 t f) 1 := zAW_n (aW_F hO) hc.2
  refine ok_g2 (2 * aM t) (fun i x H' => ∃ fl n far' bY', x = bI fl ∧ n ≤ n0 + i ∧ MX t f X H' ∧ FB9 far' bY' H' ∧ zBI (a9 t f) 1000000 1 p X n far' bY' ∧ zSW (a9 t f) 1000000 p far' kk i fl ∧ (zAX (a9 t f) 1000000 far (2 * aM t) → fl = false ∧ far' = far)) ?_ ?_ rfl ⟨false, n0, far, bY, rfl, by omega, hM, hF, hB, hW, fun _ => ⟨rfl, rfl⟩⟩ (FUgt (by omega))
  · rintro i n x H1 hi ⟨fl, n1, f1, y1, rfl, hn1, hM1, hF1, hB1, hW1, hz1⟩ K
    obtain ⟨r1, r2, r3, r4⟩ := hM1.1.2 i hi
    obtain ⟨wu, wv, wc⟩ := wA i hi
    have wl := nC_lo (aW_F hO) hc.2 (j := i) hi
    have wu : nU (aW t) i < 21 := wu
    have wv : nV (aW t) i < 21 := wv
    have wc : nC (aW t) f i ≤ 1 := wc
    have hp0 : ∀ v, v < zN (a9 t f) → 0 ≤ p v := fun v hv => (hp v hv).1
    have ru := zBI_rg hB1 hp0 (by omega) (by omega) (by omega) (v := nU (aW t) i) wu
    have rv := zBI_rg hB1 hp0 (by omega) (by omega) (by omega) (v := nV (aW t) i) wv
    have hroom := nR_rg ⟨hO, hc, hp, hX, hXr⟩ hi
    have hA : zA (a9 t f) i = true ↔ nR (aW t) f i ≠ 0 := by
      show decide (0 < nR (aW t) f i) = true ↔ _
      rw [decide_eq_true_iff]; omega
    rw [L_X9_mend_301, hM1.1.1, if_neg (by rw [nI_le_iff (by omega) (by omega)]; omega)]
    simp only [gd_nI (show i < 320 by omega) (show 320 < 2 ^ 31 by decide), nI_clamp (show i < 2 ^ 31 by omega), r1, r2, r3, r4, gd_nI wu (show 21 < 2 ^ 31 by decide), gd_nI wv (show 21 < 2 ^ 31 by decide), nI_clamp (show nU (aW t) i < 2 ^ 31 by omega), nI_clamp (show nV (aW t) i < 2 ^ 31 by omega), (hF1 _ wu).1, (hF1 _ wv).1, zI_add, hl_e, vl_e]
    have ec : (lg_cmp (zJ (nR (aW t) f i)) 0 = 0) = (zJ (nR (aW t) f i) = zJ 0) := c_eq _ _
    have es : nI i + 1 = nI (i + 1) := nIadd i 1
    rw [es, show (1000000 : Int32) = zI 1000000 from rfl]
    by_cases e1 : nR (aW t) f i = 0
    · rw [if_pos (by rw [ec, e1])]
      refine K _ _ ⟨fl, n1, f1, y1, rfl, by omega, hM1, hF1, hB1, zSW_no hW1 (fun ha => absurd e1 (hA.mp ha)), hz1⟩
    · rw [if_neg (by rw [ec, zJ_inj (by omega) (by omega) (by omega) (by omega)]; exact e1)]
      by_cases e2 : f1 (nU (aW t) i) = 1000000
      · rw [if_pos (by rw [e2])]
        refine K _ _ ⟨fl, n1, f1, y1, rfl, by omega, hM1, hF1, hB1, zSW_no hW1 (fun _ hu => absurd e2 hu), hz1⟩
      · rw [if_neg (by rw [zI_inj (by omega) (by omega) (by omega) (by omega)]; exact e2)]
        by_cases e3 : f1 (nU (aW t) i) + nC (aW t) f i < f1 (nV (aW t) i)
        · rw [if_pos (by rw [zI_lt (by omega) (by omega) (by omega) (by omega)]; exact e3)]
          have hst := zBI_st wA hc.1 (by omega) (by omega) hB1 (j := i) hi (hA.mpr e1) e2 e3
          have hsw := zSW_st wA hc.1 hW1 (j := i) hi (hA.mpr e1) e2 e3 (by show f1 (nU (aW t) i) + nC (aW t) f i ≠ 1000000; omega)
          have r2' : gI (sI H1 0 54 (nV (aW t) i) (zI (f1 (nU (aW t) i) + nC (aW t) f i))) 0 49 i = nI (nV (aW t) i) := by rw [gI_ne (by omega)]; exact r2
          rw [r2', gd_nI wv (by decide), nI_clamp (n := nV (aW t) i) (by omega)]
          refine K _ _ ⟨true, n1 + 1, _, _, rfl, by omega, MX_s (MX_s hM1 (by omega) _ _) (by omega) _ _, fun v hv => ?_, hst, hsw, fun hx => ?_⟩
          · show gI _ 0 54 v = zI (upZ f1 (nV (aW t) i) (f1 (nU (aW t) i) + nC (aW t) f i) v) ∧ gI _ 0 55 v = by9 (upO y1 (nV (aW t) i) (some i) v)
            by_cases e4 : v = nV (aW t) i
            · rw [e4, gI_ne (by omega), gI_eq, gI_eq, upZ_e, upO_e]
              exact ⟨rfl, rfl⟩
            · rw [gI_ne (by omega), gI_ne (by omega), gI_ne (by omega), gI_ne (by omega), upZ_n e4, upO_n e4]
              exact hF1 v hv
          · obtain ⟨_, rfl⟩ := hz1 hx
            have : f1 (nV (aW t) i) ≤ f1 (nU (aW t) i) + nC (aW t) f i := hx i hi (hA.mpr e1) e2
            omega
        · rw [if_neg (by rw [zI_lt (by omega) (by omega) (by omega) (by omega)]; exact e3)]
          refine K _ _ ⟨fl, n1, f1, y1, rfl, by omega, hM1, hF1, hB1, zSW_no hW1 (fun _ _ => ?_), hz1⟩
          show f1 (nV (aW t) i) ≤ f1 (nU (aW t) i) + nC (aW t) f i
          omega
  · rintro n x H1 ⟨fl, n1, f1, y1, rfl, hn1, hM1, hF1, hB1, hW1, hz1⟩
    rw [L_X9_mend_301, hM1.1.1, if_pos (by rw [nI_le_iff (by omega) (by omega)]; omega)]
    exact hk fl n1 f1 y1 H1 hM1 hF1 hB1 (by omega) hW1 (fun hx => (hz1 hx).1)
theorem x9_m290 {t : PrT} {f X p far : FZ} {bY : Nat → Option Nat} {H : Hp} {b2 : Int64} {k : Hp → Option (Int64 × Hp)} {Q : Int64 → Hp → Prop} (hr : Q9 t f X p) (hB : zBI (a9 t f) 1000000 1 p X 0 far bY) (hF : FB9 far bY H) (hM : MX t f X H) (hk : ∀ far' bY' rk H', MX t f X H' → FB9 far' bY' H' → zOT (a9 t f) 1000000 1 p X far' bY' rk → ok (k H') Q) : ok (L_X9_mend_290 b2 k FU 1 H) Q := by
  have hO := hr.1
  have wA : zAW (a9 t f) 1 := zAW_n (aW_F hO) hr.2.1.2
  refine ok_w1 (fun d x H' => ∃ fl n far' bY' kk, x = bI fl ∧ d + kk = 23 ∧ n ≤ 202 * kk ∧ (fl = true → kk ≤ 21) ∧ MX t f X H' ∧ FB9 far' bY' H' ∧ zBI (a9 t f) 1000000 1 p X n far' bY' ∧ zSS (a9 t f) 1000000 p far' kk ∧ (fl = false → zAX (a9 t f) 1000000 far' (2 * aM t))) ?_ (d := 23) ⟨true, 0, far, bY, 0, rfl, rfl, by omega, fun _ => by omega, hM, hF, hB, zSS_0, fun q => absurd q (by decide)⟩ (FUgt (by omega))
  rintro d n x H1 ⟨fl, n1, f1, y1, kk, rfl, hd, hn1, hf1, hM1, hF1, hB1, hS1, hx1⟩ K
  rw [L_X9_mend_290]
  cases fl with
  | false =>
    rw [if_pos (show bI false = 0 from rfl)]
    obtain ⟨rk, h5⟩ := zOT_of wA (by omega) hB1 (hx1 rfl)
    exact hk f1 y1 rk H1 hM1 hF1 h5
  | true =>
    have hkk := hf1 rfl
    rw [if_neg (by decide)]
    refine x9_m301 hr hB1 (zSW_0 wA hS1) (by omega) hF1 hM1 ?_
    intro fl n2 f2 y2 H2 hM2 hF2 hB2 hn2 hW2 hz2
    obtain ⟨s1, s2⟩ := zSW_M wA hW2
    refine K (d - 1) _ _ (by omega) ⟨fl, n2, f2, y2, kk + 1, rfl, by omega, by omega, fun hft => ?_, hM2, hF2, hB2, s1, s2⟩
    by_cases e : kk = 21
    · subst e
      have := hz2 (zSS_N wA hS1)
      rw [this] at hft
      exact absurd hft (by decide)
    · omega
theorem x9_m441 {t : PrT} {f X p far : FZ} {bY : Nat → Option Nat} {rk : Nat → Nat} {H : Hp} {b2 : Int64} {k : Int32 → Hp → Option (Int64 × Hp)} {Q : Int64 → Hp → Prop} (hr : Q9 t f X p) (hM : MX t f X H) (hF : FB9 far bY H) (ho : zOT (a9 t f) 1000000 1 p X far bY rk) (hk : ∀ x, Lk X far 1000000 21 x → ok (k x H) Q) : ok (L_X9_mend_441 b2 k FU (-1) 0 H) Q := by
  refine ok_g2 21 (fun i x H' => H' = H ∧ Lk X far 1000000 i x) ?_ ?_ rfl ⟨rfl, .inl ⟨rfl, fun v hv => absurd hv (by omega)⟩⟩ (FUgt (by omega))
  · rintro i n x H1 hi ⟨rfl, hL⟩ K
    have hx := hr.2.2.2.2 i hi
    have hf := zOT_rg ho (fun v hv => (hr.2.2.1 v hv).1) (by omega) (by omega) (v := i) hi
    rw [L_X9_mend_441, l21, if_neg (by rw [nI_le_iff (by omega) (by omega)]; omega)]
    simp only [gd_nI (show i < 21 by omega) (show 21 < 2 ^ 31 by decide), nI_clamp (show i < 2 ^ 31 by omega), vl_e]
    have ec : (0 ≤ lg_cmp (gJ H1 0 53 i) 0) = (zJ 0 ≤ zJ (X i)) := by rw [hM.2 i hi]; exact c_ge _ _
    rw [(hF i hi).1, show nI i + 1 = nI (i + 1) from nIadd i 1, show (1000000 : Int32) = zI 1000000 from rfl]
    by_cases e1 : 0 ≤ X i
    · rw [if_pos (by rw [ec, zJ_le (by omega) (by omega) (by omega) (by omega)]; exact e1)]
      exact K _ _ ⟨rfl, Lk_no hL (by omega)⟩
    · rw [if_neg (by rw [ec, zJ_le (by omega) (by omega) (by omega) (by omega)]; exact e1)]
      by_cases e2 : 1000000 ≤ far i
      · rw [if_pos (by rw [zI_le (by omega) (by omega) (by omega) (by omega)]; exact e2)]
        exact K _ _ ⟨rfl, Lk_no hL (by omega)⟩
      · rw [if_neg (by rw [zI_le (by omega) (by omega) (by omega) (by omega)]; exact e2)]
        rcases hL with ⟨rfl, h2⟩ | ⟨s, h1, rfl, h3, h4, h5⟩
        · rw [if_pos (show N1 < 0 by decide)]
          exact K _ _ ⟨rfl, Lk_st (fun v hv a1 a2 => absurd ⟨a1, a2⟩ (h2 v hv)) (by omega) (by omega) (by omega) (fun _ => Int.le_refl _)⟩
        · have hf2 := zOT_rg ho (fun v hv => (hr.2.2.1 v hv).1) (by omega) (by omega) (v := s) (show s < 21 by omega)
          rw [if_neg (nI_pos (by omega)), gd_nI (show s < 21 by omega) (by decide), nI_clamp (n := s) (by omega), (hF s (by omega)).1]
          by_cases e3 : far s ≤ far i
          · rw [if_pos (by rw [zI_le (by omega) (by omega) (by omega) (by omega)]; exact e3)]
            exact K _ _ ⟨rfl, Lk_st h5 h3 h4 (by omega) (fun _ => e3)⟩
          · rw [if_neg (by rw [zI_le (by omega) (by omega) (by omega) (by omega)]; exact e3)]
            exact K _ _ ⟨rfl, Lk_st (fun v hv a1 a2 => by have := h5 v hv a1 a2; omega) (by omega) (by omega) (by omega) (fun _ => Int.le_refl _)⟩
  · rintro n x H1 ⟨rfl, hL⟩
    rw [L_X9_mend_441, l21, if_pos (by rw [nI_le_iff (by omega) (by omega)]; omega)]
    exact hk x hL
