/-- measure of the class -/
theorem nU_e (w : Nw) (i : Nat) : nU w (2 * i) = nF w i := by unfold nU; rw [if_pos (by omega), show 2 * i / 2 = i by omega]
theorem nU_o (w : Nw) (i : Nat) : nU w (2 * i + 1) = nT w i := by unfold nU; rw [if_neg (by omega), show (2 * i + 1) / 2 = i by omega]
theorem nV_e (w : Nw) (i : Nat) : nV w (2 * i) = nT w i := by unfold nV; rw [if_pos (by omega), show 2 * i / 2 = i by omega]
theorem nV_o (w : Nw) (i : Nat) : nV w (2 * i + 1) = nF w i := by unfold nV; rw [if_neg (by omega), show (2 * i + 1) / 2 = i by omega]
theorem nC_e (w : Nw) (c : FZ) (i : Nat) : nC w c (2 * i) = nmo w i (c i) := by unfold nC; rw [if_pos (by omega), show 2 * i / 2 = i by omega]
theorem nC_o (w : Nw) (c : FZ) (i : Nat) : nC w c (2 * i + 1) = nle w i (c i) := by unfold nC; rw [if_neg (by omega), show (2 * i + 1) / 2 = i by omega]
theorem nR_e (w : Nw) (c : FZ) (i : Nat) : nR w c (2 * i) = nrm w i (c i) := by unfold nR; rw [if_pos (by omega), show 2 * i / 2 = i by omega]
theorem nR_o (w : Nw) (c : FZ) (i : Nat) : nR w c (2 * i + 1) = nrl w i (c i) := by unfold nR; rw [if_neg (by omega), show (2 * i + 1) / 2 = i by omega]
theorem zBI_rg {a : Ac} {Fr K : Int} {p X : FZ} {n : Nat} {far : FZ} {bY : Nat → Option Nat} (h : zBI a Fr K p X n far bY) (hp : ∀ v, v < zN a → 0 ≤ p v) (hF : K * (n : Int) + K < Fr) (hK : 0 ≤ K) (hF0 : 0 < Fr) {v : Nat} (hv : v < zN a) : 0 ≤ far v ∧ far v ≤ Fr := by
  obtain ⟨tm, h⟩ := h
  have := hp v hv
  rcases (h v hv).2 with q | ⟨q1, q2, q3, _⟩ <;> omega
theorem b_or (a b : Bool) : bI a ||| bI b = bI (a || b) := by cases a <;> cases b <;> decide
def byI (o : Option Nat) : Int32 := match o with
  | none => N1
  | some a => nI (a / 2)
def FB (G : Gr) (far : FZ) (bY : Nat → Option Nat) (H : Hp) : Prop := ∀ v, v ≤ qB G → gI H 1 9 v = zI (far v) ∧ gI H 1 10 v = byI (bY v)
def MdL (r : Nat) (G : Gr) (bl : Nat → Nat) (c X : FZ) (H : Hp) : Prop := MdS r G bl H ∧ CE G c X H
theorem MdL_s {r : Nat} {G : Gr} {bl : Nat → Nat} {c X : FZ} {H : Hp} (h : MdL r G bl c X H) {k : Nat} (hk : k ≠ 7 ∧ k ≠ 8) (i : Nat) (v : Int32) : MdL r G bl c X (sI H 1 k i v) := by
  refine ⟨MdS_s h.1 _ _ _, fun l hl => ?_, fun x hx => ?_⟩
  · rw [gI_ne (by omega)]; exact h.2.1 l hl
  · rw [gI_ne (by omega)]; exact h.2.2 x hx
theorem x1_near {H : Hp} {u v l : Nat} {fu fv C : Int} (hu : u < 21) (hv : v < 21) (eu : gI H 1 9 u = zI fu) (ev : gI H 1 9 v = zI fv) (ru : 0 ≤ fu ∧ fu ≤ 1000000000) (rv : 0 ≤ fv ∧ fv ≤ 1000000000) (rc : -65 ≤ C ∧ C ≤ 65) : f_X1_comeNearer (nI u) (nI v) (nI l) (zI C) H = if fu ≠ 1000000000 ∧ fu + C < fv then some (bI true, sI (sI H 1 9 v (zI (fu + C))) 1 10 v (nI l)) else some (bI false, H) := by
  unfold f_X1_comeNearer
  simp only [gd_nI hu (show 21 < 2 ^ 31 by decide), gd_nI hv (show 21 < 2 ^ 31 by decide), nI_clamp (show u < 2 ^ 31 by omega), nI_clamp (show v < 2 ^ 31 by omega), eu, ev, zI_add, hl_e, zFr]
  by_cases e1 : fu = 1000000000
  · rw [if_pos (by rw [zI_le (by omega) (by omega) (by omega) (by omega)]; omega), if_neg (by omega)]; rfl
  · rw [if_neg (by rw [zI_le (by omega) (by omega) (by omega) (by omega)]; omega)]
    by_cases e2 : fu + C < fv
    · rw [if_pos (by rw [zI_lt (by omega) (by omega) (by omega) (by omega)]; omega), if_pos ⟨e1, e2⟩]; rfl
    · rw [if_neg (by rw [zI_lt (by omega) (by omega) (by omega) (by omega)]; omega), if_neg (by omega)]; rfl
/-- what is given of a round -/
def Rd (G : Gr) (bl : Nat → Nat) (c X p : FZ) : Prop := GG G bl ∧ RC (wC G bl) c p ∧ (∀ v, v < qB G + 1 → 0 ≤ p v ∧ (0 < X v → p v ≤ 0)) ∧ (∀ l, l < lk G → 0 ≤ c l ∧ c l ≤ 2000000000) ∧ ∀ v, v < qB G + 1 → -1000000000 ≤ X v ∧ X v ≤ 1000000000
noncomputable abbrev aC (G : Gr) (bl : Nat → Nat) (c : FZ) : Ac := nA (wC G bl) c
theorem wC_F {G : Gr} {bl : Nat → Nat} (h : GG G bl) : NWF (wC G bl) 65 := xw_NWF (GG_n h).2.2.2.2
theorem x1_rl {r : Nat} {G : Gr} {bl : Nat → Nat} {c X p far : FZ} {bY : Nat → Option Nat} {n k j : Nat} {fl : Bool} {H : Hp} (hr : Rd G bl c X p) (hj : j < 2 * lk G) (hA : 0 < nR (wC G bl) c j) (hB : zBI (aC G bl c) 1000000000 65 p X n far bY) (hW : zSW (aC G bl c) 1000000000 p far k j fl) (hn : n ≤ 5000) (hF : FB G far bY H) (hM : MdL r G bl c X H) : ∃ t far' bY' H', f_X1_comeNearer (nI (nU (wC G bl) j)) (nI (nV (wC G bl) j)) (nI (j / 2)) (zI (nC (wC G bl) c j)) H = some (bI t, H') ∧ MdL r G bl c X H' ∧ FB G far' bY' H' ∧ zBI (aC G bl c) 1000000000 65 p X (n + 1) far' bY' ∧ zSW (aC G bl c) 1000000000 p far' k (j + 1) (fl || t) := by
  obtain ⟨hG, hc, hp, hcr, hXr⟩ := hr
  obtain ⟨g1, g2, g3, g4, g5⟩ := GG_n hG
  have wA : zAW (aC G bl c) 65 := zAW_n (wC_F hG) hc.2
  obtain ⟨wu, wv, wc⟩ := wA j hj
  have wl := nC_lo (wC_F hG) hc.2 (j := j) hj
  have wu : nU (wC G bl) j < qB G + 1 := wu
  have wv : nV (wC G bl) j < qB G + 1 := wv
  have wc : nC (wC G bl) c j ≤ 65 := wc
  have hp0 : ∀ v, v < zN (aC G bl c) → 0 ≤ p v := fun v hv => (hp v hv).1
  have ru := zBI_rg hB hp0 (by omega) (by omega) (by omega) (v := nU (wC G bl) j) wu
  have rv := zBI_rg hB hp0 (by omega) (by omega) (by omega) (v := nV (wC G bl) j) wv
  have hAt : zA (aC G bl c) j = true := decide_eq_true hA
  rw [x1_near (fu := far (nU (wC G bl) j)) (fv := far (nV (wC G bl) j)) (by omega) (by omega) (hF _ (by omega)).1 (hF _ (by omega)).1 ru rv ⟨wl, wc⟩]
  by_cases e : far (nU (wC G bl) j) ≠ 1000000000 ∧ far (nU (wC G bl) j) + nC (wC G bl) c j < far (nV (wC G bl) j)
  · rw [if_pos e]
    refine ⟨true, upZ far (nV (wC G bl) j) (far (nU (wC G bl) j) + nC (wC G bl) c j), upO bY (nV (wC G bl) j) (some j), _, rfl, MdL_s (MdL_s hM (by omega) _ _) (by omega) _ _, fun v hv => ?_, ?_, ?_⟩
    · by_cases e2 : v = nV (wC G bl) j
      · rw [e2, gI_ne (by omega), gI_eq, gI_eq, upZ_e, upO_e]
        exact ⟨rfl, rfl⟩
      · rw [gI_ne (by omega), gI_ne (by omega), gI_ne (by omega), gI_ne (by omega), upZ_n e2, upO_n e2]
        exact hF v hv
    · exact zBI_st wA hc.1 (by omega) (by omega) hB hj hAt e.1 e.2
    · rw [Bool.or_true]
      refine zSW_st wA hc.1 hW hj hAt e.1 e.2 ?_
      show far (nU (wC G bl) j) + nC (wC G bl) c j ≠ 1000000000
      omega
  · rw [if_neg e]
    refine ⟨false, far, bY, H, rfl, hM, hF, zBI_up (by omega) hB (by omega), ?_⟩
    rw [Bool.or_false]
    refine zSW_no hW (fun _ hu => ?_)
    have hu : far (nU (wC G bl) j) ≠ 1000000000 := hu
    show far (nV (wC G bl) j) ≤ far (nU (wC G bl) j) + nC (wC G bl) c j
    have : ¬ far (nU (wC G bl) j) + nC (wC G bl) c j < far (nV (wC G bl) j) := fun q => e ⟨hu, q⟩
    omega
theorem jn_or {α : Type} (F : Int32 → Hp → Option α) (fl t : Bool) (H : Hp) : jn F (fun j => if bI t = 0 then j (bI fl) H else j 1 H) = F (bI (fl || t)) H := by
  show (if bI t = 0 then F (bI fl) H else F 1 H) = F (bI (fl || t)) H
  cases t with
  | false => rw [if_pos (show bI false = 0 from rfl), Bool.or_false]
  | true => rw [if_neg (by decide), Bool.or_true]; rfl
theorem x1_m67 {r : Nat} {G : Gr} {bl : Nat → Nat} {c X p far : FZ} {bY : Nat → Option Nat} {n0 kk : Nat} {H : Hp} {b4 : Int32} {k : Int32 → Hp → Option (Unit × Hp)} {Q : Unit → Hp → Prop} (hr : Rd G bl c X p) (hB : zBI (aC G bl c) 1000000000 65 p X n0 far bY) (hW : zSW (aC G bl c) 1000000000 p far kk 0 false) (hn : n0 ≤ 4000) (hF : FB G far bY H) (hM : MdL r G bl c X H) (hk : ∀ fl n far' bY' H', MdL r G bl c X H' → FB G far' bY' H' → zBI (aC G bl c) 1000000000 65 p X n far' bY' → n ≤ n0 + 122 → zSW (aC G bl c) 1000000000 p far' kk (2 * lk G) fl → ok (k (bI fl) H') Q) : ok (L_X1_measure_67 r b4 k FU 0 0 H) Q := by
  have hG := hr.1
  obtain ⟨g1, g2, g3, g4, g5⟩ := GG_n hG
  refine ok_g2 (lk G) (fun i x H' => ∃ fl n far' bY', x = bI fl ∧ n ≤ n0 + 2 * i ∧ MdL r G bl c X H' ∧ FB G far' bY' H' ∧ zBI (aC G bl c) 1000000000 65 p X n far' bY' ∧ zSW (aC G bl c) 1000000000 p far' kk (2 * i) fl) ?_ ?_ rfl ⟨false, n0, far, bY, rfl, by omega, hM, hF, hB, hW⟩ (FUgt (by omega))
  · rintro i n x H1 hi ⟨fl, n1, f1, y1, rfl, hn1, hM1, hF1, hB1, hW1⟩ K
    have hS := hM1.1
    obtain ⟨q1, q2⟩ := hr.2.2.2.1 i hi
    have hb := bz_rg hG i
    rw [L_X1_measure_67, hS.2.2.1, if_neg (by rw [nI_le_iff (by omega) (by omega)]; omega), jn_b hG hS hi]
    simp only [gd_nI (show i < 61 by omega) (show 61 < 2 ^ 31 by decide), nI_clamp (show i < 2 ^ 31 by omega)]
    rw [x1_more (by omega) (hM1.2.1 i hi) hb ⟨q1, q2⟩, bnd_s, (hS.2.2.2.1 i hi).1, (hS.2.2.2.1 i hi).2]
    have hA : 0 < nR (wC G bl) c (2 * i) := by
      rw [nR_e]
      show 0 < xrm (bz G bl i) (c i)
      unfold xrm; split <;> omega
    obtain ⟨t, f2, y2, H2, e1, hM2, hF2, hB2, hW2⟩ := x1_rl hr (by omega) hA hB1 hW1 (by omega) hF1 hM1
    rw [nU_e, nV_e, nC_e, show 2 * i / 2 = i by omega] at e1
    have e1 : f_X1_comeNearer (nI (nd G (lF G i))) (nI (nd G (lT G i))) (nI i) (zI (xmo (bz G bl i) (c i))) H1 = some (bI t, H2) := e1
    rw [e1, bnd_s, jn_or]
    simp only [vl]
    have hS2 := hM2.1
    rw [hM2.2.1 i hi, z0]
    by_cases hc0 : c i ≤ 0
    · rw [if_pos (by rw [zI_le (by omega) (by omega) (by omega) (by omega)]; exact hc0), show nI i + 1 = nI (i + 1) from nIadd i 1]
      refine K _ _ ⟨fl || t, n1 + 1, f2, y2, rfl, by omega, hM2, hF2, hB2, ?_⟩
      refine zSW_no hW2 (fun ha _ => ?_)
      have ha : 0 < nR (wC G bl) c (2 * i + 1) := of_decide_eq_true ha
      rw [nR_o] at ha
      have ha : 0 < xrl (bz G bl i) (c i) := ha
      unfold xrl at ha
      exfalso
      revert ha
      split <;> (try split) <;> omega
    · rw [if_neg (by rw [zI_le (by omega) (by omega) (by omega) (by omega)]; exact hc0), x1_less (by omega) (hM2.2.1 i hi) hb ⟨q1, q2⟩, bnd_s, (hS2.2.2.2.1 i hi).1, (hS2.2.2.2.1 i hi).2]
      have hA2 : 0 < nR (wC G bl) c (2 * i + 1) := by
        rw [nR_o]
        show 0 < xrl (bz G bl i) (c i)
        unfold xrl; split <;> (try split) <;> omega
      obtain ⟨t2, f3, y3, H3, e2, hM3, hF3, hB3, hW3⟩ := x1_rl hr (by omega) hA2 hB2 hW2 (by omega) hF2 hM2
      rw [nU_o, nV_o, nC_o, show (2 * i + 1) / 2 = i by omega] at e2
      have e2 : f_X1_comeNearer (nI (nd G (lT G i))) (nI (nd G (lF G i))) (nI i) (zI (xle (bz G bl i) (c i))) H2 = some (bI t2, H3) := e2
      rw [e2, bnd_s, show nI i + 1 = nI (i + 1) from nIadd i 1]
      cases t2 with
      | false =>
        rw [Bool.or_false] at hW3
        rw [if_pos (show bI false = zI 0 by decide)]
        exact K _ _ ⟨fl || t, n1 + 1 + 1, f3, y3, rfl, by omega, hM3, hF3, hB3, hW3⟩
      | true =>
        rw [Bool.or_true] at hW3
        rw [if_neg (by decide)]
        exact K _ _ ⟨true, n1 + 1 + 1, f3, y3, rfl, by omega, hM3, hF3, hB3, hW3⟩
  · rintro n x H1 ⟨fl, n1, f1, y1, rfl, hn1, hM1, hF1, hB1, hW1⟩
    rw [L_X1_measure_67, hM1.1.2.2.1, if_pos (by rw [nI_le_iff (by omega) (by omega)]; omega)]
    exact hk fl n1 f1 y1 H1 hM1 hF1 hB1 (by omega) hW1
theorem x1_m49 {r : Nat} {G : Gr} {bl : Nat → Nat} {c X p far : FZ} {bY : Nat → Option Nat} {H : Hp} {k : Hp → Option (Unit × Hp)} {Q : Unit → Hp → Prop} (hr : Rd G bl c X p) (hB : zBI (aC G bl c) 1000000000 65 p X 0 far bY) (hF : FB G far bY H) (hM : MdL r G bl c X H) (hk : ∀ far' bY' rk H', MdL r G bl c X H' → FB G far' bY' H' → zOT (aC G bl c) 1000000000 65 p X far' bY' rk → ok (k H') Q) : ok (L_X1_measure_49 r k FU 1 0 H) Q := by
  have hG := hr.1
  obtain ⟨g1, g2, g3, g4, g5⟩ := GG_n hG
  have wA : zAW (aC G bl c) 65 := zAW_n (wC_F hG) hr.2.1.2
  have fin : ∀ n far' bY' H', n ≤ 4000 → MdL r G bl c X H' → FB G far' bY' H' → zBI (aC G bl c) 1000000000 65 p X n far' bY' → zAX (aC G bl c) 1000000000 far' (2 * lk G) → ok (k H') Q := by
    intro n f y H' hn h1 h2 h3 h4
    obtain ⟨rk, h5⟩ := zOT_of wA (by omega) h3 h4
    exact hk f y rk H' h1 h2 h5
  refine ok_g2 (qB G + 1) (fun i x H' => ∃ fl n far' bY', x = bI fl ∧ n ≤ 122 * i ∧ MdL r G bl c X H' ∧ FB G far' bY' H' ∧ zBI (aC G bl c) 1000000000 65 p X n far' bY' ∧ zSS (aC G bl c) 1000000000 p far' i ∧ (fl = false → zAX (aC G bl c) 1000000000 far' (2 * lk G))) ?_ ?_ rfl ⟨true, 0, far, bY, rfl, by omega, hM, hF, hB, zSS_0, fun q => absurd q (by decide)⟩ (FUgt (by omega))
  · rintro i n x H1 hi ⟨fl, n1, f1, y1, rfl, hn1, hM1, hF1, hB1, hS1, hx1⟩ K
    rw [L_X1_measure_49, hM1.1.1, if_neg (by rw [nI_lt_iff (by omega) (by omega)]; omega)]
    cases fl with
    | false =>
      rw [if_pos (show bI false = 0 from rfl)]
      exact fin n1 f1 y1 H1 (by omega) hM1 hF1 hB1 (hx1 rfl)
    | true =>
      rw [if_neg (by decide)]
      refine x1_m67 hr hB1 (zSW_0 wA hS1) (by omega) hF1 hM1 ?_
      intro fl n2 f2 y2 H2 hM2 hF2 hB2 hn2 hW2
      simp only [vl]
      rw [show nI i + 1 = nI (i + 1) from nIadd i 1]
      obtain ⟨s1, s2⟩ := zSW_M wA hW2
      exact K _ _ ⟨fl, n2, f2, y2, rfl, by omega, hM2, hF2, hB2, s1, s2⟩
  · rintro n x H1 ⟨fl, n1, f1, y1, rfl, hn1, hM1, hF1, hB1, hS1, hx1⟩
    rw [L_X1_measure_49, hM1.1.1, if_pos (by rw [nI_lt_iff (by omega) (by omega)]; omega)]
    exact fin n1 f1 y1 H1 (by omega) hM1 hF1 hB1 (zSS_N wA hS1)
theorem x1_m2 {r : Nat} {G : Gr} {bl : Nat → Nat} {c X p : FZ} {H : Hp} {k : Hp → Option (Unit × Hp)} {Q : Unit → Hp → Prop} (hr : Rd G bl c X p) (hM : MdL r G bl c X H) (hk : ∀ far bY H', MdL r G bl c X H' → FB G far bY H' → (∀ v, v < qB G + 1 → bY v = none ∧ far v = if 0 < X v then 0 else 1000000000) → ok (k H') Q) : ok (L_X1_measure_2 r k FU 0 H) Q := by
  obtain ⟨g1, g2, g3, g4, g5⟩ := GG_n hr.1
  refine ok_g1 (qB G + 1) (fun i H' => MdL r G bl c X H' ∧ ∀ v, v < i → gI H' 1 9 v = zI (if 0 < X v then 0 else 1000000000) ∧ gI H' 1 10 v = N1) ?_ ?_ rfl ⟨hM, fun v hv => absurd hv (by omega)⟩ (FUgt (by omega))
  · rintro i n H1 hi ⟨hM1, hI⟩ K
    have hx := hr.2.2.2.2 i hi
    rw [L_X1_measure_2, hM1.1.1, if_neg (by rw [nI_lt_iff (by omega) (by omega)]; omega)]
    simp only [gd_nI (show i < 21 by omega) (show 21 < 2 ^ 31 by decide), nI_clamp (show i < 2 ^ 31 by omega), hl_e, vl]
    rw [hM1.2.2 i (by omega), show nI i + 1 = nI (i + 1) from nIadd i 1, z0, zFr, show (-1 : Int32) = N1 from rfl]
    by_cases e : 0 < X i
    · rw [if_neg (by rw [zI_le (by omega) (by omega) (by omega) (by omega)]; omega)]
      refine K _ ⟨MdL_s (MdL_s hM1 (by omega) _ _) (by omega) _ _, fun v hv => ?_⟩
      by_cases e2 : v = i
      · rw [e2, gI_ne (by omega), gI_eq, gI_eq, if_pos e]; exact ⟨rfl, rfl⟩
      · rw [gI_ne (by omega), gI_ne (by omega), gI_ne (by omega), gI_ne (by omega)]; exact hI v (by omega)
    · rw [if_pos (by rw [zI_le (by omega) (by omega) (by omega) (by omega)]; omega)]
      refine K _ ⟨MdL_s (MdL_s hM1 (by omega) _ _) (by omega) _ _, fun v hv => ?_⟩
      by_cases e2 : v = i
      · rw [e2, gI_ne (by omega), gI_eq, gI_eq, if_neg e]; exact ⟨rfl, rfl⟩
      · rw [gI_ne (by omega), gI_ne (by omega), gI_ne (by omega), gI_ne (by omega)]; exact hI v (by omega)
  · rintro n H1 ⟨hM1, hI⟩
    rw [L_X1_measure_2, hM1.1.1, if_pos (by rw [nI_lt_iff (by omega) (by omega)]; omega)]
    exact hk (fun v => if 0 < X v then 0 else 1000000000) (fun _ => none) H1 hM1 (fun v hv => hI v (by omega)) (fun v hv => ⟨rfl, rfl⟩)
theorem x1_measure {r : Nat} {G : Gr} {bl : Nat → Nat} {c X p : FZ} {H : Hp} (hr : Rd G bl c X p) (hM : MdL r G bl c X H) : ok (f_X1_measure r H) (fun _ H' => ∃ far bY rk, MdL r G bl c X H' ∧ FB G far bY H' ∧ zOT (aC G bl c) 1000000000 65 p X far bY rk) := by
  unfold f_X1_measure
  refine x1_m2 hr hM (fun far bY H1 hM1 hF1 h1 => ?_)
  exact x1_m49 hr (zBI_0 (by omega) (fun v hv => (hr.2.2.1 v hv).2) h1) hF1 hM1 (fun f y rk H2 hM2 hF2 h2 => ok_s ⟨f, y, rk, hM2, hF2, h2⟩)
