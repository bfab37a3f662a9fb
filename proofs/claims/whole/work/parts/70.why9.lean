/-- why a routine isn't good -/
def why (G : Gr) : Nat := if ff4 G = 0 then ff6 G else ff4 G
def MW (r : Nat) (G : Gr) (H : Hp) : Prop := (∀ b, b < qB G → gJ H 0 15 (20 * r + b) = lN (nW G b)) ∧ (∀ b, b < qB G → gJ H 0 16 (20 * r + b) = bsV G b) ∧ (∀ e, e < qE G → gJ H 0 17 (40 * r + e) = lN (aD G e)) ∧ gJ H 0 14 r = lN (tot G)
theorem j_0le {a : Nat} (ha : a < 2 ^ 63) : (lN 0 ≤ lN a) = True := by
  apply eq_true
  rw [j_le (by decide) ha]; omega
theorem j_0m1 : (lN 0 ≤ -1) = False := by apply eq_false; decide
theorem x9_why_112 {r : Nat} {k : Hp → Option (Int32 × Hp)} {Q : Int32 → Hp → Prop} {H : Hp} (K : ∀ H', Ch TT [(0, 35, none)] H H' → (∀ y, y < 21 → gI H' 0 35 y = bI (rM y)) → ok (k H') Q) : ok (L_X9_why_112 (nI r) k FU 0 H) Q := by
  refine ok_g1 21 (fun x H' => Ch TT [(0, 35, none)] H H' ∧ ∀ y, y < x → gI H' 0 35 y = bI (rM y)) ?_ ?_ rfl ⟨Ch.rf H, fun b hb => absurd hb (Nat.not_lt_zero _)⟩ (FUgt (by omega))
  · intro x n H1 hx ⟨hC, hI⟩ K1
    rw [L_X9_why_112]
    simp (disch := omega) only [l21, nI_le_iff, if_neg, gd_nI, nI_clamp, hl, vl, l0, l1, nIadd, b_nar0, b_nar1, nI_inj]
    refine ok_if (fun hc => K1 _ ⟨?_, fun b hb => ?_⟩) (fun hc => K1 _ ⟨?_, fun b hb => ?_⟩)
    · exact Ch.sI rfl rfl hC
    · rw [gI_sI]
      by_cases q : b = x
      · rw [if_pos ⟨rfl, rfl, q⟩]; unfold rM; rw [decide_eq_true (by omega)]
      · rw [if_neg (fun z => q z.2.2)]; exact hI b (by omega)
    · exact Ch.sI rfl rfl hC
    · rw [gI_sI]
      by_cases q : b = x
      · rw [if_pos ⟨rfl, rfl, q⟩]; unfold rM; rw [decide_eq_false (by omega)]
      · rw [if_neg (fun z => q z.2.2)]; exact hI b (by omega)
  · intro n H1 ⟨hC, hI⟩
    rw [L_X9_why_112]
    simp (disch := omega) only [l21, nI_le_iff, if_pos]
    exact K _ hC hI
def eM' (G : Gr) : Nat → Bool := fun b => decide (b < qB G ∧ 3 ≤ qK G b)
theorem x9_why_157 {r : Nat} {G : Gr} {k : Hp → Option (Int32 × Hp)} {Q : Int32 → Hp → Prop} {H : Hp} (h : MG r G H) (w : WG G) (hr : r < 8) (K : ∀ H', Ch TT [(0, 35, none)] H H' → (∀ y, y < 21 → gI H' 0 35 y = bI (eM' G y)) → ok (k H') Q) : ok (L_X9_why_157 (nI r) k FU 0 H) Q := by
  have hB := w.1
  refine ok_g1 21 (fun x H' => Ch TT [(0, 35, none)] H H' ∧ ∀ y, y < x → gI H' 0 35 y = bI (eM' G y)) ?_ ?_ rfl ⟨Ch.rf H, fun b hb => absurd hb (Nat.not_lt_zero _)⟩ (FUgt (by omega))
  · intro x n H1 hx ⟨hC, hI⟩ K1
    obtain ⟨a1, a2, a3, -⟩ := MG_ch h hC rfl
    have put : ∀ v, v = eM' G x → ok (L_X9_why_157 (nI r) k n (nI (x + 1)) (sI H1 0 35 x (bI v))) Q := by
      rintro v rfl
      refine K1 _ ⟨?_, fun b hb => ?_⟩
      · exact Ch.sI rfl rfl hC
      · rw [gI_sI]
        by_cases q : b = x
        · rw [if_pos ⟨rfl, rfl, q⟩, q]
        · rw [if_neg (fun z => q z.2.2)]; exact hI b (by omega)
    rw [L_X9_why_157]
    by_cases hx2 : x < qB G
    · have hk := w.2.2.1 x hx2
      simp (disch := omega) only [l21, a1, nI_le_iff, if_neg, gd_nI, nI_clamp, hl, vl, l0, l1, l3, l20, nImul, nIadd, b_nar0, b_nar1, a3, nI_lt_iff]
      refine ok_if (fun hc => put _ ?_) (fun hc => put _ ?_)
      · unfold eM'; rw [decide_eq_false (by omega)]
      · unfold eM'; rw [decide_eq_true (by omega)]
    · simp (disch := omega) only [l21, a1, nI_le_iff, if_neg, if_pos, gd_nI, nI_clamp, hl, vl, l0, l1, nIadd, b_nar0]
      exact put _ (by unfold eM'; rw [decide_eq_false (by omega)])
  · intro n H1 ⟨hC, hI⟩
    rw [L_X9_why_157]
    simp (disch := omega) only [l21, nI_le_iff, if_pos]
    exact K _ hC hI
theorem x9_why_276 {r b : Nat} {G : Gr} {k : Int64 → Hp → Option (Int32 × Hp)} {Q : Int32 → Hp → Prop} {H : Hp} (h : MG r G H) (w : WG G) (hr : r < 8) (hb : b < qB G) (hn : gJ H 0 15 (20 * r + b) = lN (nW G b)) (h0 : gJ H 0 16 (20 * r + b) = -1) (K : ∀ H', Cr r [(0, 16, none)] H H' → (∀ i, i ≠ 20 * r + b → gJ H' 0 16 i = gJ H 0 16 i) → gJ H' 0 16 (20 * r + b) = bsV G b → ok (k (lN (bsS G (b + 1))) H') Q) : ok (L_X9_why_276 (nI r) (nI b) k FU (lN (bsS G b)) (nI (40 * r)) H) Q := by
  have hB := w.1
  have hE := w.2.1
  have hbl := bsS_lt w (show 0 < qB G by omega) (show b ≤ qB G by omega)
  refine ok_f2 (40 * r) (qE G) (fun e x H' => Cr r [(0, 16, none)] H H' ∧ (∀ i, i ≠ 20 * r + b → gJ H' 0 16 i = gJ H 0 16 i) ∧ gJ H' 0 16 (20 * r + b) = (if hdB G b e = true then lN (bsS G b) else -1) ∧ x = lN (bsS G b + if hdB G b e = true then nW G b else 0)) ?_ ?_ rfl ⟨Cr.rf H, fun _ _ => rfl, ?_, ?_⟩ (FUgt (by omega))
  · rintro e n x H1 he ⟨hC, hI, hv, rfl⟩ K1
    obtain ⟨a1, a2, -, -, a5, a6, -, a8⟩ := MG_ch h hC.1 rfl
    have wf := w.2.2.2.1 e he
    have hn1 : gJ H1 0 15 (20 * r + b) = lN (nW G b) := by rw [hC.1.gj _ _ _ rfl]; exact hn
    have stay : hdB G b (e + 1) = hdB G b e → ok (L_X9_why_276 (nI r) (nI b) k n (lN (bsS G b + if hdB G b e = true then nW G b else 0)) (nI (40 * r + (e + 1))) H1) Q := by
      intro q
      refine K1 _ _ ⟨hC, hI, ?_, ?_⟩
      · rw [q]; exact hv
      · rw [q]
    rw [L_X9_why_276]
    cases hw : qW G e with
    | false =>
      have a8e := a8 e he
      rw [hw] at a8e
      simp (disch := omega) only [l40, nImul, nIadd, a2, gd_nI, nI_clamp, nI_le_iff, if_neg, a8e, l0, b_eq0, if_true, vl, l1]
      exact stay (by rw [hdB_s, hw]; simp)
    | true =>
      have a8e := a8 e he
      rw [hw] at a8e
      by_cases ht : qT G e = b
      · by_cases hh : hdB G b e = true
        · rw [if_pos hh] at hv
          simp (disch := omega) only [l40, l20, nImul, nIadd, a2, gd_nI, nI_clamp, nI_le_iff, if_neg, a8e, l0, b_eq0, Bool.true_eq_false, if_false, vl, l1, a6, ht, if_true, hv, c_ge, k0, j_0le]
          exact stay (by rw [hdB_s, hh]; rfl)
        · rw [if_neg hh] at hv
          have hhf : hdB G b e = false := by cases z : hdB G b e with | false => rfl | true => exact absurd z hh
          have e2 : gJ (sJ H1 0 16 (20 * r + b) (lN (bsS G b))) 0 15 (20 * r + b) = lN (nW G b) := by rw [gJ_ne (by omega)]; exact hn1
          simp (disch := omega) only [l40, l20, nImul, nIadd, a2, gd_nI, nI_clamp, nI_le_iff, if_neg, a8e, l0, b_eq0, Bool.true_eq_false, if_false, vl, l1, a6, ht, if_true, hv, c_ge, k0, j_0m1, hhf, Bool.false_eq_true, Nat.add_zero, hl, e2, lN_add]
          have hup : hdB G b (e + 1) = true := by rw [hdB_s, hw, ht]; simp
          refine K1 _ _ ⟨?_, fun i hi => ?_, ?_, ?_⟩
          · exact Cr.sJ rfl (o20 (by omega)) hC
          · rw [gJ_ne (fun z => hi z.2.2)]; exact hI i hi
          · rw [gJ_eq, if_pos hup]
          · rw [if_pos hup]
      · simp (disch := omega) only [l40, nImul, nIadd, a2, gd_nI, nI_clamp, nI_le_iff, if_neg, a8e, l0, b_eq0, Bool.true_eq_false, if_false, vl, l1, a6, nI_inj]
        exact stay (by rw [hdB_s, decide_eq_false ht]; simp)
  · rintro n x H1 ⟨hC, hI, hv, rfl⟩
    obtain ⟨a1, a2, -⟩ := MG_ch h hC.1 rfl
    rw [L_X9_why_276]
    simp (disch := omega) only [l40, nImul, nIadd, a2, gd_nI, nI_clamp, nI_le_iff, if_pos]
    rw [← bsS_s]
    exact K _ hC hI hv
  · rw [h0, if_neg (fun z => Bool.noConfusion z)]
  · rw [if_neg (fun z => Bool.noConfusion z), Nat.add_zero]
theorem x9_why_244 {r : Nat} {G : Gr} {k : Int64 → Hp → Option (Int32 × Hp)} {Q : Int32 → Hp → Prop} {H : Hp} (h : MG r G H) (w : WG G) (hr : r < 8) (h0 : 0 < qB G) (hn : ∀ b, b < qB G → gJ H 0 15 (20 * r + b) = lN (nW G b)) (K : ∀ H', Cr r [(0, 16, none)] H H' → (∀ b, b < qB G → gJ H' 0 16 (20 * r + b) = bsV G b) → ok (k (lN (tot G)) H') Q) : ok (L_X9_why_244 (nI r) k FU (lN (nW G 0)) 0 H) Q := by
  have hB := w.1
  have hE := w.2.1
  refine ok_g2 (qB G) (fun b x H' => x = lN (bsS G b) ∧ Cr r [(0, 16, none)] H H' ∧ ∀ y, y < b → gJ H' 0 16 (20 * r + y) = bsV G y) ?_ ?_ rfl ⟨by rw [bsS_0], Cr.rf H, fun b hb => absurd hb (Nat.not_lt_zero _)⟩ (FUgt (by omega))
  · rintro b n x H1 hb ⟨rfl, hC, hI⟩ K1
    obtain ⟨a1, -⟩ := MG_ch h hC.1 rfl
    rw [L_X9_why_244]
    simp (disch := omega) only [l40, l20, nImul, nIadd, a1, gd_nI, nI_clamp, nI_le_iff, if_neg, hl, vl, l1]
    have hC2 : Cr r [(0, 16, none)] H (sJ H1 0 16 (20 * r + b) (-1)) := Cr.sJ rfl (o20 (by omega)) hC
    refine x9_why_276 (MG_ch h hC2.1 rfl) w hr hb ?_ (gJ_eq _ _ _ _ _) (fun H3 hC3 hI3 hv3 => K1 _ _ ⟨rfl, Cr.tr rfl hC2 hC3, fun y hy => ?_⟩)
    · rw [hC2.1.gj _ _ _ rfl]; exact hn b hb
    · by_cases q : y = b
      · rw [q]; exact hv3
      · rw [hI3 _ (by omega), gJ_ne (by omega)]; exact hI y (by omega)
  · rintro n x H1 ⟨rfl, hC, hI⟩
    obtain ⟨a1, -⟩ := MG_ch h hC.1 rfl
    rw [L_X9_why_244]
    simp (disch := omega) only [a1, gd_nI, nI_clamp, nI_le_iff, if_pos]
    exact K _ hC hI
theorem spi_congr {g t : Nat → Nat} {M M' : Nat → Bool} {n E : Nat} (hg : ∀ e, e < E → g e < n) (h : ∀ b, b < n → M b = M' b) : ∀ p b, b < n → spi g t E M p b = spi g t E M' p b := by
  intro p
  induction p with
  | zero => exact h
  | succ p ih => exact sp_congr hg ih E (Nat.le_refl _)
theorem x9_why {r : Nat} {G : Gr} {H : Hp} (h : MG r G H) (w : WG G) (hr : r < 8) : ok (f_X9_why (nI r) H) (fun v H' => v = nI (why G) ∧ Cr r [(0, 14, none), (0, 15, none), (0, 16, none), (0, 17, none), (0, 35, none)] H H' ∧ (why G = 0 → MW r G H')) := by
  have hB := w.1
  have hE := w.2.1
  unfold f_X9_why
  simp (disch := omega) only [gd_nI, nI_clamp, h.1, l0, nI_inj]
  refine ok_if (fun hc => ?_) (fun hc => ?_)
  · have : why G = 1 := by unfold why ff4; rw [if_pos hc]; rfl
    rw [this]
    exact ok_s ⟨rfl, Cr.rf H, fun z => by cases z⟩
  have hb0 : 0 < qB G := by omega
  refine x9_why_outs h w hr (fun hf => ?_) (fun hO => ?_)
  · have : why G = 2 := by unfold why ff4; rw [if_neg hc, if_pos hf]; rfl
    rw [this]
    exact ⟨rfl, Cr.rf H, fun z => by cases z⟩
  have hO' := allB_iff.mp hO
  refine x9_why_112 (fun H1 hC1 hI1 => ?_)
  have s1 : ∀ {Ha Hb : Hp}, Ch TT [(0, 35, none)] Ha Hb → Cr r [(0, 14, none), (0, 15, none), (0, 16, none), (0, 17, none), (0, 35, none)] Ha Hb := fun q => ⟨Ch.tr (fun _ q => q) rfl (Ch.rf _) q, Rs.ch q (fun k hk _ i => inL_35 (by omega))⟩
  have hG1 := MG_ch h hC1 rfl
  refine ok_b (x9_reach_a hG1 w hr hI1) ?_
  rintro _ H2 ⟨hC2, hI2⟩
  have hG2 := MG_ch hG1 hC2 rfl
  have hCr2 := Cr.tr rfl (s1 hC1) (s1 hC2)
  simp only [x9_all hG2 w hr hI2, bnd_s, b_eq0]
  refine ok_if (fun hd => ?_) (fun hd => ?_)
  · have f3 : ff4 G = 3 := by unfold ff4; rw [if_neg hc, if_neg (by rw [hO]; decide), if_pos hd]
    have : why G = 3 := by unfold why; rw [f3]; rfl
    rw [this]
    exact ok_s ⟨rfl, hCr2, fun z => by cases z⟩
  refine x9_why_157 hG2 w hr (fun H3 hC3 hI3 => ?_)
  have hG3 := MG_ch hG2 hC3 rfl
  refine ok_b (x9_reach_b hG3 w hr hI3) ?_
  rintro _ H4 ⟨hC4, hI4⟩
  have hG4 := MG_ch hG3 hC4 rfl
  have hCr4 := Cr.tr rfl (Cr.tr rfl hCr2 (s1 hC3)) (s1 hC4)
  have hee : allB (spi (qT G) (qF G) (qE G) (eM' G) (qB G)) (qB G) = allB (spi (qT G) (qF G) (qE G) (eM G) (qB G)) (qB G) := by
    apply allB_congr
    intro i hi
    refine spi_congr (fun e he => (w.2.2.2.1 e he).2.1) (fun b hb => ?_) _ i hi
    unfold eM' eM
    by_cases q : 3 ≤ qK G b
    · rw [decide_eq_true ⟨hb, q⟩, decide_eq_true q]
    · rw [decide_eq_false (fun z => q z.2), decide_eq_false q]
  simp only [x9_all hG4 w hr hI4, bnd_s, b_eq0, hee]
  refine ok_if (fun he => ?_) (fun he => ?_)
  · have f4 : ff4 G = 4 := by unfold ff4; rw [if_neg hc, if_neg (by rw [hO]; decide), if_neg hd, if_pos he]
    have : why G = 4 := by unfold why; rw [f4]; rfl
    rw [this]
    exact ok_s ⟨rfl, hCr4, fun z => by cases z⟩
  have h4 : ff4 G = 0 := by unfold ff4; rw [if_neg hc, if_neg (by rw [hO]; decide), if_neg hd, if_neg he]
  refine ok_b (x9_count hG4 w hr hO') ?_
  rintro _ H5 ⟨rfl, hC5, hI5⟩
  have hG5 := MG_ch hG4 hC5.1 rfl
  have hCr5 : Cr r [(0, 14, none), (0, 15, none), (0, 16, none), (0, 17, none), (0, 35, none)] H H5 := Cr.tr rfl hCr4 hC5
  simp only [b_eq0]
  refine ok_if (fun hf => ?_) (fun hf => ?_)
  · have : why G = 5 := by unfold why ff6; rw [if_pos h4, if_pos hf]
    rw [this]
    exact ok_s ⟨rfl, hCr5, fun z => by cases z⟩
  obtain ⟨hn5, ha5⟩ := hI5 (bt_of hf)
  have e0 : gJ H5 0 15 (20 * r) = lN (nW G 0) := hn5 0 hb0
  have htl : tot G ≤ 23089744183296 := bsS_lt w hb0 (Nat.le_refl _)
  simp (disch := omega) only [l20, nImul, gd_nI, nI_clamp, vl, e0]
  refine x9_why_244 hG5 w hr hb0 hn5 (fun H6 hC6 hI6 => ?_)
  simp (disch := omega) only [gd_nI, nI_clamp, hl, c_le, k12, j_le]
  have hCr7 : Cr r [(0, 14, none), (0, 15, none), (0, 16, none), (0, 17, none), (0, 35, none)] H (sJ H6 0 14 r (lN (tot G))) := Cr.sJ rfl rfl (Cr.tr rfl hCr5 hC6)
  have hMW : MW r G (sJ H6 0 14 r (lN (tot G))) := by
    refine ⟨fun b hb => ?_, fun b hb => ?_, fun e he => ?_, gJ_eq _ _ _ _ _⟩
    · rw [gJ_ne (by omega), hC6.1.gj _ _ _ rfl]; exact hn5 b hb
    · rw [gJ_ne (by omega)]; exact hI6 b hb
    · rw [gJ_ne (by omega), hC6.1.gj _ _ _ rfl]; exact ha5 e he
  refine ok_if (fun hg => ?_) (fun hg => ?_)
  · have : why G = 0 := by unfold why ff6; rw [if_pos h4, if_neg hf, if_neg (by omega)]
    rw [this]
    exact ok_s ⟨rfl, hCr7, fun _ => hMW⟩
  · have : why G = 6 := by unfold why ff6; rw [if_pos h4, if_neg hf, if_pos (by omega)]
    rw [this]
    exact ok_s ⟨rfl, hCr7, fun z => by cases z⟩
