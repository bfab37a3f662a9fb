/-- the bases of the class -/
def bsV (G : Gr) (b : Nat) : Int64 := if hdB G b (qE G) = true then lN (bsS G b) else -1
theorem hdB_s (G : Gr) (b e : Nat) : hdB G b (e + 1) = (hdB G b e || (qW G e && decide (qT G e = b))) := rfl
theorem bsS_s (G : Gr) (b : Nat) : bsS G (b + 1) = bsS G b + if hdB G b (qE G) = true then nW G b else 0 := by
  unfold bsS
  rw [sumF_s, Nat.add_assoc]
theorem bsS_0 (G : Gr) : bsS G 0 = nW G 0 := Nat.add_zero _
theorem jm0 : ((0 : Int64) = -1) = False := by apply eq_false; decide
theorem x7_bases_2 {r : Nat} {G : Gr} {H : Hp} {k : Hp → Option (Unit × Hp)} {Q : Unit → Hp → Prop} (h : CG r G H) (w : WG G) (K : ∀ H', Ch TT [(2, 19, none)] H H' → (∀ b, b < qB G → gJ H' (r + 2) 19 b = -1) → ok (k H') Q) : ok (L_X7_setBases_2 r k FU 0 H) Q := by
  have hB := w.1
  refine ok_g1 (qB G) (fun x H' => Ch TT [(2, 19, none)] H H' ∧ ∀ b, b < x → gJ H' (r + 2) 19 b = -1) ?_ ?_ rfl ⟨Ch.rf H, fun b hb => absurd hb (Nat.not_lt_zero _)⟩ (FUgt (by omega))
  · intro x n H1 hx ⟨hC, hI⟩ K1
    obtain ⟨a1, -⟩ := CG_ch h hC rfl
    rw [L_X7_setBases_2]
    simp (disch := omega) only [a1, nI_le_iff, if_neg, gd_nI, nI_clamp, hl, vl, l1, nIadd]
    refine K1 _ ⟨?_, fun b hb => ?_⟩
    · exact Ch.sJ rfl rfl hC
    · rw [gJ_sJ]
      by_cases q : b = x
      · rw [if_pos ⟨rfl, rfl, q⟩]
      · rw [if_neg (fun z => q z.2.2)]; exact hI b (by omega)
  · intro n H1 ⟨hC, hI⟩
    obtain ⟨a1, -⟩ := CG_ch h hC rfl
    rw [L_X7_setBases_2]
    simp (disch := omega) only [a1, nI_le_iff, if_pos]
    exact K _ hC hI
theorem x7_bases_30 {r : Nat} {G : Gr} {H : Hp} {k : Hp → Option (Unit × Hp)} {Q : Unit → Hp → Prop} (h : CG r G H) (w : WG G) (hI : ∀ b, b < qB G → gJ H (r + 2) 19 b = -1) (K : ∀ H', Ch TT [(2, 19, none)] H H' → (∀ b, b < qB G → gJ H' (r + 2) 19 b = if hdB G b (qE G) = true then 0 else -1) → ok (k H') Q) : ok (L_X7_setBases_30 r k FU 0 H) Q := by
  have hB := w.1
  have hE := w.2.1
  refine ok_g1 (qE G) (fun e H' => Ch TT [(2, 19, none)] H H' ∧ ∀ b, b < qB G → gJ H' (r + 2) 19 b = if hdB G b e = true then 0 else -1) ?_ ?_ rfl ⟨Ch.rf H, fun b hb => by rw [hI b hb, if_neg (fun z => Bool.noConfusion z)]⟩ (FUgt (by omega))
  · intro e n H2 he ⟨hC2, hI2⟩ K2
    obtain ⟨b1, b2, -, -, -, -, -, -, b9, -, b11⟩ := CG_ch h hC2 rfl
    have wf := w.2.2.2.1 e he
    rw [L_X7_setBases_30]
    simp (disch := omega) only [b2, nI_le_iff, if_neg, gd_nI, nI_clamp, hl, vl, l1, nIadd, b11, l0, b_eq0, b9]
    refine ok_if (fun hc => K2 _ ⟨hC2, fun b hb => ?_⟩) (fun hc => K2 _ ⟨?_, fun b hb => ?_⟩)
    · rw [hI2 b hb, hdB_s, hc, Bool.false_and, Bool.or_false]
    · exact Ch.sJ rfl rfl hC2
    · rw [gJ_sJ, hdB_s, bt_of hc]
      by_cases q : b = qT G e
      · rw [if_pos ⟨rfl, rfl, q⟩, if_pos (by simp [q])]
      · rw [if_neg (fun z => q z.2.2), hI2 b hb, decide_eq_false (fun z => q z.symm), Bool.and_false, Bool.or_false]
  · intro n H2 ⟨hC2, hI2⟩
    obtain ⟨b1, b2, -⟩ := CG_ch h hC2 rfl
    rw [L_X7_setBases_30]
    simp (disch := omega) only [b2, nI_le_iff, if_pos]
    exact K _ hC2 hI2
theorem x7_bases_86 {r : Nat} {G : Gr} {H : Hp} {k : Hp → Option (Unit × Hp)} {Q : Unit → Hp → Prop} (h : CG r G H) (w : WG G) (hn : ∀ b, b < qB G → gJ H (r + 2) 18 b = lN (nW G b)) (hI : ∀ b, b < qB G → gJ H (r + 2) 19 b = if hdB G b (qE G) = true then 0 else -1) (hT : gJ H (r + 2) 2 10 = lN (bsS G 0)) (K : ∀ H', Ch TT [(2, 19, none), (2, 2, some 10)] H H' → (∀ b, b < qB G → gJ H' (r + 2) 19 b = bsV G b) → gJ H' (r + 2) 2 10 = lN (tot G) → ok (k H') Q) : ok (L_X7_setBases_86 r k FU 0 H) Q := by
  have hB := w.1
  refine ok_g1 (qB G) (fun x H' => Ch TT [(2, 19, none), (2, 2, some 10)] H H' ∧ (∀ b, b < qB G → gJ H' (r + 2) 19 b = if hdB G b (qE G) = true then (if b < x then lN (bsS G b) else 0) else -1) ∧ gJ H' (r + 2) 2 10 = lN (bsS G x)) ?_ ?_ rfl ⟨Ch.rf H, fun b hb => ?_, hT⟩ (FUgt (by omega))
  · intro x n H4 hx ⟨hC4, hI4, hT4⟩ K4
    obtain ⟨c1, -⟩ := CG_ch h hC4 rfl
    have hn4 : ∀ b, b < qB G → gJ H4 (r + 2) 18 b = lN (nW G b) := fun b hb => by rw [hC4.gj _ _ _ rfl]; exact hn b hb
    have hbx := hI4 x hx
    rw [if_neg (show ¬ x < x by omega)] at hbx
    rw [L_X7_setBases_86]
    by_cases hh : hdB G x (qE G) = true
    · rw [if_pos hh] at hbx
      have e1 : gJ (sJ H4 (r + 2) 19 x (lN (bsS G x))) (r + 2) 2 10 = lN (bsS G x) := by rw [gJ_ne (by omega)]; exact hT4
      have e2 : gJ (sJ H4 (r + 2) 19 x (lN (bsS G x))) (r + 2) 18 x = lN (nW G x) := by rw [gJ_ne (by omega)]; exact hn4 x hx
      simp (disch := omega) only [c1, nI_le_iff, if_neg, gd_nI, nI_clamp, hbx, l0, c_eq, jm0, if_false, hl, hT4, e1, e2, lN_add, vl, l1, nIadd]
      refine K4 _ ⟨?_, fun b hb => ?_, ?_⟩
      · exact Ch.sJ rfl rfl (Ch.sJ rfl rfl hC4)
      · rw [gJ_ne (by omega), gJ_sJ]
        by_cases q : b = x
        · rw [if_pos ⟨rfl, rfl, q⟩, q, if_pos hh, if_pos (by omega)]
        · rw [if_neg (fun z => q z.2.2), hI4 b hb]
          have : (b < x) = (b < x + 1) := by apply propext; omega
          simp only [this]
      · rw [gJ_eq, bsS_s, if_pos hh]
    · rw [if_neg hh] at hbx
      simp (disch := omega) only [c1, nI_le_iff, if_neg, gd_nI, nI_clamp, hbx, l0, c_eq, if_true, vl, l1, nIadd]
      refine K4 _ ⟨hC4, fun b hb => ?_, ?_⟩
      · rw [hI4 b hb]
        by_cases q : b = x
        · rw [q, if_neg hh, if_neg hh]
        · have : (b < x) = (b < x + 1) := by apply propext; omega
          simp only [this]
      · rw [hT4, bsS_s, if_neg hh, Nat.add_zero]
  · intro n H4 ⟨hC4, hI4, hT4⟩
    obtain ⟨c1, -⟩ := CG_ch h hC4 rfl
    rw [L_X7_setBases_86]
    simp (disch := omega) only [c1, nI_le_iff, if_pos]
    refine K _ hC4 (fun b hb => ?_) hT4
    unfold bsV
    rw [hI4 b hb, if_pos hb]
  · rw [hI b hb]
    simp
theorem x7_setBases {r : Nat} {G : Gr} {H : Hp} (h : CG r G H) (w : WG G) (h0 : 0 < qB G) (hn : ∀ b, b < qB G → gJ H (r + 2) 18 b = lN (nW G b)) : ok (f_X7_setBases r H) (fun _ H' => Ch TT [(2, 19, none), (2, 2, some 10)] H H' ∧ (∀ b, b < qB G → gJ H' (r + 2) 19 b = bsV G b) ∧ gJ H' (r + 2) 2 10 = lN (tot G)) := by
  unfold f_X7_setBases
  refine x7_bases_2 h w (fun H1 hC1 hI1 => ?_)
  have hG1 := CG_ch h hC1 rfl
  refine x7_bases_30 hG1 w hI1 (fun H2 hC2 hI2 => ?_)
  have hG2 := CG_ch hG1 hC2 rfl
  have hn2 : ∀ b, b < qB G → gJ H2 (r + 2) 18 b = lN (nW G b) := fun b hb => by rw [hC2.gj _ _ _ rfl, hC1.gj _ _ _ rfl]; exact hn b hb
  have e0 : gJ H2 (r + 2) 18 (Int32.toNatClampNeg 0) = lN (nW G 0) := hn2 0 h0
  rw [e0]
  have hC3 : Ch TT [(2, 19, none), (2, 2, some 10)] H (sJ H2 (r + 2) 2 10 (lN (nW G 0))) := Ch.sJ rfl rfl (Ch.tr (fun _ q => q) rfl (Ch.tr (fun _ q => q) rfl (Ch.rf H) hC1) hC2)
  refine x7_bases_86 (CG_ch h hC3 rfl) w (fun b hb => ?_) (fun b hb => ?_) ?_ (fun H4 hC4 hI4 hT4 => ok_s ⟨Ch.tr (fun _ q => q) rfl hC3 hC4, hI4, hT4⟩)
  · rw [gJ_ne (by omega)]; exact hn2 b hb
  · rw [gJ_ne (by omega)]; exact hI2 b hb
  · rw [gJ_eq, bsS_0]
/-- the class's numbers of ways -/
def CW (r : Nat) (G : Gr) (H : Hp) : Prop := (∀ b, b < qB G → gJ H (r + 2) 18 b = lN (nW G b)) ∧ (∀ b, b < qB G → gJ H (r + 2) 19 b = bsV G b) ∧ (∀ e, e < qE G → gJ H (r + 2) 21 e = lN (aD G e)) ∧ gJ H (r + 2) 2 10 = lN (tot G)
def ff6 (G : Gr) : Nat := if nzB G = false then 5 else if 1000000000000 < tot G then 6 else 0
theorem x7_firstFault {r : Nat} {G : Gr} {H : Hp} (h : CG r G H) (w : WG G) (h0 : 0 < qB G) : ok (f_X7_firstFault r H) (fun v H' => v = nI (ff6 G) ∧ Ch TT [(2, 2, some 10), (2, 18, none), (2, 19, none), (2, 21, none)] H H' ∧ (nzB G = true → CW r G H')) := by
  have hB := w.1
  have hE := w.2.1
  unfold f_X7_firstFault ff6
  refine ok_b (x7_fromBlocks h w) ?_
  rintro v H1 ⟨rfl, hC1, hn1⟩
  have hG1 := CG_ch h hC1 rfl
  have hC1' : Ch TT [(2, 2, some 10), (2, 18, none), (2, 19, none), (2, 21, none)] H H1 := Ch.tr (fun _ q => q) rfl (Ch.rf H) hC1
  simp only [l0, b_eq0]
  refine ok_if (fun hc => ?_) (fun hc => ?_)
  · rw [if_pos hc]
    exact ok_s ⟨rfl, hC1', fun q => by rw [hc] at q; cases q⟩
  · rw [if_neg hc]
    refine ok_b (x7_sumAdds hG1 w hn1) ?_
    rintro _ H2 ⟨hC2, ha2⟩
    have hG2 := CG_ch hG1 hC2 rfl
    have hn2 : ∀ b, b < qB G → gJ H2 (r + 2) 18 b = lN (nW G b) := fun b hb => by rw [hC2.gj _ _ _ rfl]; exact hn1 b hb
    refine ok_b (x7_setBases hG2 w h0 hn2) ?_
    rintro _ H3 ⟨hC3, hb3, ht3⟩
    have htl : tot G ≤ 23089744183296 := bsS_lt w h0 (Nat.le_refl _)
    have hC3' : Ch TT [(2, 2, some 10), (2, 18, none), (2, 19, none), (2, 21, none)] H H3 := Ch.tr (fun _ q => q) rfl (Ch.tr (fun _ q => q) rfl hC1' hC2) hC3
    have hCW : CW r G H3 := ⟨fun b hb => by rw [hC3.gj _ _ _ rfl]; exact hn2 b hb, hb3, fun e he => by rw [hC3.gj _ _ _ rfl]; exact ha2 e he, ht3⟩
    simp (disch := omega) only [ht3, c_le, k12, j_le]
    refine ok_if (fun hd => ?_) (fun hd => ?_)
    · rw [if_neg (by omega)]
      exact ok_s ⟨rfl, hC3', fun _ => hCW⟩
    · rw [if_pos (by omega)]
      exact ok_s ⟨rfl, hC3', fun _ => hCW⟩
