theorem sp_s (g t : Nat → Nat) (M : Nat → Bool) (e b : Nat) : sp g t M (e + 1) b = if sp g t M e (g e) = true ∧ b = t e then true else sp g t M e b := rfl
theorem bf_ne {b : Bool} (h : b = false) : ¬ b = true := by rw [h]; decide
theorem bt_of {b : Bool} (h : ¬ b = false) : b = true := by cases b with
  | false => exact absurd rfl h
  | true => rfl
theorem x3_ends {r b : Nat} {G : Gr} {H : Hp} (h : CG r G H) (w : WG G) (hb : b < qB G) : f_X3_endsIn r (nI b) H = some (bI (decide (3 ≤ qK G b)), H) := by
  have hB := w.1
  have hK := w.2.2.1 b hb
  unfold f_X3_endsIn
  simp (disch := omega) only [gd_nI, nI_clamp, h.2.2.1, l3, l4, nI_inj]
  by_cases h3 : qK G b = 3
  · rw [if_pos h3, decide_eq_true (by omega)]; rfl
  · rw [if_neg h3]
    by_cases h4 : qK G b = 4
    · rw [if_pos h4, decide_eq_true (by omega)]; rfl
    · rw [if_neg h4, decide_eq_false (by omega)]; rfl
theorem x3_pass_a {r : Nat} {b3 : Int32} {G : Gr} {H : Hp} {k : Hp → Option (Int32 × Hp)} {Q : Int32 → Hp → Prop} {M : Nat → Bool} (h : CG r G H) (w : WG G) (hM : ∀ b, b < qB G → gI H (r + 2) 17 b = bI (M b)) (K : ∀ H', Ch TT [(2, 17, none)] H H' → (∀ b, b < qB G → gI H' (r + 2) 17 b = bI (sp (qF G) (qT G) M (qE G) b)) → ok (k H') Q) : ok (L_X3_marksSpread_a_13 r b3 k FU 0 H) Q := by
  have hE := w.2.1
  have hB := w.1
  refine ok_g1 (qE G) (fun e H' => Ch TT [(2, 17, none)] H H' ∧ ∀ b, b < qB G → gI H' (r + 2) 17 b = bI (sp (qF G) (qT G) M e b)) ?_ ?_ rfl ⟨Ch.rf H, hM⟩ (FUgt (by omega))
  · intro e n H1 he ⟨hC, hI⟩ K1
    obtain ⟨a1, a2, -, -, -, -, -, a8, a9, -, -⟩ := CG_ch h hC rfl
    have wf := w.2.2.2.1 e he
    rw [L_X3_marksSpread_a_13]
    simp (disch := omega) only [a2, nI_le_iff, if_neg, gd_nI, nI_clamp, a8, a9, hI, l0, b_eq0, vl, l1, nIadd, hl, b_nar1]
    refine ok_if (fun hc => K1 _ ⟨hC, fun b hb => ?_⟩) (fun hc => K1 _ ⟨?_, fun b hb => ?_⟩)
    · rw [hI b hb, sp_s, if_neg (fun q => bf_ne hc q.1)]
    · exact Ch.sI rfl rfl hC
    · rw [gI_sI, sp_s]
      by_cases hbt : b = qT G e
      · rw [if_pos ⟨rfl, rfl, hbt⟩, if_pos ⟨bt_of hc, hbt⟩]
      · rw [if_neg (fun q => hbt q.2.2), if_neg (fun q => hbt q.2), hI b hb]
  · intro n H1 ⟨hC, hI⟩
    obtain ⟨a1, a2, -⟩ := CG_ch h hC rfl
    rw [L_X3_marksSpread_a_13]
    simp (disch := omega) only [a2, nI_le_iff, if_pos]
    exact K _ hC hI
theorem x3_spread_a {r : Nat} {G : Gr} {H : Hp} {M : Nat → Bool} (h : CG r G H) (w : WG G) (hM : ∀ b, b < qB G → gI H (r + 2) 17 b = bI (M b)) : ok (f_X3_marksSpread_a r H) (fun v H' => Ch TT [(2, 17, none)] H H' ∧ v = bI (allB (spi (qF G) (qT G) (qE G) M (qB G)) (qB G))) := by
  have hE := w.2.1
  have hB := w.1
  unfold f_X3_marksSpread_a
  refine ok_g1 (qB G) (fun p H' => Ch TT [(2, 17, none)] H H' ∧ ∀ b, b < qB G → gI H' (r + 2) 17 b = bI (spi (qF G) (qT G) (qE G) M p b)) ?_ ?_ rfl ⟨Ch.rf H, hM⟩ (FUgt (by omega))
  · intro p n H1 hp ⟨hC, hI⟩ K1
    have hG := CG_ch h hC rfl
    obtain ⟨a1, a2, -⟩ := id hG
    rw [L_X3_marksSpread_a_2]
    simp (disch := omega) only [a1, nI_le_iff, if_neg, vl, l1, nIadd]
    refine x3_pass_a hG w hI (fun H2 hC2 hI2 => K1 _ ⟨Ch.tr (fun _ q => q) rfl hC hC2, hI2⟩)
  · intro n H1 ⟨hC, hI⟩
    have hG := CG_ch h hC rfl
    obtain ⟨a1, a2, -⟩ := id hG
    rw [L_X3_marksSpread_a_2]
    simp (disch := omega) only [a1, nI_le_iff, if_pos]
    refine ok_g1 (qB G) (fun p H' => H' = H1 ∧ ∀ b, b < p → spi (qF G) (qT G) (qE G) M (qB G) b = true) ?_ ?_ rfl ⟨rfl, fun b hb => absurd hb (Nat.not_lt_zero _)⟩ (FUgt (by omega))
    · rintro p n H2 hp ⟨rfl, hI2⟩ K2
      rw [L_X3_marksSpread_a_58]
      simp (disch := omega) only [a1, nI_le_iff, if_neg, vl, l1, nIadd, l0, hI, b_eq0, gd_nI, nI_clamp]
      refine ok_if (fun hc => ok_s ⟨hC, ?_⟩) (fun hc => K2 _ ⟨rfl, fun b hb => ?_⟩)
      · rw [allB_f hp hc]; rfl
      · by_cases hbp : b = p
        · subst hbp; exact bt_of hc
        · exact hI2 b (by omega)
    · rintro n H2 ⟨rfl, hI2⟩
      rw [L_X3_marksSpread_a_58]
      simp (disch := omega) only [a1, nI_le_iff, if_pos]
      refine ok_s ⟨hC, ?_⟩
      rw [allB_iff.mpr hI2]; rfl
theorem x3_pass_b {r : Nat} {b3 : Int32} {G : Gr} {H : Hp} {k : Hp → Option (Int32 × Hp)} {Q : Int32 → Hp → Prop} {M : Nat → Bool} (h : CG r G H) (w : WG G) (hM : ∀ b, b < qB G → gI H (r + 2) 17 b = bI (M b)) (K : ∀ H', Ch TT [(2, 17, none)] H H' → (∀ b, b < qB G → gI H' (r + 2) 17 b = bI (sp (qT G) (qF G) M (qE G) b)) → ok (k H') Q) : ok (L_X3_marksSpread_b_13 r b3 k FU 0 H) Q := by
  have hE := w.2.1
  have hB := w.1
  refine ok_g1 (qE G) (fun e H' => Ch TT [(2, 17, none)] H H' ∧ ∀ b, b < qB G → gI H' (r + 2) 17 b = bI (sp (qT G) (qF G) M e b)) ?_ ?_ rfl ⟨Ch.rf H, hM⟩ (FUgt (by omega))
  · intro e n H1 he ⟨hC, hI⟩ K1
    obtain ⟨a1, a2, -, -, -, -, -, a8, a9, -, -⟩ := CG_ch h hC rfl
    have wf := w.2.2.2.1 e he
    rw [L_X3_marksSpread_b_13]
    simp (disch := omega) only [a2, nI_le_iff, if_neg, gd_nI, nI_clamp, a8, a9, hI, l0, b_eq0, vl, l1, nIadd, hl, b_nar1]
    refine ok_if (fun hc => K1 _ ⟨hC, fun b hb => ?_⟩) (fun hc => K1 _ ⟨?_, fun b hb => ?_⟩)
    · rw [hI b hb, sp_s, if_neg (fun q => bf_ne hc q.1)]
    · exact Ch.sI rfl rfl hC
    · rw [gI_sI, sp_s]
      by_cases hbt : b = qF G e
      · rw [if_pos ⟨rfl, rfl, hbt⟩, if_pos ⟨bt_of hc, hbt⟩]
      · rw [if_neg (fun q => hbt q.2.2), if_neg (fun q => hbt q.2), hI b hb]
  · intro n H1 ⟨hC, hI⟩
    obtain ⟨a1, a2, -⟩ := CG_ch h hC rfl
    rw [L_X3_marksSpread_b_13]
    simp (disch := omega) only [a2, nI_le_iff, if_pos]
    exact K _ hC hI
theorem x3_spread_b {r : Nat} {G : Gr} {H : Hp} {M : Nat → Bool} (h : CG r G H) (w : WG G) (hM : ∀ b, b < qB G → gI H (r + 2) 17 b = bI (M b)) : ok (f_X3_marksSpread_b r H) (fun v H' => Ch TT [(2, 17, none)] H H' ∧ v = bI (allB (spi (qT G) (qF G) (qE G) M (qB G)) (qB G))) := by
  have hE := w.2.1
  have hB := w.1
  unfold f_X3_marksSpread_b
  refine ok_g1 (qB G) (fun p H' => Ch TT [(2, 17, none)] H H' ∧ ∀ b, b < qB G → gI H' (r + 2) 17 b = bI (spi (qT G) (qF G) (qE G) M p b)) ?_ ?_ rfl ⟨Ch.rf H, hM⟩ (FUgt (by omega))
  · intro p n H1 hp ⟨hC, hI⟩ K1
    have hG := CG_ch h hC rfl
    obtain ⟨a1, a2, -⟩ := id hG
    rw [L_X3_marksSpread_b_2]
    simp (disch := omega) only [a1, nI_le_iff, if_neg, vl, l1, nIadd]
    refine x3_pass_b hG w hI (fun H2 hC2 hI2 => K1 _ ⟨Ch.tr (fun _ q => q) rfl hC hC2, hI2⟩)
  · intro n H1 ⟨hC, hI⟩
    have hG := CG_ch h hC rfl
    obtain ⟨a1, a2, -⟩ := id hG
    rw [L_X3_marksSpread_b_2]
    simp (disch := omega) only [a1, nI_le_iff, if_pos]
    refine ok_g1 (qB G) (fun p H' => H' = H1 ∧ ∀ b, b < p → spi (qT G) (qF G) (qE G) M (qB G) b = true) ?_ ?_ rfl ⟨rfl, fun b hb => absurd hb (Nat.not_lt_zero _)⟩ (FUgt (by omega))
    · rintro p n H2 hp ⟨rfl, hI2⟩ K2
      rw [L_X3_marksSpread_b_58]
      simp (disch := omega) only [a1, nI_le_iff, if_neg, vl, l1, nIadd, l0, hI, b_eq0, gd_nI, nI_clamp]
      refine ok_if (fun hc => ok_s ⟨hC, ?_⟩) (fun hc => K2 _ ⟨rfl, fun b hb => ?_⟩)
      · rw [allB_f hp hc]; rfl
      · by_cases hbp : b = p
        · subst hbp; exact bt_of hc
        · exact hI2 b (by omega)
    · rintro n H2 ⟨rfl, hI2⟩
      rw [L_X3_marksSpread_b_58]
      simp (disch := omega) only [a1, nI_le_iff, if_pos]
      refine ok_s ⟨hC, ?_⟩
      rw [allB_iff.mpr hI2]; rfl
theorem gb_01 {α : Type} (b : Bool) (k : Option α) : gb (decide (bI b = (0 : Int32) ∨ bI b = 1)) k = k := by cases b <;> rfl
def rM : Nat → Bool := fun b => decide (b = 0)
def eM (G : Gr) : Nat → Bool := fun b => decide (3 ≤ qK G b)
theorem x3_allReached {r : Nat} {G : Gr} {H : Hp} (h : CG r G H) (w : WG G) : ok (f_X3_allReached r H) (fun v H' => Ch TT [(2, 17, none)] H H' ∧ v = bI (allB (spi (qF G) (qT G) (qE G) rM (qB G)) (qB G))) := by
  have hE := w.2.1
  have hB := w.1
  unfold f_X3_allReached
  refine ok_g1 (qB G) (fun i H' => Ch TT [(2, 17, none)] H H' ∧ ∀ b, b < i → gI H' (r + 2) 17 b = bI (rM b)) ?_ ?_ rfl ⟨Ch.rf H, fun b hb => absurd hb (Nat.not_lt_zero _)⟩ (FUgt (by omega))
  · intro i n H1 hi ⟨hC, hI⟩ K1
    obtain ⟨a1, a2, -⟩ := CG_ch h hC rfl
    rw [L_X3_allReached_2]
    simp (disch := omega) only [a1, nI_le_iff, if_neg, gd_nI, nI_clamp, l0, nI_inj, vl, l1, nIadd, hl, b_nar1, b_nar0]
    refine ok_if (fun hc => K1 _ ⟨?_, fun b hb => ?_⟩) (fun hc => K1 _ ⟨?_, fun b hb => ?_⟩)
    · exact Ch.sI rfl rfl hC
    · rw [gI_sI]
      by_cases hbi : b = i
      · subst hbi; rw [if_pos ⟨rfl, rfl, rfl⟩]; unfold rM; rw [decide_eq_true hc]
      · rw [if_neg (fun q => hbi q.2.2)]; exact hI b (by omega)
    · exact Ch.sI rfl rfl hC
    · rw [gI_sI]
      by_cases hbi : b = i
      · subst hbi; rw [if_pos ⟨rfl, rfl, rfl⟩]; unfold rM; rw [decide_eq_false hc]
      · rw [if_neg (fun q => hbi q.2.2)]; exact hI b (by omega)
  · intro n H1 ⟨hC, hI⟩
    have hG := CG_ch h hC rfl
    obtain ⟨a1, a2, -⟩ := id hG
    rw [L_X3_allReached_2]
    simp (disch := omega) only [a1, nI_le_iff, if_pos]
    refine ok_b (x3_spread_a hG w hI) ?_
    rintro v H2 ⟨hC2, rfl⟩
    rw [gb_01]
    exact ok_s ⟨Ch.tr (fun _ q => q) rfl hC hC2, rfl⟩
theorem x3_allCanEnd {r : Nat} {G : Gr} {H : Hp} (h : CG r G H) (w : WG G) : ok (f_X3_allCanEnd r H) (fun v H' => Ch TT [(2, 17, none)] H H' ∧ v = bI (allB (spi (qT G) (qF G) (qE G) (eM G) (qB G)) (qB G))) := by
  have hE := w.2.1
  have hB := w.1
  unfold f_X3_allCanEnd
  refine ok_g1 (qB G) (fun i H' => Ch TT [(2, 17, none)] H H' ∧ ∀ b, b < i → gI H' (r + 2) 17 b = bI (eM G b)) ?_ ?_ rfl ⟨Ch.rf H, fun b hb => absurd hb (Nat.not_lt_zero _)⟩ (FUgt (by omega))
  · intro i n H1 hi ⟨hC, hI⟩ K1
    have hG := CG_ch h hC rfl
    obtain ⟨a1, a2, -⟩ := id hG
    rw [L_X3_allCanEnd_2]
    simp (disch := omega) only [a1, nI_le_iff, if_neg, gd_nI, nI_clamp, vl, l1, nIadd, hl, x3_ends hG w hi, bnd_s, b_nar]
    refine K1 _ ⟨?_, fun b hb => ?_⟩
    · exact Ch.sI rfl rfl hC
    · rw [gI_sI]
      by_cases hbi : b = i
      · subst hbi; rw [if_pos ⟨rfl, rfl, rfl⟩]; rfl
      · rw [if_neg (fun q => hbi q.2.2)]; exact hI b (by omega)
  · intro n H1 ⟨hC, hI⟩
    have hG := CG_ch h hC rfl
    obtain ⟨a1, a2, -⟩ := id hG
    rw [L_X3_allCanEnd_2]
    simp (disch := omega) only [a1, nI_le_iff, if_pos]
    refine ok_b (x3_spread_b hG w hI) ?_
    rintro v H2 ⟨hC2, rfl⟩
    rw [gb_01]
    exact ok_s ⟨Ch.tr (fun _ q => q) rfl hC hC2, rfl⟩
/-- whether a block has as many edges out as its kind wants -/
def oG (G : Gr) (b : Nat) : Bool := if qK G b = 1 then decide (2 ≤ oN G b (qE G)) else if 3 ≤ qK G b then decide (oN G b (qE G) = 0) else decide (oN G b (qE G) = 1)
theorem x3_outsFit {r : Nat} {G : Gr} {H : Hp} (h : CG r G H) (w : WG G) : f_X3_outsFitKinds r H = some (bI (allB (oG G) (qB G)), H) := by
  have hE := w.2.1
  have hB := w.1
  obtain ⟨a1, a2, a3, a4, a5, -⟩ := id h
  suffices hs : ok (f_X3_outsFitKinds r H) (fun v H' => v = bI (allB (oG G) (qB G)) ∧ H' = H) by
    obtain ⟨v, H', e, rfl, rfl⟩ := hs
    exact e
  unfold f_X3_outsFitKinds
  refine ok_g1 (qB G) (fun p H' => H' = H ∧ ∀ b, b < p → oG G b = true) ?_ ?_ rfl ⟨rfl, fun b hb => absurd hb (Nat.not_lt_zero _)⟩ (FUgt (by omega))
  · rintro p n H2 hp ⟨rfl, hI2⟩ K2
    have ho := w.2.2.2.2.1 p hp
    have hk := w.2.2.1 p hp
    have yes : oG G p = true → ∀ b, b < p + 1 → oG G b = true := by
      intro q b hb
      by_cases hbp : b = p
      · subst hbp; exact q
      · exact hI2 b (by omega)
    rw [L_X3_outsFitKinds_2]
    by_cases k3 : 3 ≤ qK G p
    · have d3 : decide (3 ≤ qK G p) = true := decide_eq_true k3
      simp (disch := omega) only [a1, nI_le_iff, if_neg, x3_ends h w hp, bnd_s, gd_nI, nI_clamp, a3, a5, jn, l0, l1, l2, l4, b_eq0, nI_inj, vl, nIadd, d3, Bool.true_eq_false, if_false, nI_lt_iff]
      refine ok_if (fun hc => K2 _ ⟨rfl, yes ?_⟩) (fun hc => ok_s ⟨?_, rfl⟩)
      · unfold oG; rw [if_neg (by omega), if_pos k3, decide_eq_true (by omega)]
      · rw [allB_f hp (by unfold oG; rw [if_neg (by omega), if_pos k3, decide_eq_false (by omega)])]; rfl
    · have d3 : decide (3 ≤ qK G p) = false := decide_eq_false k3
      have e3 := x3_ends h w hp
      rw [d3] at e3
      by_cases k1 : qK G p = 1
      · simp (disch := omega) only [a1, nI_le_iff, if_neg, e3, bnd_s, gd_nI, nI_clamp, a3, a5, jn, l0, l1, l2, l4, b_eq0, nI_inj, vl, nIadd, if_true, nI_lt_iff, k1, if_pos]
        refine ok_if (fun hc => ok_s ⟨?_, rfl⟩) (fun hc => K2 _ ⟨rfl, yes ?_⟩)
        · rw [allB_f hp (by unfold oG; rw [if_pos k1, decide_eq_false (by omega)])]; rfl
        · unfold oG; rw [if_pos k1, decide_eq_true (by omega)]
      · simp (disch := omega) only [a1, nI_le_iff, if_neg, e3, bnd_s, gd_nI, nI_clamp, a3, a5, jn, l0, l1, l2, l4, b_eq0, nI_inj, vl, nIadd, if_true, nI_lt_iff, if_neg k1]
        refine ok_if (fun hc => ok_s ⟨?_, rfl⟩) (fun hc => ok_if (fun hd => K2 _ ⟨rfl, yes ?_⟩) (fun hd => ok_s ⟨?_, rfl⟩))
        · rw [allB_f hp (by unfold oG; rw [if_neg k1, if_neg k3, decide_eq_false (by omega)])]; rfl
        · unfold oG; rw [if_neg k1, if_neg k3, decide_eq_true (by omega)]
        · rw [allB_f hp (by unfold oG; rw [if_neg k1, if_neg k3, decide_eq_false (by omega)])]; rfl
  · rintro n H2 ⟨rfl, hI2⟩
    rw [L_X3_outsFitKinds_2]
    simp (disch := omega) only [a1, nI_le_iff, if_pos]
    refine ok_s ⟨?_, rfl⟩
    rw [allB_iff.mpr hI2]; rfl
/-- the first of the faults 1 to 4 -/
def ff4 (G : Gr) : Nat := if qB G = 0 then 1 else if allB (oG G) (qB G) = false then 2 else if allB (spi (qF G) (qT G) (qE G) rM (qB G)) (qB G) = false then 3 else if allB (spi (qT G) (qF G) (qE G) (eM G) (qB G)) (qB G) = false then 4 else 0
theorem x3_firstFault {r : Nat} {G : Gr} {H : Hp} (h : CG r G H) (w : WG G) : ok (f_X3_firstFault r H) (fun v H' => Ch TT [(2, 17, none)] H H' ∧ v = nI (ff4 G)) := by
  have hE := w.2.1
  have hB := w.1
  obtain ⟨a1, -⟩ := id h
  unfold f_X3_firstFault ff4
  simp (disch := omega) only [a1, l0, nI_inj, x3_outsFit h w, bnd_s, b_eq0]
  refine ok_if (fun hc => ?_) (fun hc => ?_)
  · rw [if_pos hc]; exact ok_s ⟨Ch.rf H, rfl⟩
  · rw [if_neg hc]
    refine ok_if (fun hd => ?_) (fun hd => ?_)
    · rw [if_pos hd]; exact ok_s ⟨Ch.rf H, rfl⟩
    · rw [if_neg hd]
      refine ok_b (x3_allReached h w) ?_
      rintro v H1 ⟨hC1, rfl⟩
      simp only [b_eq0]
      refine ok_if (fun he => ?_) (fun he => ?_)
      · rw [if_pos he]; exact ok_s ⟨hC1, rfl⟩
      · rw [if_neg he]
        refine ok_b (x3_allCanEnd (CG_ch h hC1 rfl) w) ?_
        rintro v H2 ⟨hC2, rfl⟩
        simp only [b_eq0]
        refine ok_if (fun hf => ?_) (fun hf => ?_)
        · rw [if_pos hf]; exact ok_s ⟨Ch.tr (fun _ q => q) rfl hC1 hC2, rfl⟩
        · rw [if_neg hf]; exact ok_s ⟨Ch.tr (fun _ q => q) rfl hC1 hC2, rfl⟩
