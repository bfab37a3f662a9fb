theorem cntF_P {f : Nat → Int32} {F : Nat → Nat} {b n : Nat} (h : ∀ e, e < n → f e = nI (F e)) (hF : ∀ e, e < n → F e < 2 ^ 31) (hb : b < 2 ^ 31) : cntF f (nI b) n = cntP (fun e => decide (F e = b)) n := by
  induction n with
  | zero => rfl
  | succ n ih =>
    rw [cntP_s]
    show cntF f (nI b) n + (if f n = nI b then 1 else 0) = _
    rw [ih (fun e he => h e (by omega)) (fun e he => hF e (by omega)), h n (by omega)]
    simp only [nI_inj (hF n (by omega)) hb, decide_eq_true_eq]
theorem m_outs {r b : Nat} {G : Gr} {H : Hp} (h : MG r G H) (w : WG G) (hr : r < 8) (hb : b < 2 ^ 31) : f_X9_outs (nI r) (nI b) H = some (nI (oN G b (qE G)), H) := by
  rw [x9_outs hr h.2.1 w.2.1, cntF_P h.2.2.2.2.1 (fun e he => by have := (w.2.2.2.1 e he).1; have := w.1; omega) hb]
  rfl
theorem m_ins {r b : Nat} {G : Gr} {H : Hp} (h : MG r G H) (w : WG G) (hr : r < 8) (hb : b < 2 ^ 31) : f_X9_ins (nI r) (nI b) H = some (nI (iN G b (qE G)), H) := by
  rw [x9_ins hr h.2.1 w.2.1, cntF_P h.2.2.2.2.2.1 (fun e he => by have := (w.2.2.2.1 e he).2.1; have := w.1; omega) hb]
  rfl
theorem sp_up {g t : Nat → Nat} {M : Nat → Bool} {e b : Nat} (h : sp g t M e b = true) : sp g t M (e + 1) b = true := by
  rw [sp_s]
  split
  · rfl
  · exact h
theorem x9_pass_a {r : Nat} {G : Gr} {H : Hp} {k : Int32 → Hp → Option (Unit × Hp)} {Q : Unit → Hp → Prop} {M : Nat → Bool} (h : MG r G H) (w : WG G) (hr : r < 8) (hM : ∀ b, b < 21 → gI H 0 35 b = bI (M b)) (K : ∀ mo H', Ch TT [(0, 35, none)] H H' → (∀ b, b < 21 → gI H' 0 35 b = bI (sp (qF G) (qT G) M (qE G) b)) → (mo = false → ∀ b, b < qB G → sp (qF G) (qT G) M (qE G) b = M b) → (mo = true → ∃ b, b < qB G ∧ M b = false ∧ sp (qF G) (qT G) M (qE G) b = true) → ok (k (bI mo) H') Q) : ok (L_X9_reach_14 (nI r) (nI 1) k FU (nI 0) (nI (40 * r)) H) Q := by
  have hE := w.2.1
  have hB := w.1
  refine ok_f2 (40 * r) (qE G) (fun e x H' => ∃ mo, x = bI mo ∧ Ch TT [(0, 35, none)] H H' ∧ (∀ b, b < 21 → gI H' 0 35 b = bI (sp (qF G) (qT G) M e b)) ∧ (mo = false → ∀ b, b < qB G → sp (qF G) (qT G) M e b = M b) ∧ (mo = true → ∃ b, b < qB G ∧ M b = false ∧ sp (qF G) (qT G) M e b = true)) ?_ ?_ rfl ⟨false, rfl, Ch.rf H, hM, fun _ _ _ => rfl, fun q => by cases q⟩ (FUgt (by omega))
  · rintro e n x H1 he ⟨mo, rfl, hC, hI, h0, h1⟩ K1
    obtain ⟨a1, a2, -, -, a5, a6, -, -⟩ := MG_ch h hC rfl
    have wf := w.2.2.2.1 e he
    rw [L_X9_reach_14]
    simp (disch := omega) only [l40, nImul, nIadd, a2, gd_nI, nI_clamp, nI_le_iff, if_neg, jn, l0, l1, nI_inj, a5, a6, hI, b_eq0, vl, hl, b_nar1, if_true]
    refine ok_if (fun hc => K1 _ _ ⟨mo, rfl, hC, fun b hb => ?_, fun q b hb => ?_, fun q => ?_⟩) (fun hc => ok_if (fun hd => K1 _ _ ⟨true, rfl, ?_, fun b hb => ?_, fun q => ?_, fun q => ?_⟩) (fun hd => K1 _ _ ⟨mo, rfl, hC, fun b hb => ?_, fun q b hb => ?_, fun q => ?_⟩))
    · rw [hI b hb, sp_s, if_neg (fun q => bf_ne hc q.1)]
    · rw [sp_s, if_neg (fun q => bf_ne hc q.1)]; exact h0 q b hb
    · obtain ⟨b, u1, u2, u3⟩ := h1 q
      exact ⟨b, u1, u2, sp_up u3⟩
    · exact Ch.sI rfl rfl hC
    · rw [gI_sI, sp_s]
      by_cases hbt : b = qT G e
      · rw [if_pos ⟨rfl, rfl, hbt⟩, if_pos ⟨bt_of hc, hbt⟩]
      · rw [if_neg (fun q => hbt q.2.2), if_neg (fun q => hbt q.2), hI b hb]
    · cases q
    · refine ⟨qT G e, by omega, ?_, ?_⟩
      · cases u : M (qT G e) with
        | false => rfl
        | true => exact absurd (sp_mono u e) (bf_ne hd)
      · rw [sp_s, if_pos ⟨bt_of hc, rfl⟩]
    · rw [hI b hb, sp_s]
      by_cases hbt : b = qT G e
      · rw [if_pos ⟨bt_of hc, hbt⟩, hbt, bt_of hd]
      · rw [if_neg (fun q => hbt q.2)]
    · rw [sp_s]
      by_cases hbt : b = qT G e
      · rw [if_pos ⟨bt_of hc, hbt⟩, hbt, ← h0 q _ (by omega), bt_of hd]
      · rw [if_neg (fun q => hbt q.2)]; exact h0 q b hb
    · obtain ⟨b, u1, u2, u3⟩ := h1 q
      exact ⟨b, u1, u2, sp_up u3⟩
  · rintro n x H1 ⟨mo, rfl, hC, hI, h0, h1⟩
    obtain ⟨a1, a2, -⟩ := MG_ch h hC rfl
    rw [L_X9_reach_14]
    simp (disch := omega) only [l40, nImul, nIadd, a2, gd_nI, nI_clamp, nI_le_iff, if_pos]
    exact K mo _ hC hI h0 h1
theorem x9_reach_a {r : Nat} {G : Gr} {H : Hp} {M : Nat → Bool} (h : MG r G H) (w : WG G) (hr : r < 8) (hM : ∀ b, b < 21 → gI H 0 35 b = bI (M b)) : ok (f_X9_reach (nI r) (nI 1) H) (fun _ H' => Ch TT [(0, 35, none)] H H' ∧ ∀ b, b < qB G → gI H' 0 35 b = bI (spi (qF G) (qT G) (qE G) M (qB G) b)) := by
  have hE := w.2.1
  have hB := w.1
  have hg : ∀ e, e < qE G → qF G e < qB G := fun e he => by have := w.2.2.2.1 e he; omega
  unfold f_X9_reach
  refine ok_w1 (fun d x H' => ∃ p mo, x = bI mo ∧ Ch TT [(0, 35, none)] H H' ∧ (∀ b, b < 21 → gI H' 0 35 b = bI (spi (qF G) (qT G) (qE G) M p b)) ∧ (mo = false → ∀ b, b < qB G → sp (qF G) (qT G) (spi (qF G) (qT G) (qE G) M p) (qE G) b = spi (qF G) (qT G) (qE G) M p b) ∧ d = 2 * (20 - cntP (spi (qF G) (qT G) (qE G) M p) (qB G)) + (if mo = true then 1 else 0)) ?_ (d := 2 * (20 - cntP M (qB G)) + 1) ⟨0, true, rfl, Ch.rf H, hM, (fun q => by cases q), rfl⟩ (FUgt (by omega))
  rintro d n x H1 ⟨p, mo, rfl, hC, hI, hf, rfl⟩ K1
  rw [L_X9_reach_2]
  simp (disch := omega) only [l40, nImul, l0, b_eq0, vl]
  cases mo with
  | false =>
    rw [if_pos rfl]
    exact ok_s ⟨hC, fun b hb => by rw [hI b (by omega), spi_un hg (hf rfl) b hb]⟩
  | true =>
    rw [if_neg (by decide)]
    refine x9_pass_a (MG_ch h hC rfl) w hr hI (fun mo H2 hC2 hI2 g0 g1 => ?_)
    have c1 := cntP_le (spi (qF G) (qT G) (qE G) M p) (qB G)
    have c2 := cntP_le (spi (qF G) (qT G) (qE G) M (p + 1)) (qB G)
    have c3 : cntP (spi (qF G) (qT G) (qE G) M p) (qB G) ≤ cntP (spi (qF G) (qT G) (qE G) M (p + 1)) (qB G) := cntP_inc (fun i _ q => spi_mono p i q)
    cases mo with
    | false => exact K1 _ _ _ (by simp only [if_pos, Bool.false_eq_true, if_false]; omega) ⟨p + 1, false, rfl, Ch.tr (fun _ q => q) rfl hC hC2, hI2, fun _ => sp_congr hg (fun b hb => g0 rfl b hb) _ (Nat.le_refl _), rfl⟩
    | true =>
      obtain ⟨b, u1, u2, u3⟩ := g1 rfl
      have c4 : cntP (spi (qF G) (qT G) (qE G) M p) (qB G) < cntP (spi (qF G) (qT G) (qE G) M (p + 1)) (qB G) := cntP_inc_lt (fun i _ q => spi_mono p i q) u1 u2 u3
      exact K1 _ _ _ (by simp only [if_pos]; omega) ⟨p + 1, true, rfl, Ch.tr (fun _ q => q) rfl hC hC2, hI2, (fun q => by cases q), rfl⟩
theorem x9_pass_b {r : Nat} {G : Gr} {H : Hp} {k : Int32 → Hp → Option (Unit × Hp)} {Q : Unit → Hp → Prop} {M : Nat → Bool} (h : MG r G H) (w : WG G) (hr : r < 8) (hM : ∀ b, b < 21 → gI H 0 35 b = bI (M b)) (K : ∀ mo H', Ch TT [(0, 35, none)] H H' → (∀ b, b < 21 → gI H' 0 35 b = bI (sp (qT G) (qF G) M (qE G) b)) → (mo = false → ∀ b, b < qB G → sp (qT G) (qF G) M (qE G) b = M b) → (mo = true → ∃ b, b < qB G ∧ M b = false ∧ sp (qT G) (qF G) M (qE G) b = true) → ok (k (bI mo) H') Q) : ok (L_X9_reach_14 (nI r) (nI 0) k FU (nI 0) (nI (40 * r)) H) Q := by
  have hE := w.2.1
  have hB := w.1
  refine ok_f2 (40 * r) (qE G) (fun e x H' => ∃ mo, x = bI mo ∧ Ch TT [(0, 35, none)] H H' ∧ (∀ b, b < 21 → gI H' 0 35 b = bI (sp (qT G) (qF G) M e b)) ∧ (mo = false → ∀ b, b < qB G → sp (qT G) (qF G) M e b = M b) ∧ (mo = true → ∃ b, b < qB G ∧ M b = false ∧ sp (qT G) (qF G) M e b = true)) ?_ ?_ rfl ⟨false, rfl, Ch.rf H, hM, fun _ _ _ => rfl, fun q => by cases q⟩ (FUgt (by omega))
  · rintro e n x H1 he ⟨mo, rfl, hC, hI, h0, h1⟩ K1
    obtain ⟨a1, a2, -, -, a5, a6, -, -⟩ := MG_ch h hC rfl
    have wf := w.2.2.2.1 e he
    rw [L_X9_reach_14]
    simp (disch := omega) only [l40, nImul, nIadd, a2, gd_nI, nI_clamp, nI_le_iff, if_neg, jn, l0, l1, nI_inj, a5, a6, hI, b_eq0, vl, hl, b_nar1, if_true]
    refine ok_if (fun hc => K1 _ _ ⟨mo, rfl, hC, fun b hb => ?_, fun q b hb => ?_, fun q => ?_⟩) (fun hc => ok_if (fun hd => K1 _ _ ⟨true, rfl, ?_, fun b hb => ?_, fun q => ?_, fun q => ?_⟩) (fun hd => K1 _ _ ⟨mo, rfl, hC, fun b hb => ?_, fun q b hb => ?_, fun q => ?_⟩))
    · rw [hI b hb, sp_s, if_neg (fun q => bf_ne hc q.1)]
    · rw [sp_s, if_neg (fun q => bf_ne hc q.1)]; exact h0 q b hb
    · obtain ⟨b, u1, u2, u3⟩ := h1 q
      exact ⟨b, u1, u2, sp_up u3⟩
    · exact Ch.sI rfl rfl hC
    · rw [gI_sI, sp_s]
      by_cases hbt : b = qF G e
      · rw [if_pos ⟨rfl, rfl, hbt⟩, if_pos ⟨bt_of hc, hbt⟩]
      · rw [if_neg (fun q => hbt q.2.2), if_neg (fun q => hbt q.2), hI b hb]
    · cases q
    · refine ⟨qF G e, by omega, ?_, ?_⟩
      · cases u : M (qF G e) with
        | false => rfl
        | true => exact absurd (sp_mono u e) (bf_ne hd)
      · rw [sp_s, if_pos ⟨bt_of hc, rfl⟩]
    · rw [hI b hb, sp_s]
      by_cases hbt : b = qF G e
      · rw [if_pos ⟨bt_of hc, hbt⟩, hbt, bt_of hd]
      · rw [if_neg (fun q => hbt q.2)]
    · rw [sp_s]
      by_cases hbt : b = qF G e
      · rw [if_pos ⟨bt_of hc, hbt⟩, hbt, ← h0 q _ (by omega), bt_of hd]
      · rw [if_neg (fun q => hbt q.2)]; exact h0 q b hb
    · obtain ⟨b, u1, u2, u3⟩ := h1 q
      exact ⟨b, u1, u2, sp_up u3⟩
  · rintro n x H1 ⟨mo, rfl, hC, hI, h0, h1⟩
    obtain ⟨a1, a2, -⟩ := MG_ch h hC rfl
    rw [L_X9_reach_14]
    simp (disch := omega) only [l40, nImul, nIadd, a2, gd_nI, nI_clamp, nI_le_iff, if_pos]
    exact K mo _ hC hI h0 h1
theorem x9_reach_b {r : Nat} {G : Gr} {H : Hp} {M : Nat → Bool} (h : MG r G H) (w : WG G) (hr : r < 8) (hM : ∀ b, b < 21 → gI H 0 35 b = bI (M b)) : ok (f_X9_reach (nI r) (nI 0) H) (fun _ H' => Ch TT [(0, 35, none)] H H' ∧ ∀ b, b < qB G → gI H' 0 35 b = bI (spi (qT G) (qF G) (qE G) M (qB G) b)) := by
  have hE := w.2.1
  have hB := w.1
  have hg : ∀ e, e < qE G → qT G e < qB G := fun e he => by have := w.2.2.2.1 e he; omega
  unfold f_X9_reach
  refine ok_w1 (fun d x H' => ∃ p mo, x = bI mo ∧ Ch TT [(0, 35, none)] H H' ∧ (∀ b, b < 21 → gI H' 0 35 b = bI (spi (qT G) (qF G) (qE G) M p b)) ∧ (mo = false → ∀ b, b < qB G → sp (qT G) (qF G) (spi (qT G) (qF G) (qE G) M p) (qE G) b = spi (qT G) (qF G) (qE G) M p b) ∧ d = 2 * (20 - cntP (spi (qT G) (qF G) (qE G) M p) (qB G)) + (if mo = true then 1 else 0)) ?_ (d := 2 * (20 - cntP M (qB G)) + 1) ⟨0, true, rfl, Ch.rf H, hM, (fun q => by cases q), rfl⟩ (FUgt (by omega))
  rintro d n x H1 ⟨p, mo, rfl, hC, hI, hf, rfl⟩ K1
  rw [L_X9_reach_2]
  simp (disch := omega) only [l40, nImul, l0, b_eq0, vl]
  cases mo with
  | false =>
    rw [if_pos rfl]
    exact ok_s ⟨hC, fun b hb => by rw [hI b (by omega), spi_un hg (hf rfl) b hb]⟩
  | true =>
    rw [if_neg (by decide)]
    refine x9_pass_b (MG_ch h hC rfl) w hr hI (fun mo H2 hC2 hI2 g0 g1 => ?_)
    have c1 := cntP_le (spi (qT G) (qF G) (qE G) M p) (qB G)
    have c2 := cntP_le (spi (qT G) (qF G) (qE G) M (p + 1)) (qB G)
    have c3 : cntP (spi (qT G) (qF G) (qE G) M p) (qB G) ≤ cntP (spi (qT G) (qF G) (qE G) M (p + 1)) (qB G) := cntP_inc (fun i _ q => spi_mono p i q)
    cases mo with
    | false => exact K1 _ _ _ (by simp only [if_pos, Bool.false_eq_true, if_false]; omega) ⟨p + 1, false, rfl, Ch.tr (fun _ q => q) rfl hC hC2, hI2, fun _ => sp_congr hg (fun b hb => g0 rfl b hb) _ (Nat.le_refl _), rfl⟩
    | true =>
      obtain ⟨b, u1, u2, u3⟩ := g1 rfl
      have c4 : cntP (spi (qT G) (qF G) (qE G) M p) (qB G) < cntP (spi (qT G) (qF G) (qE G) M (p + 1)) (qB G) := cntP_inc_lt (fun i _ q => spi_mono p i q) u1 u2 u3
      exact K1 _ _ _ (by simp only [if_pos]; omega) ⟨p + 1, true, rfl, Ch.tr (fun _ q => q) rfl hC hC2, hI2, (fun q => by cases q), rfl⟩
theorem x9_all {r : Nat} {G : Gr} {H : Hp} {M : Nat → Bool} (h : MG r G H) (w : WG G) (hr : r < 8) (hM : ∀ b, b < qB G → gI H 0 35 b = bI (M b)) : f_X9_all (nI r) H = some (bI (allB M (qB G)), H) := by
  have hB := w.1
  suffices hs : ok (f_X9_all (nI r) H) (fun v H' => v = bI (allB M (qB G)) ∧ H' = H) by
    obtain ⟨v, H', e, rfl, rfl⟩ := hs
    exact e
  unfold f_X9_all
  refine ok_g2 (qB G) (fun i x H' => x = bI (allB M i) ∧ H' = H) ?_ ?_ rfl ⟨rfl, rfl⟩ (FUgt (by omega))
  · rintro i n x H1 hi ⟨rfl, rfl⟩ K1
    rw [L_X9_all_4]
    simp (disch := omega) only [h.1, gd_nI, nI_clamp, nI_le_iff, if_neg, l0, l1, b_eq0, vl, nIadd, hM]
    refine ok_if (fun hc => K1 _ _ ⟨?_, rfl⟩) (fun hc => ok_if (fun hd => K1 _ _ ⟨?_, rfl⟩) (fun hd => K1 _ _ ⟨?_, rfl⟩))
    · show nI 0 = bI (allB M i && M i); rw [hc]; rfl
    · show nI 0 = bI (allB M i && M i); rw [hd, Bool.and_false]; rfl
    · show nI 1 = bI (allB M i && M i); rw [bt_of hc, bt_of hd]; rfl
  · rintro n x H1 ⟨rfl, rfl⟩
    rw [L_X9_all_4]
    simp (disch := omega) only [h.1, gd_nI, nI_clamp, nI_le_iff, if_pos, gb_01]
    exact ok_s ⟨rfl, rfl⟩
theorem x9_why_outs {r : Nat} {G : Gr} {H : Hp} {k : Hp → Option (Int32 × Hp)} {Q : Int32 → Hp → Prop} (h : MG r G H) (w : WG G) (hr : r < 8) (K0 : allB (oG G) (qB G) = false → Q 2 H) (K1 : allB (oG G) (qB G) = true → ok (k H) Q) : ok (L_X9_why_13 (nI r) k FU 0 H) Q := by
  have hE := w.2.1
  have hB := w.1
  obtain ⟨a1, a2, a3, -⟩ := id h
  refine ok_g1 (qB G) (fun p H' => H' = H ∧ ∀ b, b < p → oG G b = true) ?_ ?_ rfl ⟨rfl, fun b hb => absurd hb (Nat.not_lt_zero _)⟩ (FUgt (by omega))
  · rintro p n H2 hp ⟨rfl, hI2⟩ K2
    have ho := w.2.2.2.2.1 p hp
    have hk := w.2.2.1 p hp
    have yes : oG G p = true → ok (L_X9_why_13 (nI r) k n (nI (p + 1)) H2) Q := by
      intro q
      refine K2 _ ⟨rfl, fun b hb => ?_⟩
      by_cases hbp : b = p
      · subst hbp; exact q
      · exact hI2 b (by omega)
    have no : oG G p = false → ok (some (2, H2)) Q := fun q => ok_s (K0 (allB_f hp q))
    have f10 : ¬ nI 1 = nI 0 := by decide
    rw [L_X9_why_13]
    simp (disch := omega) only [l20, nImul, a1, gd_nI, nI_clamp, nI_le_iff, if_neg, m_outs h w hr, bnd_s, nIadd, vl, a3, l1, l0, l2, nI_inj, jn, if_neg f10, if_true]
    by_cases k1 : qK G p = 1
    · rw [if_pos k1]
      refine ok_if (fun hc => no ?_) (fun hc => yes ?_)
      · unfold oG; rw [if_pos k1, decide_eq_false (by omega)]
      · unfold oG; rw [if_pos k1, decide_eq_true (by omega)]
    · rw [if_neg k1]
      by_cases k3 : 3 ≤ qK G p
      · rw [if_neg (by omega), if_neg (by omega)]
        refine ok_if (fun hc => yes ?_) (fun hc => no ?_)
        · unfold oG; rw [if_neg k1, if_pos k3, decide_eq_true (by omega)]
        · unfold oG; rw [if_neg k1, if_pos k3, decide_eq_false (by omega)]
      · have hh : ok (if oN G p (qE G) = 1 then L_X9_why_13 (nI r) k n (nI (p + 1)) H2 else some (nI 2, H2)) Q := by
          refine ok_if (fun hc => yes ?_) (fun hc => no ?_)
          · unfold oG; rw [if_neg k1, if_neg k3, decide_eq_true (by omega)]
          · unfold oG; rw [if_neg k1, if_neg k3, decide_eq_false (by omega)]
        exact ok_if (fun _ => hh) (fun q => by rw [if_pos (by omega)]; exact hh)
  · rintro n H2 ⟨rfl, hI2⟩
    rw [L_X9_why_13]
    simp (disch := omega) only [a1, gd_nI, nI_clamp, nI_le_iff, if_pos]
    exact K1 (allB_iff.mpr hI2)
