theorem nI_pred' {a : Nat} : nI (a + 1) = nI a + nI 1 := (nIadd a 1).symm
theorem RN_congr {r : Nat} {G : Gr} {n n' : Nat → Nat} {H : Hp} (w : WG G) (h : RN r G n H) (hn : ∀ b, b < qB G → n' b = n b) : RN r G n' H := by
  refine ⟨fun y hy => by rw [hn y hy]; exact h.1 y hy, fun y hy hz => by rw [hn y hy] at hz ⊢; exact h.2.1 y hy hz, fun e he hz => ?_⟩
  have wf := w.2.2.2.1 e he
  rw [hn _ wf.1] at hz
  rw [h.2.2 e he hz]
  congr 1
  apply sumF_congr
  intro f hf
  have wff := w.2.2.2.1 f (by omega)
  unfold bey
  rw [hn _ wff.2.1]
theorem nzc_congr {G : Gr} {n n' : Nat → Nat} (hn : ∀ b, b < qB G → n' b = n b) : nzc G n' = nzc G n := cntP_congr (fun i hi => by rw [hn i hi])
theorem cntP_one {P Q : Nat → Bool} {n x : Nat} (hx : x < n) (h1 : P x = false) (h2 : Q x = true) (h : ∀ i, i < n → i ≠ x → P i = Q i) : cntP P n + 1 = cntP Q n := by
  induction n with
  | zero => exact absurd hx (Nat.not_lt_zero _)
  | succ n ih =>
    rw [cntP_s, cntP_s]
    by_cases q : x = n
    · subst q
      rw [cntP_congr (fun i hi => h i (by omega) (by omega)), if_neg (by rw [h1]; decide), if_pos h2]
    · rw [h n (by omega) (fun z => q z.symm), ← ih (by omega) (fun i hi => h i (by omega))]
      omega
theorem nzc_up {G : Gr} {n : Nat → Nat} {x : Nat} (hx : x < qB G) (h0 : psn G n x x = 0) (h1 : cf G (psn G n x) x ≠ 0) : nzc G (psn G n x) + 1 = nzc G (psn G n (x + 1)) := by
  refine cntP_one hx ?_ ?_ (fun i hi q => ?_)
  · rw [h0]; rfl
  · apply decide_eq_true; rw [psn_s, if_pos rfl]; exact h1
  · rw [psn_s, if_neg q]
theorem inL_35 {k i : Nat} (h : k ≠ 35) : inL [(0, 35, none)] 0 k i = false := by
  cases e : inL [(0, 35, none)] 0 k i with
  | false => rfl
  | true =>
    obtain ⟨q, hq, h1, h2, -⟩ := inL_iff.mp e
    simp at hq
    subst hq
    exact absurd h2.symm h
theorem x9_count_34 {r p : Nat} {G : Gr} {H : Hp} {k : Int32 → Int32 → Hp → Option (Int32 × Hp)} {Q : Int32 → Hp → Prop} (h : MG r G H) (w : WG G) (hr : r < 8) (hO : ∀ b, b < qB G → oG G b = true) (hN : RN r G (npi G p) H) (K : ∀ mo H', Cr r [(0, 15, none), (0, 17, none), (0, 35, none)] H H' → RN r G (npi G (p + 1)) H' → (mo = false → ∀ b, b < qB G → npi G (p + 1) b = npi G p b) → (mo = true → nzc G (npi G p) < nzc G (npi G (p + 1))) → ok (k (nI (nzc G (npi G (p + 1)))) (bI mo) H') Q) : ok (L_X9_count_34 (nI r) k FU (nI (nzc G (npi G p))) (nI 0) (nI 0) H) Q := by
  have hB := w.1
  have hE := w.2.1
  refine ok_g3 (qB G) (fun x a c H' => a = nI (nzc G (psn G (npi G p) x)) ∧ ∃ mo, c = bI mo ∧ Cr r [(0, 15, none), (0, 17, none), (0, 35, none)] H H' ∧ RN r G (psn G (npi G p) x) H' ∧ (mo = false → ∀ b, b < qB G → psn G (npi G p) x b = npi G p b) ∧ (mo = true → nzc G (npi G p) < nzc G (psn G (npi G p) x))) ?_ ?_ rfl ⟨rfl, false, rfl, Cr.rf H, hN, fun _ _ _ => rfl, fun z => by cases z⟩ (FUgt (by omega))
  · rintro x m a c H1 hx ⟨rfl, mo, rfl, hC, hRN, h0, h1⟩ K1
    have hG1 := MG_ch h hC.1 rfl
    obtain ⟨a1, a2, a3, -⟩ := id hG1
    obtain ⟨hcon, hext⟩ := psn_ext w (npi_con w p) x (by omega)
    obtain ⟨hcon1, hext1⟩ := psn_ext w (npi_con w p) (x + 1) (by omega)
    have hk := w.2.2.1 x hx
    have same : (cf G (psn G (npi G p) x) x = psn G (npi G p) x x) → ∀ H2, Cr r [(0, 15, none), (0, 17, none), (0, 35, none)] H H2 → RN r G (psn G (npi G p) x) H2 → ok (L_X9_count_34 (nI r) k m (nI (nzc G (psn G (npi G p) x))) (bI mo) (nI (x + 1)) H2) Q := by
      intro he H2 hC2 hR2
      have hsame : ∀ b, b < qB G → psn G (npi G p) (x + 1) b = psn G (npi G p) x b := by
        intro b hb
        rw [psn_s]
        by_cases q : b = x
        · rw [if_pos q, q]; exact he
        · rw [if_neg q]
      refine K1 _ _ _ ⟨by rw [nzc_congr hsame], mo, rfl, hC2, RN_congr w hR2 hsame, fun z b hb => by rw [hsame b hb]; exact h0 z b hb, fun z => by rw [nzc_congr hsame]; exact h1 z⟩
    rw [L_X9_count_34]
    by_cases hz : psn G (npi G p) x x = 0
    · have s35 : gI H1 0 35 x = bI false := by rw [hRN.1 x hx, hz]; rfl
      simp (disch := omega) only [gd_nI, nI_clamp, a1, nI_le_iff, if_neg, s35, l0, b_eq0, if_true, l40, nImul, vl]
      refine x9_count_70 hG1 w hr hx hRN (fun y H2 hC2 hI2 hR2 => ?_)
      have hG2 := MG_ch hG1 hC2.1 rfl
      have hC2' : Cr r [(0, 15, none), (0, 17, none), (0, 35, none)] H H2 := Cr.tr rfl hC hC2
      have hRN2 : RN r G (psn G (npi G p) x) H2 := by
        refine ⟨fun y hy => by rw [hC2.1.gi _ _ _ rfl]; exact hRN.1 y hy, fun y hy hz => by rw [hC2.1.gj _ _ _ rfl]; exact hRN.2.1 y hy hz, fun e he hz2 => ?_⟩
        rw [hI2 e he (fun q => by rw [q] at hz2; exact hz2 hz)]
        exact hRN.2.2 e he hz2
      by_cases hrd : rdy G (psn G (npi G p) x) x (qE G) = true
      · obtain ⟨rfl, hA2⟩ := hR2 hrd
        have hcp := cf_pos hO hx hrd
        have hcv : ∃ v, v = cf G (psn G (npi G p) x) x ∧ v ≠ 0 := ⟨_, rfl, hcp⟩
        obtain ⟨v, hv, hv0⟩ := hcv
        have hlt : nzc G (psn G (npi G p) x) + 1 = nzc G (psn G (npi G p) (x + 1)) := nzc_up hx hz (by rw [← hv]; exact hv0)
        have hle : nzc G (npi G p) ≤ nzc G (psn G (npi G p) x) := cntP_inc (fun i hi q => by
          have q1 : npi G p i ≠ 0 := of_decide_eq_true q
          exact decide_eq_true (by rw [hext i hi q1]; exact q1))
        have main : ok (L_X9_count_34 (nI r) k m (nI (nzc G (psn G (npi G p) x) + 1)) (nI 1) (nI (x + 1)) (sI (sJ H2 0 15 (20 * r + x) (lN v)) 0 35 x (bI true))) Q := by
          refine K1 _ _ _ ⟨by rw [hlt], true, rfl, ?_, ⟨fun y hy => ?_, fun y hy hy0 => ?_, fun e he hy0 => ?_⟩, fun z => Bool.noConfusion z, fun _ => by omega⟩
          · exact Cr.sI rfl trivial (Cr.sJ rfl (o20 (by omega)) hC2')
          · rw [gI_sI, psn_s]
            by_cases q : y = x
            · rw [if_pos ⟨rfl, rfl, q⟩, if_pos q, ← hv, decide_eq_false hv0]; rfl
            · rw [if_neg (fun z => q z.2.2), if_neg q, gI_sJ]; exact hRN2.1 y hy
          · rw [gJ_sI, gJ_sJ, psn_s]
            rw [psn_s] at hy0
            by_cases q : y = x
            · rw [if_pos ⟨rfl, rfl, by omega⟩, if_pos q, ← hv]
            · rw [if_neg q] at hy0
              rw [if_neg (by omega), if_neg q]; exact hRN2.2.1 y hy hy0
          · rw [gJ_sI, gJ_ne (by omega)]
            have hx1 : Ext G (psn G (npi G p) x) (psn G (npi G p) (x + 1)) := by
              intro y hy hn0
              rw [psn_s]
              by_cases q : y = x
              · rw [q] at hn0; exact absurd hz hn0
              · rw [if_neg q]
            by_cases q : qF G e = x
            · rw [q, hA2 e he q, adS_ext w hx1 hrd (by omega)]
            · rw [psn_s, if_neg q] at hy0
              rw [hRN2.2.2 e he hy0, adS_ext w hx1 (rdy_of hcon hO w he hy0) (by omega)]
        obtain ⟨c1, c2, c3, -⟩ := id hG2
        simp (disch := omega) only [hrd, b_eq0, Bool.true_eq_false, if_false, l20, nImul, nIadd, gd_nI, nI_clamp, c3, jn, l3, l4, nI_inj, hl, vl, l1, b_nar1, nIadd]
        by_cases k3 : 3 ≤ qK G x
        · have hv1 : v = 1 := by rw [hv]; unfold cf; rw [if_pos k3]
          rw [hv1] at main
          refine ok_if (fun _ => main) (fun q => ?_)
          rw [if_pos (by omega)]
          exact main
        · have hv1 : v = adS G (psn G (npi G p) x) x (qE G) := by rw [hv]; unfold cf; rw [if_neg k3, if_pos hrd]
          rw [hv1] at main
          rw [if_neg (by omega), if_neg (by omega)]
          exact main
      · have hrf : rdy G (psn G (npi G p) x) x (qE G) = false := by cases z : rdy G (psn G (npi G p) x) x (qE G) with | false => rfl | true => exact absurd z hrd
        simp (disch := omega) only [hrf, b_eq0, if_true, l1, nIadd]
        refine same ?_ H2 hC2' hRN2
        have k3 : ¬ 3 ≤ qK G x := fun q => hrd (cf_end hO w q)
        unfold cf
        rw [if_neg k3, if_neg hrd, hz]
    · have s35 : gI H1 0 35 x = bI true := by rw [hRN.1 x hx, decide_eq_false hz]; rfl
      simp (disch := omega) only [gd_nI, nI_clamp, a1, nI_le_iff, if_neg, s35, l0, b_eq0, Bool.true_eq_false, if_false, vl, l1, nIadd]
      exact same (hcon x hx hz) H1 hC hRN
  · rintro m a c H1 ⟨rfl, mo, rfl, hC, hRN, h0, h1⟩
    obtain ⟨a1, -⟩ := MG_ch h hC.1 rfl
    rw [L_X9_count_34]
    simp (disch := omega) only [gd_nI, nI_clamp, a1, nI_le_iff, if_pos]
    exact K mo _ hC hRN h0 h1
theorem x9_clear35 {r : Nat} {k : Hp → Option (Int32 × Hp)} {Q : Int32 → Hp → Prop} {H : Hp} (K : ∀ H', Ch TT [(0, 35, none)] H H' → (∀ y, y < 21 → gI H' 0 35 y = bI false) → ok (k H') Q) : ok (L_X9_count_2 (nI r) k FU 0 H) Q := by
  refine ok_g1 21 (fun x H' => Ch TT [(0, 35, none)] H H' ∧ ∀ y, y < x → gI H' 0 35 y = bI false) ?_ ?_ rfl ⟨Ch.rf H, fun b hb => absurd hb (Nat.not_lt_zero _)⟩ (FUgt (by omega))
  · intro x n H1 hx ⟨hC, hI⟩ K1
    rw [L_X9_count_2]
    simp (disch := omega) only [l21, nI_le_iff, if_neg, gd_nI, nI_clamp, hl, vl, l0, l1, nIadd, b_nar0]
    refine K1 _ ⟨?_, fun b hb => ?_⟩
    · exact Ch.sI rfl rfl hC
    · rw [gI_sI]
      by_cases q : b = x
      · rw [if_pos ⟨rfl, rfl, q⟩]
      · rw [if_neg (fun z => q z.2.2)]; exact hI b (by omega)
  · intro n H1 ⟨hC, hI⟩
    rw [L_X9_count_2]
    simp (disch := omega) only [l21, nI_le_iff, if_pos]
    exact K _ hC hI
theorem nzc_all {G : Gr} {n : Nat → Nat} : nzc G n = qB G ↔ allB (fun b => !(decide (n b = 0))) (qB G) = true := by
  unfold nzc
  have e : ∀ i, decide (n i ≠ 0) = !(decide (n i = 0)) := fun i => by by_cases q : n i = 0 <;> simp [q]
  constructor
  · intro h
    rw [allB_iff]
    intro i hi
    have := cntP_all h i hi
    rw [e] at this
    exact this
  · intro h
    rw [allB_iff] at h
    have h1 : cntP (fun x => decide (n x ≠ 0)) (qB G) = cntP (fun _ => true) (qB G) := cntP_congr (fun i hi => by rw [e, h i hi])
    rw [h1]
    clear h1 h
    induction qB G with
    | zero => rfl
    | succ m ih => rw [cntP_s, ih]; rfl
theorem x9_count {r : Nat} {G : Gr} {H : Hp} (h : MG r G H) (w : WG G) (hr : r < 8) (hO : ∀ b, b < qB G → oG G b = true) : ok (f_X9_count (nI r) H) (fun v H' => v = bI (nzB G) ∧ Cr r [(0, 15, none), (0, 17, none), (0, 35, none)] H H' ∧ (nzB G = true → (∀ b, b < qB G → gJ H' 0 15 (20 * r + b) = lN (nW G b)) ∧ ∀ e, e < qE G → gJ H' 0 17 (40 * r + e) = lN (aD G e))) := by
  have hB := w.1
  have hE := w.2.1
  unfold f_X9_count
  refine x9_clear35 (fun H1 hC1 hI1 => ?_)
  have hCr : Cr r [(0, 15, none), (0, 17, none), (0, 35, none)] H H1 := ⟨Ch.tr (fun _ q => q) rfl (Ch.rf H) hC1, Rs.ch hC1 (fun k hk _ i => inL_35 (by omega))⟩
  have hz0 : nzc G (npi G 0) = 0 := by
    have : ∀ m, cntP (fun x => decide (npi G 0 x ≠ 0)) m = 0 := by
      intro m
      induction m with
      | zero => rfl
      | succ m ih => rw [cntP_s, ih]; rfl
    exact this _
  have hRN : RN r G (npi G 0) H1 := ⟨fun y hy => by rw [hI1 y (by omega)]; rfl, fun y hy hz => absurd rfl hz, fun e he hz => absurd rfl hz⟩
  refine ok_w2 (fun d a c H' => ∃ p mo, a = nI (nzc G (npi G p)) ∧ c = bI mo ∧ Cr r [(0, 15, none), (0, 17, none), (0, 35, none)] H H' ∧ RN r G (npi G p) H' ∧ (mo = false → ∀ b, b < qB G → npi G (p + 1) b = npi G p b) ∧ d = 2 * (20 - nzc G (npi G p)) + (if mo = true then 1 else 0)) ?_ (d := 2 * (20 - nzc G (npi G 0)) + 1) ⟨0, true, by rw [hz0]; rfl, rfl, hCr, hRN, (fun z => by cases z), rfl⟩ (FUgt (by omega))
  rintro d m a c H2 ⟨p, mo, rfl, rfl, hC2, hRN2, hf, rfl⟩ K1
  have hG2 := MG_ch h hC2.1 rfl
  have hzl : nzc G (npi G p) ≤ 20 := Nat.le_trans (cntP_le _ _) hB
  rw [L_X9_count_25]
  cases mo with
  | false =>
    have hnW := npi_un w (hf rfl)
    simp (disch := omega) only [l0, b_eq0, if_true, gd_nI, nI_clamp, hG2.1, nI_inj]
    have hnz : nzB G = allB (fun b => !(decide (npi G p b = 0))) (qB G) := allB_congr (fun b hb => by rw [hnW b hb])
    have post : nzB G = true → (∀ b, b < qB G → gJ H2 0 15 (20 * r + b) = lN (nW G b)) ∧ ∀ e, e < qE G → gJ H2 0 17 (40 * r + e) = lN (aD G e) := by
      intro q
      rw [hnz, allB_iff] at q
      have q0 : ∀ b, b < qB G → npi G p b ≠ 0 := fun b hb z => by have := q b hb; rw [z] at this; cases this
      refine ⟨fun b hb => by rw [hRN2.2.1 b hb (q0 b hb), hnW b hb], fun e he => ?_⟩
      rw [hRN2.2.2 e he (q0 _ (w.2.2.2.1 e he).1)]
      unfold aD
      congr 1
      apply sumF_congr
      intro f hf'
      have wff := w.2.2.2.1 f (by omega)
      unfold bey
      rw [hnW _ wff.2.1]
    refine ok_if (fun hc => ok_s ⟨?_, hC2, post⟩) (fun hc => ok_s ⟨?_, hC2, post⟩)
    · rw [hnz, nzc_all.mp hc]; rfl
    · rw [hnz]
      cases z : allB (fun b => !(decide (npi G p b = 0))) (qB G) with
      | false => rfl
      | true => exact absurd (nzc_all.mpr z) hc
  | true =>
    simp (disch := omega) only [l0, b_eq0, Bool.true_eq_false, if_false]
    refine x9_count_34 hG2 w hr hO hRN2 (fun mo H3 hC3 hRN3 g0 g1 => ?_)
    have hle : nzc G (npi G p) ≤ nzc G (npi G (p + 1)) := cntP_inc (fun i hi q => by
      have q1 : npi G p i ≠ 0 := of_decide_eq_true q
      exact decide_eq_true (by rw [npi_ext w p i hi q1]; exact q1))
    have hzl3 : nzc G (npi G (p + 1)) ≤ 20 := Nat.le_trans (cntP_le _ _) hB
    cases mo with
    | false => exact K1 _ _ _ _ (by simp only [if_pos, Bool.false_eq_true, if_false]; omega) ⟨p + 1, false, rfl, rfl, Cr.tr rfl hC2 hC3, hRN3, fun _ => psn_congr w (g0 rfl) _ (Nat.le_refl _), rfl⟩
    | true =>
      have := g1 rfl
      exact K1 _ _ _ _ (by simp only [if_pos]; omega) ⟨p + 1, true, rfl, rfl, Cr.tr rfl hC2 hC3, hRN3, (fun q => by cases q), rfl⟩
