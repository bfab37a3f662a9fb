/-- the class's plan: line and links up -/
def EL (G : Gr) (ln uL : Nat → Nat) : Prop := ln 0 = 20 ∧ (∀ k, k < qB G + 1 → nod G (ln k)) ∧ (∀ j k, j < qB G + 1 → k < qB G + 1 → ln j = ln k → j = k) ∧ (∀ x, nod G x → ∃ k, k < qB G + 1 ∧ ln k = x) ∧ (∀ k, 0 < k → k < qB G + 1 → tT G (uL (ln k)) ∧ ∃ j, j < k ∧ ends2 G (uL (ln k)) (ln k) (ln j))
def CUp (r : Nat) (G : Gr) (ln uL : Nat → Nat) (H : Hp) : Prop := gI H (r + 2) 3 9 = nI (qB G + 1) ∧ (∀ k, k < qB G + 1 → gI H (r + 2) 30 k = nI (nd G (ln k))) ∧ (∀ k, 0 < k → k < qB G + 1 → gI H (r + 2) 29 (nd G (ln k)) = nI (uL (ln k))) ∧ gI H (r + 2) 29 (qB G) = N1
theorem LU_end {r m : Nat} {G : Gr} {ln uL : Nat → Nat} {ld : Nat → Bool} {H : Hp} (w : WG G) (hb0 : 0 < qB G) (h3 : allB (spi (qF G) (qT G) (qE G) rM (qB G)) (qB G) = true) (h : LU r G m ln uL ld H) (hd : ∀ k, k < m → ∀ j, j < lk G → tb G j = true → doneF G ld (ln k) j) : EL G ln uL ∧ CUp r G ln uL H := by
  obtain ⟨a1, a2, a3, a4, a5, a6, a7, a8, a9, a10⟩ := h
  have all : ∀ x, nod G x → ld x = true := by
    intro x hx
    have h20 : ld 20 = true := (a7 20 (Or.inr rfl)).mpr ⟨0, a2, a3⟩
    have hR := tree_cn w h3 hx (fun a b => (nod G a ∧ ld a = true) ↔ (nod G b ∧ ld b = true)) (fun _ => Iff.rfl) (fun _ _ q => q.symm) (fun _ _ _ q q' => q.trans q') ?_
    · exact (hR.mp ⟨Or.inr rfl, h20⟩).2
    · intro l hl
      obtain ⟨l1, l2⟩ := tT_iff.mp hl
      have nf := lF_nod w l
      constructor
      · rintro ⟨q1, q2⟩
        obtain ⟨k, k1, k2⟩ := (a7 _ nf).mp q2
        exact ⟨lT_nod w hb0 l, (hd k k1 l l1 l2).1 k2.symm⟩
      · rintro ⟨q1, q2⟩
        obtain ⟨k, k1, k2⟩ := (a7 _ q1).mp q2
        exact ⟨nf, (hd k k1 l l1 l2).2 k2.symm⟩
  have hm : m = qB G + 1 := by
    rw [a8]
    have : cntP (fun c => ld (un G c)) (qB G + 1) = cntP (fun _ => true) (qB G + 1) := cntP_congr (fun c hc => all _ (nd_un w (by omega)).2)
    rw [this]
    generalize qB G + 1 = q
    induction q with
    | zero => rfl
    | succ q ih => rw [cntP_s, ih]; rfl
  subst hm
  exact ⟨⟨a3, fun k hk => (a4 k hk).1, a5, fun x hx => (a7 x hx).mp (all x hx), fun k k0 hk => (a9 k k0 hk).2⟩, a1, fun k hk => (a4 k hk).2, fun k k0 hk => (a9 k k0 hk).1, a10⟩
theorem x5_line_52 {r : Nat} {G : Gr} {H : Hp} {ln uL : Nat → Nat} {ld : Nat → Bool} (h : CL r G H) (w : WG G) (h0 : 0 < qB G) (h3 : allB (spi (qF G) (qT G) (qE G) rM (qB G)) (qB G) = true) (hW : ∀ j, j < lk G → gI H (r + 2) 27 j = bI (tb G j)) (hU : LU r G 1 ln uL ld H) : ok (L_X5_lineUpFromEnd_52 r (fun H27 => some ((), H27)) FU 0 H) (fun _ H' => Ch TT LLN H H' ∧ ∃ ln uL, EL G ln uL ∧ CUp r G ln uL H') := by
  have hB := w.1
  refine ok_w1 (fun d a H' => ∃ i m ln uL ld, a = nI i ∧ i ≤ m ∧ d = 21 - i ∧ Ch TT LLN H H' ∧ LU r G m ln uL ld H' ∧ ∀ k, k < i → ∀ j, j < lk G → tb G j = true → doneF G ld (ln k) j) ?_ (d := 21) ⟨0, 1, ln, uL, ld, rfl, by omega, rfl, Ch.rf H, hU, fun k hk => absurd hk (Nat.not_lt_zero _)⟩ (FUgt (by omega))
  rintro d n a H1 ⟨i, m, ln1, uL1, ld1, rfl, him, rfl, hC, hU1, hD⟩ K1
  have hm := LU_m w hU1
  have hW1 : ∀ j, j < lk G → gI H1 (r + 2) 27 j = bI (tb G j) := fun j hj => by rw [hC.gi _ _ _ rfl]; exact hW j hj
  rw [L_X5_lineUpFromEnd_52]
  by_cases q : m ≤ i
  · have : i = m := by omega
    subst this
    simp (disch := omega) only [hU1.1, nI_le_iff, if_pos]
    obtain ⟨e1, e2⟩ := LU_end w h0 h3 hU1 hD
    exact ok_s ⟨hC, ln1, uL1, e1, e2⟩
  · simp (disch := omega) only [hU1.1, l21, nI_le_iff, if_neg, vl, l1, nIadd]
    refine x5_line_68 (CL_ch h hC rfl) w h0 hW1 hU1 (show i < m by omega) (fun m2 ln2 uL2 ld2 H2 hC2 hU2 hm2 hln2 hld2 hdn2 => ?_)
    refine K1 (21 - (i + 1)) _ _ (by omega) ⟨i + 1, m2, ln2, uL2, ld2, rfl, by omega, rfl, Ch.tr (fun _ q => q) rfl hC hC2, hU2, fun k hk j hj ht => ?_⟩
    by_cases z : k = i
    · rw [z, hln2 i (by omega)]; exact hdn2 j hj ht
    · have := hD k (by omega) j hj ht
      rw [hln2 k (by omega)]
      exact ⟨fun u => hld2 _ (this.1 u), fun u => hld2 _ (this.2 u)⟩
theorem x5_line_2 {r : Nat} {G : Gr} {H : Hp} {k : Hp → Option (Unit × Hp)} {Q : Unit → Hp → Prop} (hb : gI H (r + 2) 1 10 = nI (qB G)) (w : WG G) (K : ∀ H', Ch TT LLN H H' → (∀ c, c ≤ qB G → gI H' (r + 2) 31 c = bI false) → ok (k H') Q) : ok (L_X5_lineUpFromEnd_2 r k FU 0 H) Q := by
  have hB := w.1
  refine ok_g1 (qB G + 1) (fun i H' => Ch TT LLN H H' ∧ ∀ c, c < i → gI H' (r + 2) 31 c = bI false) ?_ ?_ rfl ⟨Ch.rf H, fun c hc => absurd hc (Nat.not_lt_zero _)⟩ (FUgt (by omega))
  · rintro i n H1 hi ⟨hC, hI⟩ K1
    have a1 : gI H1 (r + 2) 1 10 = nI (qB G) := by rw [hC.gi _ _ _ rfl]; exact hb
    rw [L_X5_lineUpFromEnd_2]
    simp (disch := omega) only [a1, nI_lt_iff, if_neg, gd_nI, nI_clamp, hl, vl, l0, l1, nIadd, b_nar0]
    refine K1 _ ⟨?_, fun c hc => ?_⟩
    · exact Ch.sI rfl rfl (Ch.sI rfl rfl hC)
    · rw [gI_ne (by omega), gI_sI]
      by_cases q : c = i
      · rw [if_pos ⟨rfl, rfl, q⟩]
      · rw [if_neg (fun z => q z.2.2)]; exact hI c (by omega)
  · rintro n H1 ⟨hC, hI⟩
    have a1 : gI H1 (r + 2) 1 10 = nI (qB G) := by rw [hC.gi _ _ _ rfl]; exact hb
    rw [L_X5_lineUpFromEnd_2]
    simp (disch := omega) only [a1, nI_lt_iff, if_pos]
    exact K _ hC (fun c hc => hI c (by omega))
theorem x5_lineFromEnd {r : Nat} {G : Gr} {H : Hp} (hG : CG r G H) (h : CL r G H) (w : WG G) (h0 : 0 < qB G) (h3 : allB (spi (qF G) (qT G) (qE G) rM (qB G)) (qB G) = true) (hW : ∀ j, j < lk G → gI H (r + 2) 27 j = bI (tb G j)) : ok (f_X5_lineUpFromEnd r H) (fun _ H' => Ch TT LLN H H' ∧ ∃ ln uL, EL G ln uL ∧ CUp r G ln uL H') := by
  have hB := w.1
  unfold f_X5_lineUpFromEnd
  refine x5_line_2 hG.1 w (fun H1 hC1 hI1 => ?_)
  have e1 : gI (sI H1 (r + 2) 3 9 0) (r + 2) 1 10 = nI (qB G) := by rw [gI_ne (by omega), hC1.gi _ _ _ rfl]; exact hG.1
  have e2 : gI (sI H1 (r + 2) 3 9 0) (r + 2) 3 9 = nI 0 := by rw [gI_eq]; rfl
  simp only [hl, e1]
  rw [x5_lineUp e2 (by omega) (show qB G < 21 by omega), bnd_s]
  have hC2 : Ch TT LLN H (sI (sI (sI (sI (sI H1 (r + 2) 3 9 0) (r + 2) 30 0 (nI (qB G))) (r + 2) 3 9 (nI (0 + 1))) (r + 2) 31 (qB G) (bI true)) (r + 2) 29 (qB G) (-1)) := Ch.sI rfl rfl (Ch.sI rfl rfl (Ch.sI rfl rfl (Ch.sI rfl rfl (Ch.sI rfl rfl hC1))))
  have u20 : un G (qB G) = 20 := if_pos rfl
  refine ok_m (x5_line_52 (CL_ch h hC2 rfl) w h0 h3 (fun j hj => by rw [hC2.gi _ _ _ rfl]; exact hW j hj) (ln := fun _ => 20) (uL := fun _ => 0) (ld := fun x => decide (x = 20)) ⟨?_, by omega, rfl, fun k hk => ⟨Or.inr rfl, ?_⟩, fun j k hj hk _ => by omega, fun c hc => ?_, fun x hx => ?_, ?_, fun k k0 hk => by omega, gI_eq _ _ _ _ _⟩) (fun _ H3 ⟨hC3, hh⟩ => ⟨Ch.tr (fun _ q => q) rfl hC2 hC3, hh⟩)
  · rw [gI_ne (by omega), gI_ne (by omega), gI_eq]
  · have : k = 0 := by omega
    rw [this, gI_ne (by omega), gI_ne (by omega), gI_ne (by omega), gI_eq]
    unfold nd; rw [if_pos rfl]
  · rw [gI_ne (by omega), gI_sI]
    by_cases q : c = qB G
    · rw [if_pos ⟨rfl, rfl, q⟩, q, u20]; rfl
    · rw [if_neg (fun z => q z.2.2), gI_ne (by omega), gI_ne (by omega), gI_ne (by omega), hI1 c hc]
      have : un G c ≠ 20 := by
        unfold un; rw [if_neg q]; omega
      simp only [decide_eq_false this]
  · constructor
    · intro q; exact ⟨0, by omega, (of_decide_eq_true q).symm⟩
    · rintro ⟨k, _, q⟩; exact decide_eq_true q.symm
  · show 1 = cntP (fun c => decide (un G c = 20)) (qB G + 1)
    rw [cntP_s, if_pos (decide_eq_true u20)]
    have : cntP (fun c => decide (un G c = 20)) (qB G) = 0 := by
      have hh : ∀ m, m ≤ qB G → cntP (fun c => decide (un G c = 20)) m = 0 := by
        intro m
        induction m with
        | zero => intro _; rfl
        | succ m ih =>
          intro hm
          rw [cntP_s, ih (by omega), if_neg]
          intro z
          have z1 : un G m = 20 := of_decide_eq_true z
          unfold un at z1
          rw [if_neg (by omega)] at z1
          omega
      exact hh _ (Nat.le_refl _)
    rw [this]
/-- all of the class's tree -/
def CT (r : Nat) (G : Gr) (Gp : Gr) (H : Hp) : Prop := (∀ j, j < lk G → gI H (r + 2) 27 j = bI (tb Gp j)) ∧ gI H (r + 2) 3 10 = nI (cnN Gp) ∧ gJ H (r + 2) 3 11 = lN (gsN Gp) ∧ ∃ ln uL, EL Gp ln uL ∧ CUp r G ln uL H
theorem x5_grow {r : Nat} {G : Gr} {H : Hp} (hG : CG r G H) (h : CL r G H) (w : WG G) (h0 : 0 < qB G) (h3 : allB (spi (qF G) (qT G) (qE G) rM (qB G)) (qB G) = true) : ok (f_X5_grow r H) (fun _ H' => Ch TT [(2, 3, some 9), (2, 3, some 10), (2, 3, some 11), (2, 26, none), (2, 27, none), (2, 28, none), (2, 29, none), (2, 30, none), (2, 31, none)] H H' ∧ CT r G G H' ∧ ∃ o, Srt G (qE G) o ∧ ∀ i, i < qE G → gI H' (r + 2) 26 i = nI (o i)) := by
  unfold f_X5_grow
  refine ok_b (x5_sort hG w) ?_
  rintro _ H1 ⟨hC1, o, hS, ho⟩
  have hG1 := CG_ch hG hC1 rfl
  have hk1 := CL_ch h hC1 rfl
  refine ok_b (x5_takeLinks hG1 hk1 w h0 hS ho) ?_
  rintro _ H2 ⟨hC2, hW2, hc2, hg2⟩
  have hG2 := CG_ch hG1 hC2 rfl
  have hk2 := CL_ch hk1 hC2 rfl
  refine ok_b (x5_lineFromEnd hG2 hk2 w h0 h3 hW2) ?_
  rintro _ H3 ⟨hC3, ln, uL, hEL, hCU⟩
  refine ok_s ⟨Ch.tr (fun _ q => q) rfl (Ch.tr (fun _ q => q) rfl (Ch.tr (fun _ q => q) rfl (Ch.rf H) hC1) hC2) hC3, ⟨fun j hj => ?_, ?_, ?_, ln, uL, hEL, hCU⟩, o, hS, fun i hi => ?_⟩
  · rw [hC3.gi _ _ _ rfl]; exact hW2 j hj
  · rw [hC3.gi _ _ _ rfl]; exact hc2
  · rw [hC3.gj _ _ _ rfl]; exact hg2
  · rw [hC3.gi _ _ _ rfl, hC2.gi _ _ _ rfl]; exact ho i hi
