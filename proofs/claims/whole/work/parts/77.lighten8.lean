theorem Srt_qf {G : Gr} (w : WG G) {o : Nat → Nat} (hS : Srt G (qE G) o) {i : Nat} (hi : i < qE G) (j : Nat) : Qf G (o i) j ↔ ∃ i', i' < i ∧ j = o i' ∧ qW G j = false := by
  constructor
  · rintro ⟨⟨h1, h2⟩, h3⟩
    obtain ⟨i', u1, u2⟩ := hS.2.1 j h1
    refine ⟨i', ?_, u2.symm, h2⟩
    rcases Nat.lt_trichotomy i' i with z | z | z
    · exact z
    · rw [← u2, z] at h3; omega
    · have := hS.2.2.1 i i' z u1
      rw [u2] at this; omega
  · rintro ⟨i', u1, rfl, u3⟩
    exact ⟨⟨hS.1 i' (by omega), u3⟩, hS.2.2.1 i' i u1 hi⟩
theorem x7_light_35 {r : Nat} {G : Gr} {H : Hp} {o : Nat → Nat} {k : Hp → Option (Unit × Hp)} {Q : Unit → Hp → Prop} (hG : CG r G H) (w : WG G) (hA : ∀ e, e < qE G → gJ H (r + 2) 21 e = lN (aD G e)) (hS : Srt G (qE G) o) (ho : ∀ i, i < qE G → gI H (r + 2) 26 i = nI (o i)) (hH : LH r G (fun b => b) (fun _ => 0) H) (K : ∀ m p H', Ch TT LLT H H' → LPt G (Qa G) m p → LH r G m p H' → ok (k H') Q) : ok (L_X7_lighten_35 r k FU 0 H) Q := by
  have hB := w.1
  have hE := w.2.1
  refine ok_g1 (qE G) (fun i H' => Ch TT LLT H H' ∧ ∃ m p, LPt G (fun j => ∃ i', i' < i ∧ j = o i' ∧ qW G j = false) m p ∧ LH r G m p H') ?_ ?_ rfl ⟨Ch.rf H, fun b => b, fun _ => 0, ⟨fun b hb => ⟨Nat.le_refl _, rfl⟩, fun x y hx hy => ?_, fun e he => ?_⟩, hH⟩ (FUgt (by omega))
  · rintro i n H1 hi ⟨hC, m, p, hL, hH1⟩ K1
    have hG1 := CG_ch hG hC rfl
    obtain ⟨a1, a2, -, -, -, -, -, -, -, -, a11⟩ := id hG1
    have oi := hS.1 i hi
    have ho1 : gI H1 (r + 2) 26 i = nI (o i) := by rw [hC.gi _ _ _ rfl]; exact ho i hi
    have hA1 : ∀ e, e < qE G → gJ H1 (r + 2) 21 e = lN (aD G e) := fun e he => by rw [hC.gj _ _ _ rfl]; exact hA e he
    rw [L_X7_lighten_35]
    simp (disch := omega) only [a2, nI_le_iff, if_neg, gd_nI, nI_clamp, ho1, a11, l0, b_eq0, vl, l1, nIadd]
    refine ok_if (fun hd => ?_) (fun hd => ?_)
    · refine ok_b (x7_joinTrees (P' := fun j => ∃ i', i' < i + 1 ∧ j = o i' ∧ qW G j = false) hG1 w oi hA1 (fun j hj => ?_) (fun j => ?_) ?_ hL hH1) ?_
      · obtain ⟨i', u1, u2, -⟩ := hj
        rw [u2]; exact hS.1 i' (by omega)
      · constructor
        · rintro ⟨i', u1, u2, u3⟩
          by_cases q : i' = i
          · rw [q] at u2; exact Or.inr u2
          · exact Or.inl ⟨i', by omega, u2, u3⟩
        · rintro (⟨i', u1, u2, u3⟩ | q)
          · exact ⟨i', by omega, u2, u3⟩
          · exact ⟨i, by omega, q, by rw [q]; exact hd⟩
      · unfold lgt
        rw [Cn.iff (Srt_qf w hS hi)]
      · rintro _ H2 ⟨hC2, m2, p2, hL2, hH2⟩
        exact K1 _ ⟨Ch.tr (fun _ q => q) rfl hC hC2, m2, p2, hL2, hH2⟩
    · have hsame : ∀ j, (∃ i', i' < i + 1 ∧ j = o i' ∧ qW G j = false) ↔ (∃ i', i' < i ∧ j = o i' ∧ qW G j = false) := by
        intro j
        constructor
        · rintro ⟨i', u1, u2, u3⟩
          by_cases q : i' = i
          · rw [q] at u2; rw [u2] at u3; exact absurd u3 hd
          · exact ⟨i', by omega, u2, u3⟩
        · rintro ⟨i', u1, u2, u3⟩
          exact ⟨i', by omega, u2, u3⟩
      refine K1 _ ⟨hC, m, p, ⟨hL.1, fun x y hx hy => ?_, fun e he hg => hL.2.2 e ((hsame e).mp he) hg⟩, hH1⟩
      rw [Cn.iff hsame]; exact hL.2.1 x y hx hy
  · rintro n H1 ⟨hC, m, p, hL, hH1⟩
    obtain ⟨a1, a2, -⟩ := CG_ch hG hC rfl
    rw [L_X7_lighten_35]
    simp (disch := omega) only [a2, nI_le_iff, if_pos]
    have hall : ∀ j, (∃ i', i' < qE G ∧ j = o i' ∧ qW G j = false) ↔ Qa G j := by
      intro j
      constructor
      · rintro ⟨i', u1, u2, u3⟩
        exact ⟨by rw [u2]; exact hS.1 i' u1, u3⟩
      · rintro ⟨u1, u2⟩
        obtain ⟨i', v1, v2⟩ := hS.2.1 j u1
        exact ⟨i', v1, v2.symm, u2⟩
    refine K m p _ hC ⟨hL.1, fun x y hx hy => ?_, fun e he hg => hL.2.2 e ((hall e).mpr he) hg⟩ hH1
    rw [← Cn.iff hall]; exact hL.2.1 x y hx hy
  · constructor
    · intro z; rw [show x = y from z]; exact Cn.rf _
    · intro z
      exact z (fun a b => a = b) (fun _ => rfl) (fun _ _ q => q.symm) (fun _ _ _ q q' => q.trans q') (fun j ⟨i', u, _⟩ => absurd u (Nat.not_lt_zero _))
  · obtain ⟨i', u, _⟩ := he
    exact absurd u (Nat.not_lt_zero _)
theorem x7_light_83 {r : Nat} {G : Gr} {H : Hp} {m : Nat → Nat} {p : Nat → Int64} {k : Hp → Option (Unit × Hp)} {Q : Unit → Hp → Prop} (w : WG G) (h0 : 0 < qB G) (hm : ∀ b, b < qB G → m b ≤ b) (hH : LH r G m p H) (K : ∀ H', Ch TT LLT H H' → (∀ b, b < qB G → gJ H' (r + 2) 20 b = p b - p (m b)) → ok (k H') Q) : ok (L_X7_lighten_83 r k FU (nI (qB G - 1)) H) Q := by
  have hB := w.1
  refine ok_w1 (fun d a H' => a = (if d = 0 then N1 else nI (d - 1)) ∧ d ≤ qB G ∧ Ch TT LLT H H' ∧ (∀ b, b < qB G → gI H' (r + 2) 23 b = nI (m b)) ∧ ∀ b, b < qB G → gJ H' (r + 2) 20 b = if b < d then p b else p b - p (m b)) ?_ (d := qB G) ⟨by rw [if_neg (by omega)], Nat.le_refl _, Ch.rf H, hH.1, fun b hb => by rw [if_pos hb]; exact hH.2 b hb⟩ (FUgt (by omega))
  rintro d n a H1 ⟨rfl, hd, hC, hI, hJ⟩ K1
  rw [L_X7_lighten_83]
  cases d with
  | zero =>
    rw [if_pos rfl]
    simp (disch := omega) only [l0, N_lt, if_true]
    refine K _ hC (fun b hb => ?_)
    rw [hJ b hb, if_neg (by omega)]
  | succ d =>
    have md := hm d (by omega)
    have j1 := hJ d (by omega)
    have j2 := hJ (m d) (by omega)
    rw [if_pos (by omega)] at j1 j2
    rw [if_neg (show ¬ d + 1 = 0 by omega)]
    simp (disch := omega) only [Nat.add_sub_cancel, l0, nI_lt_iff, if_neg, gd_nI, nI_clamp, hI, j1, j2, hl, vl, l1, n_neg]
    refine K1 d _ _ (by omega) ⟨?_, by omega, ?_, fun b hb => ?_, fun b hb => ?_⟩
    · cases d with
      | zero => rfl
      | succ d => rw [if_neg (by omega), nI_dec]; rfl
    · exact Ch.sJ rfl rfl hC
    · rw [gI_sJ]; exact hI b hb
    · rw [gJ_sJ]
      by_cases q : b = d
      · rw [if_pos ⟨rfl, rfl, q⟩, q, if_neg (by omega)]
      · rw [if_neg (fun z => q z.2.2), hJ b hb]
        have : (b < d + 1) = (b < d) := by apply propext; omega
        simp only [this]
theorem x7_light_115 {r : Nat} {G : Gr} {H : Hp} {p : Nat → Int64} {k : Hp → Option (Unit × Hp)} {Q : Unit → Hp → Prop} (hG : CG r G H) (w : WG G) (hA : ∀ e, e < qE G → gJ H (r + 2) 21 e = lN (aD G e)) (hp : ∀ b, b < qB G → gJ H (r + 2) 20 b = p b) (K : ∀ H', Ch TT [(2, 22, none)] H H' → (∀ e, e < qE G → gJ H' (r + 2) 22 e = if qW G e = true then 0 else lN (aD G e) + p (qF G e) - p (qT G e)) → ok (k H') Q) : ok (L_X7_lighten_115 r k FU 0 H) Q := by
  have hB := w.1
  have hE := w.2.1
  refine ok_g1 (qE G) (fun i H' => Ch TT [(2, 22, none)] H H' ∧ ∀ e, e < i → gJ H' (r + 2) 22 e = if qW G e = true then 0 else lN (aD G e) + p (qF G e) - p (qT G e)) ?_ ?_ rfl ⟨Ch.rf H, fun e he => absurd he (Nat.not_lt_zero _)⟩ (FUgt (by omega))
  · rintro i n H1 hi ⟨hC, hI⟩ K1
    have hG1 := CG_ch hG hC rfl
    obtain ⟨a1, a2, -, -, -, -, -, a8, a9, -, a11⟩ := id hG1
    have wf := w.2.2.2.1 i hi
    have hA1 : gJ H1 (r + 2) 21 i = lN (aD G i) := by rw [hC.gj _ _ _ rfl]; exact hA i hi
    have hp1 : ∀ b, b < qB G → gJ H1 (r + 2) 20 b = p b := fun b hb => by rw [hC.gj _ _ _ rfl]; exact hp b hb
    rw [L_X7_lighten_115]
    simp (disch := omega) only [a2, nI_le_iff, if_neg, gd_nI, nI_clamp, a11, l0, b_eq0, a8, a9, hA1, hp1, hl, vl, l1, nIadd]
    refine ok_if (fun hd => K1 _ ⟨?_, fun b hb => ?_⟩) (fun hd => K1 _ ⟨?_, fun b hb => ?_⟩)
    · exact Ch.sJ rfl rfl hC
    · rw [gJ_sJ]
      by_cases q : b = i
      · rw [if_pos ⟨rfl, rfl, q⟩, q, if_neg (bf_ne hd)]
      · rw [if_neg (fun z => q z.2.2)]; exact hI b (by omega)
    · exact Ch.sJ rfl rfl hC
    · rw [gJ_sJ]
      by_cases q : b = i
      · rw [if_pos ⟨rfl, rfl, q⟩, q, if_pos (bt_of hd)]
      · rw [if_neg (fun z => q z.2.2)]; exact hI b (by omega)
  · rintro n H1 ⟨hC, hI⟩
    obtain ⟨a1, a2, -⟩ := CG_ch hG hC rfl
    rw [L_X7_lighten_115]
    simp (disch := omega) only [a2, nI_le_iff, if_pos]
    exact K _ hC hI
/-- the class's potentials and lights -/
def CPt (r : Nat) (G : Gr) (p : Nat → Int64) (H : Hp) : Prop := (∀ b, b < qB G → gJ H (r + 2) 20 b = p b) ∧ ∀ e, e < qE G → gJ H (r + 2) 22 e = if qW G e = true then 0 else lN (aD G e) + p (qF G e) - p (qT G e)
theorem x7_lighten {r : Nat} {G : Gr} {H : Hp} {o : Nat → Nat} (hG : CG r G H) (w : WG G) (h0 : 0 < qB G) (hA : ∀ e, e < qE G → gJ H (r + 2) 21 e = lN (aD G e)) (hS : Srt G (qE G) o) (ho : ∀ i, i < qE G → gI H (r + 2) 26 i = nI (o i)) : ok (f_X7_lighten r H) (fun _ H' => Ch TT [(2, 20, none), (2, 22, none), (2, 23, none)] H H' ∧ ∃ p, Pot G p ∧ CPt r G p H') := by
  have hB := w.1
  unfold f_X7_lighten
  refine x7_light_2 hG.1 w (fun H1 hC1 hH1 => ?_)
  have hG1 := CG_ch hG hC1 rfl
  refine x7_light_35 hG1 w (fun e he => by rw [hC1.gj _ _ _ rfl]; exact hA e he) hS (fun i hi => by rw [hC1.gi _ _ _ rfl]; exact ho i hi) hH1 (fun m p H2 hC2 hL2 hH2 => ?_)
  have hG2 := CG_ch hG1 hC2 rfl
  simp (disch := omega) only [hG2.1, vl, l1, nI_sub]
  refine x7_light_83 w h0 (fun b hb => (hL2.1 b hb).1) hH2 (fun H3 hC3 hp3 => ?_)
  have hG3 := CG_ch hG2 hC3 rfl
  refine x7_light_115 (p := fun b => p b - p (m b)) hG3 w (fun e he => by rw [hC3.gj _ _ _ rfl, hC2.gj _ _ _ rfl, hC1.gj _ _ _ rfl]; exact hA e he) hp3 (fun H4 hC4 hI4 => ?_)
  refine ok_s ⟨Ch.tr (fun _ q => q) rfl (Ch.tr (fun _ q => q) rfl (Ch.tr (fun _ q => q) rfl (Ch.tr (fun _ q => q) rfl (Ch.rf H) hC1) hC2) hC3) hC4, fun b => p b - p (m b), ⟨fun e he hg => ?_, fun b hb hmin => ?_⟩, fun b hb => by rw [hC4.gj _ _ _ rfl]; exact hp3 b hb, hI4⟩
  · have wf := w.2.2.2.1 e he.1
    have hm : m (qF G e) = m (qT G e) := (hL2.2.1 _ _ wf.1 wf.2.1).mpr (Cn.ln he)
    show p (qT G e) - p (m (qT G e)) = p (qF G e) - p (m (qF G e)) + lN (aD G e)
    rw [hm, hL2.2.2 e he hg]
    grind
  · show p b - p (m b) = 0
    obtain ⟨b1, b2⟩ := hL2.1 b hb
    by_cases q : m b = b
    · rw [q, Int64.sub_self]
    · exact absurd ((hL2.2.1 _ _ (by omega) hb).mp b2) (hmin (m b) (by omega))
