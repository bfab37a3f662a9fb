/-- told on both sides -/
def hasV (G : Gr) (a : Int64) (e : Nat) : Prop := ∃ n, n < tot G ∧ a = lN n ∧ ∃ i y, pA G (bgP G n) i = some y ∧ nxE G y.1 y.2 = some e
noncomputable def tlV (G : Gr) (t : Tb) (e k : Nat) : Int64 := sumJ (fun k => @ite _ (hasV G (t.2.1 k) e) (Classical.propDecidable _) (t.2.2.1 k) 0) k
theorem pA_none {G : Gr} {x : Nat × Nat} {n : Nat} (h : pA G x n = none) (d : Nat) : pA G x (n + d) = none := by
  induction d with
  | zero => exact h
  | succ d ih =>
    show (match pA G x (n + d) with | none => none | some y => pS G y) = none
    rw [ih]
theorem pA_add {G : Gr} {x y z : Nat × Nat} {i d : Nat} (h : pA G x i = some y) (h' : pA G x (i + d) = some z) : pA G y d = some z := by
  induction d generalizing z with
  | zero =>
    rw [show i + 0 = i from rfl, h] at h'
    exact h'
  | succ d ih =>
    cases hq : pA G x (i + d) with
    | none =>
      have := pA_none hq 1
      rw [show i + d + 1 = i + (d + 1) by omega, h'] at this; cases this
    | some u =>
      rw [show i + (d + 1) = i + d + 1 by omega, pA_s hq] at h'
      rw [pA_s (ih hq)]; exact h'
theorem eV_iff {o : Option Nat} {e : Nat} (ho : ∀ x, o = some x → x < 40) (he : e < 40) : eV o = nI e ↔ o = some e := by
  cases o with
  | none =>
    refine ⟨fun h => ?_, fun h => by cases h⟩
    have h1 : (N1 : Int32) = nI e := h
    have h2 : (N1 : Int32) < 0 := by decide
    rw [h1] at h2
    exact absurd h2 (nI_pos (by omega))
  | some x =>
    have hx := ho x rfl
    refine ⟨fun h => ?_, fun h => by cases h; rfl⟩
    have h1 : nI x = nI e := h
    rw [nI_inj (by omega) (by omega)] at h1
    rw [h1]
theorem nx_lt {G : Gr} (w : WG G) {b l x : Nat} (h : nxE G b l = some x) : x < 40 := by
  have := (bsE_some h).1
  have := w.2.1
  omega
theorem lay_has {G : Gr} (w : WG G) {x : Nat × Nat} {len e : Nat} {b ed : Nat → Int32} (he : e < 40) (h : Lay G x len b ed) : (∃ i, i < len ∧ ed i = nI e) ↔ ∃ i y, pA G x i = some y ∧ nxE G y.1 y.2 = some e := by
  constructor
  · rintro ⟨i, hi, q⟩
    obtain ⟨y, y1, y2, y3⟩ := h.1 i hi
    rw [y3, eV_iff (fun _ z => nx_lt w z) he] at q
    exact ⟨i, y, y1, q⟩
  · rintro ⟨i, y, y1, y2⟩
    by_cases hi : i < len
    · obtain ⟨z, z1, z2, z3⟩ := h.1 i hi
      rw [y1] at z1
      have e1 : y = z := Option.some.inj z1
      subst e1
      exact ⟨i, hi, by rw [z3, y2]; rfl⟩
    · have := pA_none h.2 (i - len)
      rw [show len + (i - len) = i by omega, y1] at this; cases this
theorem lay_one {G : Gr} (w : WG G) {rk : Nat → Nat} (hrk : ∀ e, e < qE G → qW G e = false → rk (qT G e) < rk (qF G e)) {x : Nat × Nat} (hx : x.1 < qB G) {len e : Nat} {b ed : Nat → Int32} (he : e < 40) (h : Lay G x len b ed) {i j : Nat} (hij : i < j) (hj : j < len) (hi1 : ed i = nI e) (hj1 : ed j = nI e) : False := by
  obtain ⟨y, y1, y2, y3⟩ := h.1 i (by omega)
  obtain ⟨z, z1, z2, z3⟩ := h.1 j hj
  rw [y3, eV_iff (fun _ z => nx_lt w z) he] at hi1
  rw [z3, eV_iff (fun _ z => nx_lt w z) he] at hj1
  have a := (bsE_some hi1).2.1
  have b := (bsE_some hj1).2.1
  have hyb := (pA_rk w hrk hx y1).1
  rw [show j = i + (j - i) by omega] at z1
  have c := (pA_rk w hrk hyb (pA_add y1 z1)).2.1
  rw [← a, ← b] at c
  omega
theorem sum_one {f : Nat → Int64} {P : Nat → Prop} [DecidablePred P] {c : Int64} {n : Nat} (h1 : ∀ i j, i < j → j < n → P i → P j → False) : (¬ (∃ i, i < n ∧ P i) → sumJ (fun i => if P i then c else 0) n = 0) ∧ ((∃ i, i < n ∧ P i) → sumJ (fun i => if P i then c else 0) n = c) := by
  induction n with
  | zero => exact ⟨fun _ => rfl, fun ⟨i, hi, _⟩ => absurd hi (Nat.not_lt_zero _)⟩
  | succ n ih =>
    obtain ⟨i1, i2⟩ := ih (fun i j hij hj => h1 i j hij (by omega))
    rw [sumJ_s]
    by_cases hp : P n
    · have hn : ¬ ∃ i, i < n ∧ P i := fun ⟨i, hi, q⟩ => h1 i n hi (by omega) q hp
      rw [i1 hn, if_pos hp]
      exact ⟨fun z => absurd ⟨n, by omega, hp⟩ z, fun _ => Int64.zero_add _⟩
    · rw [if_neg hp]
      refine ⟨fun z => ?_, fun ⟨i, hi, q⟩ => ?_⟩
      · rw [i1 (fun ⟨i, hi, q⟩ => z ⟨i, by omega, q⟩)]; rfl
      · have hne : i ≠ n := fun z => hp (z ▸ q)
        rw [i2 ⟨i, by omega, q⟩, Int64.add_zero]
theorem x7_has {r len : Nat} {H : Hp} (b : Int32) (hl : len ≤ 20) (h9 : gI H (r + 2) 2 9 = nI len) : ok (f_X7_unfoldedHas r b H) (fun v H' => H' = H ∧ ((v = 1 ∧ ∃ i, i < len ∧ gI H (r + 2) 25 i = b) ∨ (v = 0 ∧ ¬ ∃ i, i < len ∧ gI H (r + 2) 25 i = b))) := by
  unfold f_X7_unfoldedHas
  refine ok_g1 len (fun i H' => H' = H ∧ ∀ j, j < i → ¬ gI H (r + 2) 25 j = b) ?_ ?_ rfl ⟨rfl, fun j hj => absurd hj (Nat.not_lt_zero _)⟩ (FUgt (by omega))
  · rintro i n H1 hi ⟨rfl, hn⟩ K1
    rw [L_X7_unfoldedHas_2, h9, if_neg (by rw [nI_le_iff (by omega) (by omega)]; omega), gd_nI (by omega) (by decide), nI_clamp (n := i) (by omega)]
    refine ok_if (fun hc => ok_s ⟨rfl, Or.inl ⟨rfl, i, hi, hc⟩⟩) (fun hc => ?_)
    simp only [vl, l1, nIadd]
    exact K1 _ ⟨rfl, fun j hj => by
      by_cases q : j = i
      · rw [q]; exact hc
      · exact hn j (by omega)⟩
  · rintro n H1 ⟨rfl, hn⟩
    rw [L_X7_unfoldedHas_2, h9, if_pos (by rw [nI_le_iff (by omega) (by omega)]; omega)]
    exact ok_s ⟨rfl, Or.inr ⟨rfl, fun ⟨i, hi, q⟩ => hn i hi q⟩⟩
theorem isW_has {G : Gr} {a : Int64} {e : Nat} (h : ¬ isW G a) : ¬ hasV G a e := fun ⟨n, h1, h2, _⟩ => h ⟨n, h1, h2⟩
theorem has_iff {G : Gr} {n e : Nat} (htl : tot G ≤ 1000000000000) (hn : n < tot G) : hasV G (lN n) e ↔ ∃ i y, pA G (bgP G n) i = some y ∧ nxE G y.1 y.2 = some e := by
  constructor
  · rintro ⟨m, h1, h2, h3⟩
    have := lN_j (by omega) (by omega) h2
    subst this
    exact h3
  · intro h
    exact ⟨n, hn, rfl, h⟩
theorem tlV_s (G : Gr) (t : Tb) (e k : Nat) : (hasV G (t.2.1 k) e → tlV G t e (k + 1) = tlV G t e k + t.2.2.1 k) ∧ (¬ hasV G (t.2.1 k) e → tlV G t e (k + 1) = tlV G t e k) := by
  constructor
  · intro h
    unfold tlV
    rw [sumJ_s, if_pos h]
  · intro h
    unfold tlV
    rw [sumJ_s, if_neg h, Int64.add_zero]
theorem x2_told {r e : Nat} {G : Gr} {t : Tb} {H : Hp} (h : CG r G H) (w : WG G) (hw : why G = 0) (hW : CW r G H) (hT : CTb r t H) (ht : t.1 ≤ 16) (he : e < qE G) : ok (f_X2_toldCount r (nI e) H) (fun v H' => Ch TT LUN H H' ∧ v = tlV G t e t.1) := by
  have hE := w.2.1
  have hB := w.1
  have w6 := (why_0 hw).2.2
  unfold f_X2_toldCount
  refine ok_g2 t.1 (fun i x H' => Ch TT LUN H H' ∧ x = tlV G t e i) ?_ ?_ rfl ⟨Ch.rf H, rfl⟩ (FUgt (by omega))
  · rintro i n x H1 hi ⟨hC, rfl⟩ K1
    have e2 : gI H1 (r + 2) 5 2 = nI t.1 := by rw [hC.gi _ _ _ rfl]; exact hT.1
    have e37 : gJ H1 (r + 2) 37 i = t.2.1 i := by rw [hC.gj _ _ _ rfl]; exact (hT.2.1 i hi).1
    have e38 : ∀ H', Ch TT LUN H H' → gJ H' (r + 2) 38 i = t.2.2.1 i := fun H' q => by rw [q.gj _ _ _ rfl]; exact (hT.2.1 i hi).2
    obtain ⟨s1, s2⟩ := tlV_s G t e i
    rw [L_X2_toldCount_5, e2, if_neg (by rw [nI_le_iff (by omega) (by omega)]; omega), gd_nI (by omega) (by decide), nI_clamp (n := i) (by omega), e37]
    refine ok_b (x7_unfold (CG_ch h hC rfl) w hw (CW_ch hW hC rfl) _) ?_
    rintro v H2 ⟨q2, hv⟩
    have hC2 : Ch TT LUN H H2 := Ch.tr (fun _ q => q) rfl hC q2
    simp only [vl, l1, nIadd]
    rcases hv with ⟨rfl, v2, v3⟩ | ⟨m, len, n1, n2, rfl, n4, n5, n6⟩
    · rw [if_pos rfl]
      exact K1 _ _ ⟨hC2, (s2 (isW_has v2)).symm⟩
    · rw [if_neg (by decide)]
      refine ok_b (x7_has (nI e) (by omega) n5) ?_
      rw [n2, has_iff w6 n1, ← lay_has w (by omega) n6] at s1 s2
      rintro v3 H3 ⟨rfl, ⟨rfl, hh⟩ | ⟨rfl, hh⟩⟩
      · rw [if_neg (by decide), gd_nI (by omega) (by decide), e38 _ hC2]
        exact K1 _ _ ⟨hC2, (s1 hh).symm⟩
      · rw [if_pos rfl]
        exact K1 _ _ ⟨hC2, (s2 hh).symm⟩
  · rintro n x H1 ⟨hC, rfl⟩
    have e2 : gI H1 (r + 2) 5 2 = nI t.1 := by rw [hC.gi _ _ _ rfl]; exact hT.1
    rw [L_X2_toldCount_5, e2, if_pos (by rw [nI_le_iff (by omega) (by omega)]; omega)]
    exact ok_s ⟨hC, rfl⟩
theorem x9_told_64 {r e k' len : Nat} {c x : Int64} {k : Int64 → Hp → Option (Int64 × Hp)} {Q : Int64 → Hp → Prop} {H : Hp} (hr : r < 8) (hk : k' < 16) (hl : len ≤ 20) (h47 : gI H 0 0 47 = nI len) (hc : gJ H 0 26 (16 * r + k') = c) (K : ok (k (x + sumJ (fun i => if gI H 0 46 i = nI e then c else 0) len) H) Q) : ok (L_X9_told_64 (nI r) (nI e) (nI k') k FU x 0 H) Q := by
  refine ok_g2 len (fun i y H' => H' = H ∧ y = x + sumJ (fun i => if gI H 0 46 i = nI e then c else 0) i) ?_ ?_ rfl ⟨rfl, (Int64.add_zero _).symm⟩ (FUgt (by omega))
  · rintro i n y H1 hi ⟨rfl, rfl⟩ K1
    have e16 : (16 : Int32) * nI r + nI k' = nI (16 * r + k') := by rw [show (16 : Int32) = nI 16 from rfl, nImul, nIadd]
    rw [L_X9_told_64, h47, if_neg (by rw [nI_le_iff (by omega) (by omega)]; omega), gd_nI (by omega) (by decide), nI_clamp (n := i) (by omega), e16, gd_nI (by omega) (by decide), nI_clamp (n := 16 * r + k') (by omega), hc]
    simp only [vl, l1, nIadd]
    by_cases q : gI H1 0 46 i = nI e
    · rw [if_pos q]
      exact K1 _ _ ⟨rfl, by rw [sumJ_s, if_pos q, Int64.add_assoc]⟩
    · rw [if_neg q]
      exact K1 _ _ ⟨rfl, by rw [sumJ_s, if_neg q, Int64.add_assoc]⟩
  · rintro n y H1 ⟨rfl, rfl⟩
    rw [L_X9_told_64, h47, if_pos (by rw [nI_le_iff (by omega) (by omega)]; omega)]
    exact K
theorem x9_told {nr r e : Nat} {a : Rt} {H : Hp} (hR : Rel nr H) (hr : r < nr) (hP : PR a) (hM : MR r a H) (hd : rD a = true) (he : e < qE (rG a)) : ok (f_X9_told (nI r) (nI e) H) (fun v H' => Ch TT LW2 H H' ∧ v = tlV (rG a) (rtb a) e (rtb a).1) := by
  have h8 := hR.1.1
  have w := hP.1
  have hE := w.2.1
  have hB := w.1
  obtain ⟨hw, -, -, ht⟩ := hP.2.2.2 hd
  obtain ⟨w4, w5, w6⟩ := why_0 hw
  obtain ⟨b0, b1, b2, b3⟩ := ff4_0 w4
  have hz : ∀ b, b < qB (rG a) → nW (rG a) b ≠ 0 := fun b hb z => by
    have := allB_iff.mp w5 b hb
    rw [z] at this; cases this
  obtain ⟨rk, hrk1, hrk2⟩ := rank_ex w (allB_iff.mp b1) hz
  have hC0 : Ch TT LW2 H (sI H 0 0 34 0) := Ch.sI rfl rfl (Ch.rf H)
  obtain ⟨m1, m2, m3, m4⟩ := hM
  obtain ⟨f1, f2, f3, f4⟩ := m4 hd
  unfold f_X9_told
  rw [hl_e]
  generalize sI H 0 0 34 0 = H0 at hC0 ⊢
  have hR0 := Rel_wy hR hC0
  have hd0 : ∀ H', Ch TT LW2 H H' → gI H' 0 3 r = bI true := fun H' q => by rw [q.gi _ _ _ rfl, m2, hd]
  have hm0 : gI H0 0 2 r = nI (qE (rG a)) := (MG_ch m1 hC0 rfl).2.1
  rw [dn_yes hR0.1 hr, bnd_s, hd0 _ hC0, if_neg (show ¬ bI true = 0 by decide), if_neg (by decide), ie_yes hR0.1 hr hm0, bnd_s, if_pos (ar_in he (by omega)), if_neg (by decide)]
  refine ok_g2 (rtb a).1 (fun i x H' => Ch TT LW2 H H' ∧ x = tlV (rG a) (rtb a) e i) ?_ ?_ rfl ⟨hC0, rfl⟩ (FUgt (by omega))
  · rintro i n x H1 hi ⟨hC, rfl⟩ K1
    have e24 : gI H1 0 24 r = nI (rtb a).1 := by rw [hC.gi _ _ _ rfl]; exact f4.1
    have e25 : gJ H1 0 25 (16 * r + i) = (rtb a).2.1 i := by rw [hC.gj _ _ _ rfl]; exact (f4.2.1 i hi).1
    have e16 : (16 : Int32) * nI r + nI i = nI (16 * r + i) := by rw [show (16 : Int32) = nI 16 from rfl, nImul, nIadd]
    obtain ⟨s1, s2⟩ := tlV_s (rG a) (rtb a) e i
    rw [L_X9_told_31, gd_nI (by omega) (by decide), nI_clamp (n := r) (by omega), e24, if_neg (by rw [nI_le_iff (by omega) (by omega)]; omega), e16, gd_nI (by omega) (by decide), nI_clamp (n := 16 * r + i) (by omega), e25]
    refine ok_b (x9_isWay (Rel_wy hR hC).1 hr (hd0 _ hC) (MG_ch m1 hC rfl) w hw (MW_ch f1 hC rfl) _) ?_
    rintro v H2 ⟨q2, hv⟩
    have hC2 : Ch TT LW2 H H2 := Ch.tr (fun _ q => q) rfl hC q2
    have e26 : gJ H2 0 26 (16 * r + i) = (rtb a).2.2.1 i := by rw [hC2.gj _ _ _ rfl]; exact (f4.2.1 i hi).2
    rcases hv with ⟨rfl, v2, v3⟩ | ⟨m, len, n1, n2, rfl, n4, n5, n6⟩
    · refine x9_told_64 (by omega) (by omega) (by omega) v3 e26 ?_
      simp only [vl, l1, nIadd]
      exact K1 _ _ ⟨hC2, by rw [s2 (isW_has v2)]; exact Int64.add_zero _⟩
    · refine x9_told_64 (by omega) (by omega) (by omega) n5 e26 ?_
      simp only [vl, l1, nIadd]
      rw [n2, has_iff w6 n1, ← lay_has w (by omega) n6] at s1 s2
      obtain ⟨p1, p2⟩ := bgP_ok b0 n1
      obtain ⟨o1, o2⟩ := sum_one (f := fun _ => 0) (P := fun j => gI H2 0 46 j = nI e) (c := (rtb a).2.2.1 i) (n := len) (fun j j' h1 h2 h3 h4 => lay_one w hrk2 p1 (by omega) n6 h1 h2 h3 h4)
      refine K1 _ _ ⟨hC2, ?_⟩
      by_cases hh : ∃ j, j < len ∧ gI H2 0 46 j = nI e
      · rw [s1 hh, o2 hh]
      · rw [s2 hh, o1 hh, Int64.add_zero]
  · rintro n x H1 ⟨hC, rfl⟩
    have e24 : gI H1 0 24 r = nI (rtb a).1 := by rw [hC.gi _ _ _ rfl]; exact f4.1
    rw [L_X9_told_31, gd_nI (by omega) (by decide), nI_clamp (n := r) (by omega), e24, if_pos (by rw [nI_le_iff (by omega) (by omega)]; omega)]
    exact ok_s ⟨hC, rfl⟩
theorem eq_told {nr : Nat} {H : Hp} (h : Rel nr H) (a c : Int32) : ok (f_X8_told nr a c H) (fun x H1 => ok (f_X9_told a c H1) (fun y H2 => y = x ∧ Rel nr H2)) := by
  obtain ⟨hRR, ρ, w, hr, hK, hC, hM⟩ := id h
  have h8 := hRR.1
  have hR0 := Rel_no h
  rcases arg_cases a (n := nr) (by omega) with ⟨r, hrn, rfl⟩ | ha
  · obtain ⟨b1, b2, b3⟩ := hr r hrn
    have hE := b1.1.2.1
    have m0 := MR_34 b3 0
    unfold f_X8_told f_X8_finishedWithEdge
    rw [fin_yes hRR hrn, bnd_s, b2.2.2.1]
    cases hd : rD (ρ r) with
    | false =>
      rw [if_pos (show bI false = 0 from rfl), nz_n, bnd_s, nz_n]
      refine ok_s ?_
      unfold f_X9_told
      rw [hl_e, dn_yes hR0.1 hrn, bnd_s, m0.2.1, hd, if_pos (show bI false = 0 from rfl), if_pos rfl]
      exact ok_s ⟨rfl, hR0⟩
    | true =>
      rw [if_neg (show ¬ bI true = 0 by decide), nz_s hrn, he_x3 b2.2.1.2.1, bnd_s]
      rcases arg_cases c (n := qE (rG (ρ r))) (by omega) with ⟨e, he, rfl⟩ | hc
      · rw [if_pos (ar_in he (by omega)), if_neg (by decide), bnd_s, nz_s hrn]
        have f := b2.2.2.2.2 hd
        obtain ⟨hw, -, -, ht⟩ := b1.2.2.2 hd
        refine ok_b (x2_told b2.2.1 b1.1 hw f.2.1 f.2.2.2.2.2.2 ht he) ?_
        rintro v H1 ⟨q1, rfl⟩
        refine ok_s (ok_m (x9_told (Rel_un h q1) hrn b1 (MR_c b3 q1 rfl) hd he) ?_)
        rintro y H2 ⟨q2, rfl⟩
        exact ⟨rfl, Rel_wy (Rel_un h q1) q2⟩
      · rw [if_neg hc, if_pos rfl, bnd_s, nz_n]
        refine ok_s ?_
        unfold f_X9_told
        rw [hl_e, dn_yes hR0.1 hrn, bnd_s, m0.2.1, hd, if_neg (show ¬ bI true = 0 by decide), if_neg (by decide), ie_yes hR0.1 hrn m0.1.2.1, bnd_s, if_neg hc, if_pos rfl]
        exact ok_s ⟨rfl, hR0⟩
  · unfold f_X8_told f_X8_finishedWithEdge
    rw [fin_no hRR ha, bnd_s, nz_n, bnd_s, nz_n]
    refine ok_s ?_
    unfold f_X9_told
    rw [hl_e, dn_no hR0.1 ha, bnd_s, if_pos rfl]
    exact ok_s ⟨rfl, hR0⟩
