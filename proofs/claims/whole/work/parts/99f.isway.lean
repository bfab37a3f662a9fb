def gV (r : Nat) (o : Option Nat) : Int32 := match o with
  | none => N1
  | some e => nI (40 * r + e)
theorem x9_way_144 {r b l : Nat} {G : Gr} {H : Hp} {k : Int32 → Hp → Option (Int32 × Hp)} {Q : Int32 → Hp → Prop} (h : MG r G H) (w : WG G) (hr : r < 8) (hA : ∀ e, e < qE G → gJ H 0 17 (40 * r + e) = lN (aD G e)) (hb : b < qB G) (hl : l < 2 ^ 62) (K : ok (k (gV r (nxE G b l)) H) Q) : ok (L_X9_isWay_144 (nI r) (nI b) (lN l) k FU (-1) (nI (40 * r)) H) Q := by
  have hB := w.1
  have hE := w.2.1
  obtain ⟨g1, g2, g3, g4, g5, -⟩ := id h
  refine ok_f2 (40 * r) (qE G) (fun i x H' => H' = H ∧ x = gV r (bsE G b l i)) ?_ ?_ rfl ⟨rfl, rfl⟩ (FUgt (by omega))
  · rintro i m x H1 hi ⟨rfl, rfl⟩ K1
    have wf := w.2.2.2.1 i hi
    have ha := aD_lt w hi
    rw [L_X9_isWay_144]
    simp (disch := omega) only [l40, nImul, nIadd, gd_nI, nI_clamp, g2, nI_le_iff, if_neg, g5, nI_inj, hA, l0, c_gt, j_lt, vl, l1]
    have e1 : bsE G b l (i + 1) = if qF G i = b ∧ aD G i ≤ l then some i else bsE G b l i := rfl
    refine ok_if (fun hf => ok_if (fun hc => K1 _ _ ⟨rfl, ?_⟩) (fun hc => K1 _ _ ⟨rfl, ?_⟩)) (fun hf => K1 _ _ ⟨rfl, ?_⟩)
    · rw [e1, if_neg (by omega)]
    · rw [e1, if_pos ⟨hf, by omega⟩]; rfl
    · rw [e1, if_neg (fun z => hf z.1)]
  · rintro m x H1 ⟨rfl, rfl⟩
    rw [L_X9_isWay_144]
    simp (disch := omega) only [l40, nImul, nIadd, gd_nI, nI_clamp, g2, nI_le_iff, if_pos]
    exact K
theorem j_m1z : ((-1 : Int64) < lN 0) = True := by apply eq_true; decide
theorem j_nz {a : Nat} (ha : a < 2 ^ 63) : (lN a < lN 0) = False := by
  apply eq_false
  rw [j_lt ha (by decide)]; omega
def sttR (G : Gr) (n : Nat) (o : Option Nat) (x : Int32) (y : Int64) : Prop := match o with
  | none => x = nI 0 ∧ y = lN n
  | some b => x = nI b ∧ y = lN (n - bsS G b)
theorem x9_way_41 {r n : Nat} {G : Gr} {H : Hp} {k : Int32 → Int64 → Hp → Option (Int32 × Hp)} {Q : Int32 → Hp → Prop} (h : MG r G H) (w : WG G) (hr : r < 8) (h0 : 0 < qB G) (hW : MW r G H) (hn : n < tot G) (htl : tot G ≤ 1000000000000) (K : ok (k (nI (bgP G n).1) (lN (bgP G n).2) H) Q) : ok (L_X9_isWay_41 (nI r) (lN n) k FU 0 (lN n) 0 H) Q := by
  have hB := w.1
  obtain ⟨v1, v2, v3, v4⟩ := hW
  refine ok_g3 (qB G) (fun i x y H' => H' = H ∧ sttR G n (rfB G n i) x y) ?_ ?_ rfl ⟨rfl, rfl, rfl⟩ (FUgt (by omega))
  · rintro i m x y H1 hi ⟨rfl, hst⟩ K1
    have hbl := bsS_lt w h0 (show i ≤ qB G by omega)
    have hnl := nW_lt w hi
    have hv := v2 i hi
    have hv1 := v1 i hi
    have e1 : rfB G n (i + 1) = if hdB G i (qE G) = true ∧ bsS G i ≤ n ∧ n < bsS G i + nW G i then some i else rfB G n i := rfl
    unfold bsV at hv
    rw [L_X9_isWay_41]
    by_cases hh : hdB G i (qE G) = true
    · rw [if_pos hh] at hv
      simp (disch := omega) only [l20, nImul, nIadd, gd_nI, nI_clamp, h.1, nI_le_iff, if_neg, hv, hv1, vl, l0, c_lt, k0, j_nz, if_false, j_lt, lN_add, c_ge, j_le, l1]
      refine ok_if (fun hc => K1 _ _ _ ⟨rfl, ?_⟩) (fun hc => ok_if (fun hd => K1 _ _ _ ⟨rfl, ?_⟩) (fun hd => K1 _ _ _ ⟨rfl, ?_⟩))
      · rw [e1, if_neg (by omega)]; exact hst
      · rw [e1, if_neg (by omega)]; exact hst
      · rw [e1, if_pos ⟨hh, by omega, by omega⟩]
        exact ⟨rfl, lN_sub (by omega)⟩
    · rw [if_neg hh] at hv
      simp (disch := omega) only [l20, nImul, nIadd, gd_nI, nI_clamp, h.1, nI_le_iff, if_neg, hv, vl, l0, c_lt, k0, j_m1z, if_true, l1]
      refine K1 _ _ _ ⟨rfl, ?_⟩
      rw [e1, if_neg (fun z => hh z.1)]; exact hst
  · rintro m x y H1 ⟨rfl, hst⟩
    rw [L_X9_isWay_41]
    simp (disch := omega) only [gd_nI, nI_clamp, h.1, nI_le_iff, if_pos]
    by_cases q : n < nW G 0
    · rw [(bg_lo q (qB G)).2] at hst
      obtain ⟨rfl, rfl⟩ := hst
      have hb : bgP G n = (0, n) := by unfold bgP; rw [if_pos q]
      rw [hb] at K
      exact K
    · rw [(bg_hi (show nW G 0 ≤ n by omega) hn).2.2.2] at hst
      obtain ⟨rfl, rfl⟩ := hst
      have hb : bgP G n = (clB G n (qB G), n - bsS G (clB G n (qB G))) := by unfold bgP; rw [if_neg q]
      rw [hb] at K
      exact K
abbrev LWY : List (Nat × Nat × Option Nat) := [(0, 0, some 47), (0, 45, none), (0, 46, none)]
theorem x9_way_119 {r : Nat} {G : Gr} {H : Hp} {x : Nat × Nat} {k : Hp → Option (Int32 × Hp)} {Q : Int32 → Hp → Prop} {rk : Nat → Nat} (h : MG r G H) (w : WG G) (hr : r < 8) (hA : ∀ e, e < qE G → gJ H 0 17 (40 * r + e) = lN (aD G e)) (hrk1 : ∀ b, b < qB G → rk b < qB G) (hrk : ∀ e, e < qE G → qW G e = false → rk (qT G e) < rk (qF G e)) (hx : x.1 < qB G) (hx2 : x.2 < 2 ^ 62) (hp : gI H 0 0 47 = nI 0) (K : ∀ len H', Ch TT LWY H H' → len ≤ qB G → gI H' 0 0 47 = nI len → Lay G x len (fun i => gI H' 0 45 i) (fun i => gI H' 0 46 i) → ok (k H') Q) : ok (L_X9_isWay_119 (nI r) k FU (nI x.1) (lN x.2) 1 H) Q := by
  have hB := w.1
  have hE := w.2.1
  refine ok_w3 (fun d a b c H' => ∃ i on, i + d = qB G + 1 ∧ i ≤ qB G ∧ c = bI on ∧ (on = false → pA G x i = none) ∧ (on = true → ∃ y, pA G x i = some y ∧ a = nI y.1 ∧ b = lN y.2) ∧ Ch TT LWY H H' ∧ gI H' 0 0 47 = nI i ∧ ∀ j, j < i → ∃ y, pA G x j = some y ∧ gI H' 0 45 j = nI y.1 ∧ gI H' 0 46 j = eV (nxE G y.1 y.2)) ?_ (d := qB G + 1) ⟨0, true, by omega, by omega, rfl, fun z => Bool.noConfusion z, fun _ => ⟨x, rfl, rfl, rfl⟩, Ch.rf H, hp, fun j hj => absurd hj (Nat.not_lt_zero _)⟩ (FUgt (by omega))
  rintro d m a b c H1 ⟨i, on, hid, hiB, rfl, hoff, hon, hC, hpi, hL⟩ K1
  have hG1 := MG_ch h hC rfl
  have hA1 : ∀ e, e < qE G → gJ H1 0 17 (40 * r + e) = lN (aD G e) := fun e he => by rw [hC.gj _ _ _ rfl]; exact hA e he
  rw [L_X9_isWay_119]
  cases on with
  | false =>
    rw [if_pos (show bI false = 0 from rfl)]
    exact K i H1 hC hiB hpi ⟨hL, hoff rfl⟩
  | true =>
    obtain ⟨y, hpa, rfl, rfl⟩ := hon rfl
    obtain ⟨y1, y2, y3⟩ := pA_rk w hrk hx hpa
    have hr1 := hrk1 _ hx
    rw [if_neg (show ¬ bI true = 0 by decide), hpi, gd_nI (by omega) (by decide), nI_clamp (n := i) (by omega), hl_e]
    have hC2 : Ch TT LWY H (sI H1 0 45 i (nI y.1)) := Ch.sI rfl rfl hC
    have hG2 := MG_ch h hC2 rfl
    have h40 : (40 : Int32) * nI r = nI (40 * r) := nImul 40 r
    rw [h40]
    have hp2 : gI (sI H1 0 45 i (nI y.1)) 0 0 47 = nI i := by rw [gI_ne (by omega)]; exact hpi
    refine x9_way_144 hG2 w hr (fun e he => by rw [gJ_sI]; exact hA1 e he) y1 (by omega) ?_
    have hpn := pA_s hpa
    unfold pS at hpn
    have hrest : ∀ v o, o = nxE G y.1 y.2 → v = eV o → (Ch TT LWY H (sI (sI (sI H1 0 45 i (nI y.1)) 0 46 i v) 0 0 47 (nI (i + 1))) ∧ ∀ j, j < i + 1 → ∃ z, pA G x j = some z ∧ gI (sI (sI (sI H1 0 45 i (nI y.1)) 0 46 i v) 0 0 47 (nI (i + 1))) 0 45 j = nI z.1 ∧ gI (sI (sI (sI H1 0 45 i (nI y.1)) 0 46 i v) 0 0 47 (nI (i + 1))) 0 46 j = eV (nxE G z.1 z.2)) := by
      rintro v o rfl rfl
      refine ⟨Ch.sI rfl rfl (Ch.sI rfl rfl hC2), fun j hj => ?_⟩
      by_cases q : j = i
      · rw [q]
        exact ⟨y, hpa, by rw [gI_ne (by omega), gI_ne (by omega), gI_eq], by rw [gI_ne (by omega), gI_eq]⟩
      · obtain ⟨z, z1, z2, z3⟩ := hL j (by omega)
        exact ⟨z, z1, by rw [gI_ne (by omega), gI_ne (by omega), gI_ne (by omega)]; exact z2, by rw [gI_ne (by omega), gI_ne (by omega), gI_ne (by omega)]; exact z3⟩
    have e46 : ∀ v, gI (sI (sI H1 0 45 i (nI y.1)) 0 46 i v) 0 0 47 = nI i := fun v => by rw [gI_ne (by omega)]; exact hp2
    have hi1 : nI i + 1 = nI (i + 1) := (nI_succ i).symm
    simp only [jn]
    cases hnx : nxE G y.1 y.2 with
    | none =>
      rw [hnx] at hpn
      obtain ⟨r1, r2⟩ := hrest N1 none hnx.symm rfl
      have g1 : gV r none = N1 := rfl
      rw [g1, if_neg (show ¬ (0 : Int32) ≤ N1 by decide), hp2, gd_nI (by omega) (by decide), nI_clamp (n := i) (by omega), hl_e, show (-1 : Int32) = N1 from rfl, e46, hi1, hl_e, if_pos (show N1 < 0 by decide), if_pos trivial]
      exact K1 (d - 1) _ _ _ _ (by omega) ⟨i + 1, false, by omega, by omega, rfl, fun _ => hpn, fun z => Bool.noConfusion z, r1, gI_eq _ _ _ _ _, r2⟩
    | some e =>
      rw [hnx] at hpn
      dsimp only at hpn
      obtain ⟨f1, f2, f3⟩ := bsE_some hnx
      obtain ⟨r1, r2⟩ := hrest (nI e) (some e) hnx.symm rfl
      have g1 : gV r (some e) = nI (40 * r + e) := rfl
      have hsub : nI (40 * r + e) - nI (40 * r) = nI e := by rw [nI_sub (by omega), Nat.add_sub_cancel_left]
      rw [g1, if_pos (nI_pos' (by omega)), hsub, hp2, gd_nI (by omega) (by decide), nI_clamp (n := i) (by omega), hl_e, e46, hi1, hl_e]
      have hG3 := MG_ch h r1 rfl
      obtain ⟨k1, k2, k3, k4, k5, k6, k7, k8⟩ := id hG3
      have a17 : gJ (sI (sI (sI H1 0 45 i (nI y.1)) 0 46 i (nI e)) 0 0 47 (nI (i + 1))) 0 17 (40 * r + e) = lN (aD G e) := by rw [gJ_sI, gJ_sI, gJ_sI]; exact hA1 e f1
      have p3 : gI (sI (sI (sI H1 0 45 i (nI y.1)) 0 46 i (nI e)) 0 0 47 (nI (i + 1))) 0 0 47 = nI (i + 1) := gI_eq _ _ _ _ _
      generalize sI (sI (sI H1 0 45 i (nI y.1)) 0 46 i (nI e)) 0 0 47 (nI (i + 1)) = H3 at r1 r2 k6 k8 a17 p3 ⊢
      rw [if_neg (nI_pos (by omega)), gd_nI (by omega) (by decide), nI_clamp (n := 40 * r + e) (by omega), k8 e f1]
      cases hw : qW G e with
      | true =>
        rw [if_pos hw] at hpn
        rw [if_neg (show ¬ bI true = 0 by decide), if_pos trivial]
        exact K1 (d - 1) _ _ _ _ (by omega) ⟨i + 1, false, by omega, by omega, rfl, fun _ => hpn, fun z => Bool.noConfusion z, r1, p3, r2⟩
      | false =>
        rw [if_neg (bf_ne hw)] at hpn
        rw [if_pos (show bI false = 0 from rfl), if_neg (by decide), gd_nI (by omega) (by decide), a17]
        simp only [vl]
        rw [gd_nI (by omega) (by decide), k6 e f1]
        exact K1 (d - 1) _ _ _ _ (by omega) ⟨i + 1, true, by omega, by omega, rfl, fun z => Bool.noConfusion z, fun _ => ⟨_, hpn, rfl, lN_sub f3⟩, r1, p3, r2⟩
theorem x9_isWay {nr r : Nat} {G : Gr} {H : Hp} (hRR : RR nr H) (hr : r < nr) (hd : gI H 0 3 r = bI true) (h : MG r G H) (w : WG G) (hw : why G = 0) (hW : MW r G H) (a : Int64) : ok (f_X9_isWay (nI r) a H) (fun v H' => Ch TT LWY H H' ∧ ((v = 0 ∧ ¬ isW G a ∧ gI H' 0 0 47 = nI 0) ∨ (∃ n len, n < tot G ∧ a = lN n ∧ v = 1 ∧ len ≤ qB G ∧ gI H' 0 0 47 = nI len ∧ Lay G (bgP G n) len (fun i => gI H' 0 45 i) (fun i => gI H' 0 46 i)))) := by
  have h8 := hRR.1
  obtain ⟨w4, w5, w6⟩ := why_0 hw
  obtain ⟨b0, b1, b2, b3⟩ := ff4_0 w4
  have hB := w.1
  have hz : ∀ b, b < qB G → nW G b ≠ 0 := fun b hb z => by
    have := allB_iff.mp w5 b hb
    rw [z] at this; cases this
  obtain ⟨rk, hrk1, hrk2⟩ := rank_ex w (allB_iff.mp b1) hz
  have hC0 : Ch TT LWY H (sI H 0 0 47 0) := Ch.sI rfl rfl (Ch.rf H)
  have hp0 : gI (sI H 0 0 47 0) 0 0 47 = nI 0 := by rw [gI_eq]; rfl
  have hRR0 : RR nr (sI H 0 0 47 0) := RR_sI hRR (by omega) (by omega)
  unfold f_X9_isWay
  rw [hl_e]
  generalize sI H 0 0 47 0 = H0 at hC0 hp0 hRR0 ⊢
  have hG0 := MG_ch h hC0 rfl
  have hW0 := MW_ch hW hC0 rfl
  have hd0 : gI H0 0 3 r = bI true := by rw [hC0.gi _ _ _ rfl]; exact hd
  obtain ⟨v1, v2, v3, v4⟩ := id hW0
  rw [dn_yes hRR0 hr, bnd_s, hd0, if_neg (show ¬ bI true = 0 by decide), if_neg (by decide)]
  simp only [l0, c_lt]
  rw [gd_nI (by omega) (by decide), nI_clamp (n := r) (by omega), v4]
  rcases way_cases w6 a with ⟨n, hn, rfl, ha0, hat⟩ | ⟨hnw, hc⟩
  · rw [if_neg ha0, if_pos hat]
    obtain ⟨p1, p2⟩ := bgP_ok b0 hn
    refine x9_way_41 hG0 w (by omega) b0 hW0 hn w6 ?_
    exact x9_way_119 hG0 w (by omega) v3 hrk1 hrk2 p1 (by omega) hp0 (fun len H' hC' hl' hp' hLy => ok_s ⟨Ch.tr (fun _ q => q) rfl hC0 hC', Or.inr ⟨n, len, hn, rfl, rfl, hl', hp', hLy⟩⟩)
  · refine ok_if (fun _ => ok_s ⟨hC0, Or.inl ⟨rfl, hnw, hp0⟩⟩) (fun hn0 => ?_)
    rw [if_neg (hc.elim (fun z => absurd z hn0) id)]
    exact ok_s ⟨hC0, Or.inl ⟨rfl, hnw, hp0⟩⟩
