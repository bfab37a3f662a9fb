/-- the class rebuilds -/
theorem up_ne {G : Gr} {ln uL : Nat → Nat} (h : EL G ln uL) {k k' : Nat} (h0 : 0 < k) (hk : k < k') (hk' : k' < qB G + 1) : uL (ln k) ≠ uL (ln k') := by
  obtain ⟨h1, h2, h3, h4, h5⟩ := h
  obtain ⟨-, j, j1, j2⟩ := h5 k h0 (by omega)
  obtain ⟨-, j', i1, i2⟩ := h5 k' (by omega) hk'
  intro e
  rw [← e] at i2
  have hd : ln k' = ln k ∨ ln k' = ln j := by
    rcases i2 with ⟨x1, x2⟩ | ⟨x1, x2⟩ <;> rcases j2 with ⟨y1, y2⟩ | ⟨y1, y2⟩
    · exact Or.inl (x1.symm.trans y1)
    · exact Or.inr (x1.symm.trans y2)
    · exact Or.inr (x1.symm.trans y2)
    · exact Or.inl (x1.symm.trans y1)
  rcases hd with z | z
  · have := h3 _ _ hk' (by omega) z; omega
  · have := h3 _ _ hk' (by omega) z; omega
theorem up_all {G : Gr} (w : WG G) (h0 : 0 < qB G) (hk : qK G 0 ≠ 3) {ln uL : Nat → Nat} (h : EL G ln uL) (hn : ∀ l, nod G (lF G l) ∧ nod G (lT G l)) {l : Nat} (hl : tT G l) : ∃ k, 0 < k ∧ k < qB G + 1 ∧ uL (ln k) = l := by
  apply Classical.byContradiction
  intro hno
  obtain ⟨h1, h2, h3, h4, h5⟩ := h
  have key : ∀ k, k < qB G + 1 → Cn (fun j => tT G j ∧ j ≠ l) (lF G) (lT G) 20 (ln k) := by
    intro k
    induction k using Nat.strongRecOn with
    | ind k ih =>
      intro hkk
      by_cases z : k = 0
      · rw [z, h1]; exact Cn.rf _
      · obtain ⟨t1, j, j1, j2⟩ := h5 k (by omega) hkk
        have hc : Cn (fun j => tT G j ∧ j ≠ l) (lF G) (lT G) (lF G (uL (ln k))) (lT G (uL (ln k))) := Cn.ln (P := fun j => tT G j ∧ j ≠ l) ⟨t1, fun e => hno ⟨k, by omega, hkk, e⟩⟩
        have hj := ih j j1 (by omega)
        rcases j2 with ⟨x1, x2⟩ | ⟨x1, x2⟩
        · rw [x1, x2] at hc; exact hj.tr hc.sy
        · rw [x1, x2] at hc; exact hj.tr hc
  obtain ⟨k1, a1, a2⟩ := h4 _ (hn l).1
  obtain ⟨k2, b1, b2⟩ := h4 _ (hn l).2
  have c1 := key k1 a1
  have c2 := key k2 b1
  rw [a2] at c1
  rw [b2] at c2
  exact acyc w h0 hk l hl (c1.sy.tr c2)
theorem not_leave {G : Gr} (w : WG G) (hw : why G = 0) (he : 0 < qE G) : qK G 0 ≠ 3 := by
  intro h3
  obtain ⟨b0, b1, b2, b3⟩ := ff4_0 (why_0 hw).1
  have hO := allB_iff.mp b1
  have hs : ∀ b, spi (qF G) (qT G) (qE G) rM (qB G) b = true → b = 0 := spi_in (S := fun b => b = 0) (fun b h => of_decide_eq_true h) (fun e he' h => absurd (by rw [h, h3]; omega) (no_end hO w he')) (qB G)
  have z := hs _ (allB_iff.mp b2 _ (w.2.2.2.1 0 he).1)
  exact no_end hO w he (by rw [z, h3]; omega)
theorem nI_down (d : Nat) : nI (d + 1) + (-1 : Int32) = nI d := by
  rw [nI_pred', Int32.add_assoc, show nI 1 + (-1 : Int32) = 0 by decide, Int32.add_zero]
theorem x5_re_2 {r : Nat} {G : Gr} {ls : Nat → Int64} {k : Hp → Option (Unit × Hp)} {Q : Unit → Hp → Prop} {H : Hp} (w : WG G) (hb : gI H (r + 2) 1 10 = nI (qB G)) (hl : ∀ b, b < qB G → gJ H (r + 2) 7 b = ls b) (K : ∀ H', Ch TT LCY H H' → (∀ b, b < qB G → gJ H' (r + 2) 32 b = - ls b) → ok (k H') Q) : ok (L_X5_rebuild_2 r k FU 0 H) Q := by
  have hB := w.1
  refine ok_g1 (qB G) (fun i H' => Ch TT LCY H H' ∧ ∀ b, b < i → gJ H' (r + 2) 32 b = - ls b) ?_ ?_ rfl ⟨Ch.rf H, fun c hc => absurd hc (Nat.not_lt_zero _)⟩ (FUgt (by omega))
  · rintro i n H1 hi ⟨hC, hI⟩ K1
    have e1 : gI H1 (r + 2) 1 10 = nI (qB G) := by rw [hC.gi _ _ _ rfl]; exact hb
    have e2 : gJ H1 (r + 2) 7 i = ls i := by rw [hC.gj _ _ _ rfl]; exact hl i hi
    rw [L_X5_rebuild_2, e1]
    simp (disch := omega) only [nI_le_iff, if_neg, gd_nI, nI_clamp, hl_e, vl, l1, nIadd, e2]
    refine K1 _ ⟨Ch.sJ rfl rfl hC, fun c hc => ?_⟩
    by_cases q : c = i
    · rw [q, gJ_eq]
    · rw [gJ_ne (by omega)]; exact hI c (by omega)
  · rintro n H1 ⟨hC, hI⟩
    have e1 : gI H1 (r + 2) 1 10 = nI (qB G) := by rw [hC.gi _ _ _ rfl]; exact hb
    rw [L_X5_rebuild_2, e1, if_pos (by rw [nI_le_iff (by omega) (by omega)]; omega)]
    exact K _ hC hI
theorem CL_ch' {rs : Nat → Bool} {L : List (Nat × Nat × Option Nat)} {H H' : Hp} {r : Nat} {G : Gr} (h : CL r G H) (q : Ch rs L H H') (hL : nol L 2 fpCL = true) : CL r G H' := by
  obtain ⟨h1, h2, h3⟩ := h
  refine ⟨?_, fun j hj => ?_, fun j hj => ?_⟩
  · rw [(q.c hL (k := 1) (o := some 12) (by simp [fpCL]) rfl).1]; exact h1
  · rw [(q.c hL (k := 13) (o := none) (by simp [fpCL]) rfl).1]; exact h2 j hj
  · rw [(q.c hL (k := 14) (o := none) (by simp [fpCL]) rfl).1]; exact h3 j hj
theorem x5_re_44 {r : Nat} {G : Gr} {cN s1 : Nat → Int64} {S0 : Int64} {k : Hp → Option (Unit × Hp)} {Q : Unit → Hp → Prop} {H : Hp} (w : WG G) (h0 : 0 < qB G) (he : gI H (r + 2) 1 11 = nI (qE G)) (hL : CL r G H) (ht : ∀ j, j < lk G → gI H (r + 2) 27 j = bI (tb G j)) (hc : ∀ e, e < qE G → gJ H (r + 2) 35 e = cN e) (hS : SC r G s1 S0 (fun _ => false) (fun _ => 0) H) (K : ∀ H' D x, Ch TT LCY H H' → SC r G s1 S0 D x H' → (∀ j, j < lk G → (D j = true ↔ tb G j = false)) → (∀ j, j < lk G → D j = true → x j = cN j) → ok (k H') Q) : ok (L_X5_rebuild_44 r k FU 0 H) Q := by
  have hE := w.2.1
  have hk := lk_gt G
  refine ok_g1 (qE G) (fun i H' => ∃ D x, Ch TT LCY H H' ∧ SC r G s1 S0 D x H' ∧ (∀ j, j < lk G → (D j = true ↔ j < i ∧ tb G j = false)) ∧ ∀ j, j < lk G → D j = true → x j = cN j) ?_ ?_ rfl ⟨_, _, Ch.rf H, hS, fun j _ => ⟨fun z => Bool.noConfusion z, fun z => absurd z.1 (Nat.not_lt_zero _)⟩, fun j _ z => Bool.noConfusion z⟩ (FUgt (by omega))
  · rintro i n H1 hi ⟨D, x, hC, hS1, hD, hx⟩ K1
    have e1 : gI H1 (r + 2) 1 11 = nI (qE G) := by rw [hC.gi _ _ _ rfl]; exact he
    have e2 : gI H1 (r + 2) 27 i = bI (tb G i) := by rw [hC.gi _ _ _ rfl]; exact ht i (by omega)
    have e3 : gJ H1 (r + 2) 35 i = cN i := by rw [hC.gj _ _ _ rfl]; exact hc i hi
    rw [L_X5_rebuild_44, e1, if_neg (by rw [nI_le_iff (by omega) (by omega)]; omega), gd_nI (by omega) (by decide), nI_clamp (n := i) (by omega), e2]
    cases hb : tb G i with
    | false =>
      rw [if_pos (show bI false = 0 from rfl), gd_nI (by omega) (by decide), e3]
      have hDi : D i = false := by
        cases z : D i with
        | false => rfl
        | true => have := ((hD i (by omega)).mp z).1; omega
      refine ok_b (sc_carry w h0 (CL_ch' hL hC rfl) (show i < lk G by omega) hS1 hDi) ?_
      rintro - H2 ⟨q2, hS2, -⟩
      simp only [vl, l1, nIadd]
      refine K1 _ ⟨_, _, Ch.tr (fun _ q => q) rfl hC q2, hS2, fun j hj => ?_, fun j hj hd => ?_⟩
      · show (if j = i then true else D j) = true ↔ _
        by_cases q : j = i
        · rw [if_pos q, q]; exact ⟨fun _ => ⟨by omega, hb⟩, fun _ => rfl⟩
        · rw [if_neg q, hD j hj]; exact ⟨fun z => ⟨by omega, z.2⟩, fun z => ⟨by omega, z.2⟩⟩
      · show (if j = i then cN i else x j) = cN j
        by_cases q : j = i
        · rw [if_pos q, q]
        · have hd' : (if j = i then true else D j) = true := hd
          rw [if_neg q] at hd' ⊢
          exact hx j hj hd'
    | true =>
      rw [if_neg (show ¬ bI true = 0 by decide)]
      simp only [vl, l1, nIadd]
      refine K1 _ ⟨D, x, hC, hS1, fun j hj => ?_, hx⟩
      rw [hD j hj]
      refine ⟨fun z => ⟨by omega, z.2⟩, fun z => ⟨?_, z.2⟩⟩
      have hne : j ≠ i := fun y => by rw [y, hb] at z; cases z.2
      omega
  · rintro n H1 ⟨D, x, hC, hS1, hD, hx⟩
    have e1 : gI H1 (r + 2) 1 11 = nI (qE G) := by rw [hC.gi _ _ _ rfl]; exact he
    rw [L_X5_rebuild_44, e1, if_pos (by rw [nI_le_iff (by omega) (by omega)]; omega)]
    refine K _ D x hC hS1 (fun j hj => ?_) hx
    rw [hD j hj]
    refine ⟨fun z => z.2, fun z => ⟨?_, z⟩⟩
    apply Classical.byContradiction
    intro hne
    rw [tb_iff.mpr (Or.inl (by omega))] at z
    cases z
theorem dlt_F {G : Gr} {u l : Nat} (v : Int64) (h : lF G l = u) (h' : lT G l ≠ u) : dlt G u l v = - v := by
  unfold dlt
  rw [if_neg h', if_pos h]; grind
theorem dlt_T {G : Gr} {u l : Nat} (v : Int64) (h : lT G l = u) (h' : lF G l ≠ u) : dlt G u l v = v := by
  unfold dlt
  rw [if_neg h', if_pos h]; grind
theorem dlt_0 {G : Gr} {u l : Nat} (v : Int64) (h : lT G l ≠ u) (h' : lF G l ≠ u) : dlt G u l v = 0 := by
  unfold dlt
  rw [if_neg h', if_neg h]; grind
theorem x5_re_85 {r : Nat} {G : Gr} {cN s1 : Nat → Int64} {S0 : Int64} {ln uL : Nat → Nat} {D0 : Nat → Bool} {x0 : Nat → Int64} {k : Hp → Option (Unit × Hp)} {Q : Unit → Hp → Prop} {H : Hp} (w : WG G) (h0 : 0 < qB G) (hL : CL r G H) (hEL : EL G ln uL) (hU : CUp r G ln uL H) (hS : SC r G s1 S0 D0 x0 H) (hD0 : ∀ j, j < lk G → (D0 j = true ↔ tb G j = false)) (hx0 : ∀ j, j < lk G → D0 j = true → x0 j = cN j) (K : ∀ H' D x, Ch TT LCY H H' → SC r G s1 S0 D x H' → (∀ j, j < lk G → (D j = true ↔ tb G j = false ∨ ∃ k, 0 < k ∧ k < qB G + 1 ∧ uL (ln k) = j)) → (∀ j, j < lk G → tb G j = false → x j = cN j) → (∀ k, 0 < k → k < qB G + 1 → gJ H' (r + 2) 32 (nd G (ln k)) = 0) → ok (k H') Q) : ok (L_X5_rebuild_85 r k FU (nI (qB G)) H) Q := by
  have hB := w.1
  have hE := w.2.1
  have hlk := lk_le w
  have hEL' := hEL
  obtain ⟨h1, h2, h3, h4, h5⟩ := hEL'
  refine ok_w1 (fun d a H' => a = nI d ∧ d ≤ qB G ∧ ∃ D x, Ch TT LCY H H' ∧ SC r G s1 S0 D x H' ∧ (∀ j, j < lk G → (D j = true ↔ tb G j = false ∨ ∃ k, d < k ∧ k < qB G + 1 ∧ uL (ln k) = j)) ∧ (∀ j, j < lk G → tb G j = false → x j = cN j) ∧ (∀ k, d < k → k < qB G + 1 → gJ H' (r + 2) 32 (nd G (ln k)) = 0)) ?_ (d := qB G) ⟨rfl, Nat.le_refl _, D0, x0, Ch.rf H, hS, fun j hj => ?_, fun j hj hb => hx0 j hj ((hD0 j hj).mpr hb), fun k y1 y2 => absurd y2 (by omega)⟩ (FUgt (by omega))
  · rintro d n a H1 ⟨rfl, hd, D, x, hC, hS1, hD, hx, hz⟩ K1
    rw [L_X5_rebuild_85]
    by_cases q0 : d = 0
    · rw [if_pos (by rw [l0, nI_le_iff (by omega) (by omega)]; omega)]
      subst q0
      exact K _ D x hC hS1 hD hx hz
    · obtain ⟨t1, j, j1, j2⟩ := h5 d (by omega) (by omega)
      have nk := h2 d (by omega)
      have mk := nd_le w nk
      have hUk := hU.2.1 d (by omega)
      have hUu := hU.2.2.1 d (by omega) (by omega)
      have e30 : gI H1 (r + 2) 30 d = nI (nd G (ln d)) := by rw [hC.gi _ _ _ rfl]; exact hUk
      have e29 : gI H1 (r + 2) 29 (nd G (ln d)) = nI (uL (ln d)) := by rw [hC.gi _ _ _ rfl]; exact hUu
      have hl := t1.1
      have e13 : gI H1 (r + 2) 13 (uL (ln d)) = nI (nd G (lF G (uL (ln d)))) := by rw [hC.gi _ _ _ rfl]; exact hL.2.1 _ hl
      have hne : ln j ≠ ln d := fun z => by have := h3 _ _ (by omega) (by omega) z; omega
      have hDl : D (uL (ln d)) = false := by
        cases z : D (uL (ln d)) with
        | false => rfl
        | true =>
          rcases (hD _ hl).mp z with y | ⟨k', y1, y2, y3⟩
          · rw [(tT_iff.mp t1).2] at y; cases y
          · exact absurd y3.symm (up_ne hEL (by omega) y1 y2)
      have m1 := nd_le w (lF_nod w (uL (ln d)))
      rw [if_neg (by rw [l0, nI_le_iff (by omega) (by omega)]; omega), gd_nI (by omega) (by decide), nI_clamp (n := d) (by omega), e30]
      simp only [vl]
      rw [gd_nI (by omega) (by decide), nI_clamp (n := nd G (ln d)) (by omega), e29, if_neg (fun z => absurd (show nI (uL (ln d)) < 0 by rw [z]; decide) (nI_pos (by omega))), gd_nI (by omega) (by decide), nI_clamp (n := uL (ln d)) (by omega), e13, gd_nI (by omega) (by decide)]
      have rest : ∀ v, gJ H1 (r + 2) 32 (nd G (ln d)) + dlt G (ln d) (uL (ln d)) v = 0 → ok (bnd (f_X5_carry r (nI (uL (ln d))) v H1) (fun w21 H20 => L_X5_rebuild_85 r k n (nI d + (-1 : Int32)) H20)) Q := by
        intro v hv
        refine ok_b (sc_carry w h0 (CL_ch' hL hC rfl) hl hS1 hDl) ?_
        rintro - H2 ⟨q2, hS2, hs2⟩
        obtain ⟨d', rfl⟩ : ∃ d', d = d' + 1 := ⟨d - 1, by omega⟩
        rw [nI_down]
        refine K1 d' _ _ (by omega) ⟨rfl, by omega, _, _, Ch.tr (fun _ q => q) rfl hC q2, hS2, fun i hi => ?_, fun i hi hb => ?_, fun k' y1 y2 => ?_⟩
        · show (if i = uL (ln (d' + 1)) then true else D i) = true ↔ _
          by_cases q : i = uL (ln (d' + 1))
          · rw [if_pos q]; exact ⟨fun _ => Or.inr ⟨d' + 1, by omega, by omega, q.symm⟩, fun _ => rfl⟩
          · rw [if_neg q, hD i hi]
            refine ⟨fun z => z.elim Or.inl (fun ⟨k', y1, y2, y3⟩ => Or.inr ⟨k', by omega, y2, y3⟩), fun z => z.elim Or.inl (fun ⟨k', y1, y2, y3⟩ => Or.inr ⟨k', ?_, y2, y3⟩)⟩
            have : k' ≠ d' + 1 := fun y => q (by rw [← y3, y])
            omega
        · show (if i = uL (ln (d' + 1)) then v else x i) = cN i
          have hne2 : i ≠ uL (ln (d' + 1)) := fun y => by rw [y, (tT_iff.mp t1).2] at hb; cases hb
          rw [if_neg hne2]; exact hx i hi hb
        · have nk' := h2 k' y2
          rw [hs2 _ (nd_le w nk'), un_nd w nk']
          by_cases q : k' = d' + 1
          · rw [q]; exact hv
          · have a1 : ln k' ≠ ln (d' + 1) := fun z => q (h3 _ _ y2 (by omega) z)
            have a2 : ln k' ≠ ln j := fun z => by have := h3 _ _ y2 (by omega) z; omega
            rw [hz k' (by omega) y2]
            rcases j2 with ⟨x1, x2⟩ | ⟨x1, x2⟩
            · rw [dlt_0 v (by rw [x2]; exact a2.symm) (by rw [x1]; exact a1.symm)]; rfl
            · rw [dlt_0 v (by rw [x1]; exact a1.symm) (by rw [x2]; exact a2.symm)]; rfl
      by_cases hF : lF G (uL (ln d)) = ln d
      · rw [if_pos (by rw [hF])]
        refine rest _ ?_
        have hT : lT G (uL (ln d)) ≠ ln d := by
          rcases j2 with ⟨x1, x2⟩ | ⟨x1, x2⟩
          · rw [x2]; exact hne
          · rw [hF] at x2; exact absurd x2.symm hne
        rw [dlt_F _ hF hT]; grind
      · rw [if_neg (by rw [nI_inj (by omega) (by omega), nd_inj w (lF_nod w _) nk]; exact hF), gd_nI (by omega) (by decide)]
        refine rest _ ?_
        have hT : lT G (uL (ln d)) = ln d := by
          rcases j2 with ⟨x1, x2⟩ | ⟨x1, x2⟩
          · exact absurd x1 hF
          · exact x1
        rw [dlt_T _ hT hF]; grind
  · rw [hD0 j hj]
    exact ⟨Or.inl, fun z => z.elim id (fun ⟨k', y1, y2, _⟩ => absurd y2 (by omega))⟩
