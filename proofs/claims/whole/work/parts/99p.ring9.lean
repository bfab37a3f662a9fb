/-- the reference's path through the tree -/
def RS (G : Gr) (Z : Nat → Bool) (e t : Nat) (M : Nat → Bool) (H : Hp) : Prop := ∃ (pa tm : Nat → Nat) (us : Bool), (∀ v, v ≤ 20 → gI H 0 35 v = bI (M v)) ∧ M t = true ∧ (∀ v, v ≤ 20 → M v = true → v ≠ t → gI H 0 44 v = nI (pa v) ∧ tT G (pa v) ∧ ∃ p, p ≤ 20 ∧ M p = true ∧ tm p < tm v ∧ ends2 G (pa v) v p ∧ (pa v = e → Z p = Z t)) ∧ (∀ v, v ≤ 20 → M v = true → tm v < cntP M 21) ∧ (us = false → ∀ v, v ≤ 20 → M v = true → Z v = Z t) ∧ (us = true → M (lF G e) = true ∧ M (lT G e) = true)
theorem rs_add {G : Gr} {Z : Nat → Bool} {e t j y p : Nat} {M : Nat → Bool} {H : Hp} (hcut : Cut G Z e) (hj : tT G j) (he : ends2 G j y p) (hy : y ≤ 20) (hp : p ≤ 20) (hMy : M y = false) (hMp : M p = true) (h : RS G Z e t M H) : RS G Z e t (upB M y true) (sI (sI H 0 35 y (bI true)) 0 44 y (nI j)) := by
  obtain ⟨pa, tm, us, h1, h2, h3, h4, h5, h6⟩ := h
  have hyt : y ≠ t := fun z => by rw [z, h2] at hMy; cases hMy
  have hyp : y ≠ p := fun z => by rw [z, hMp] at hMy; cases hMy
  have up1 : ∀ v, M v = true → upB M y true v = true := fun v hv => by
    show (if v = y then true else M v) = true
    by_cases q : v = y
    · rw [if_pos q]
    · rw [if_neg q]; exact hv
  have up2 : ∀ v, v ≠ y → upB M y true v = M v := fun v hv => if_neg hv
  have hcnt := cnt_up (n := 21) (show y < 21 by omega) hMy
  have hus : j = e → us = false := by
    intro hje
    cases hu : us with
    | false => rfl
    | true =>
      obtain ⟨a, b⟩ := h6 hu
      rcases he with ⟨x1, x2⟩ | ⟨x1, x2⟩
      · rw [← hje, x1, hMy] at a; cases a
      · rw [← hje, x1, hMy] at b; cases b
  refine ⟨upN pa y j, upN tm y (cntP M 21), @ite _ (j = e) _ true us, fun v hv => ?_, up1 t h2, fun v hv hM hvt => ?_, fun v hv hM => ?_, fun hu v hv hM => ?_, fun hu => ?_⟩
  · rw [gI_ne (by omega)]
    by_cases q : v = y
    · rw [q, gI_eq, show upB M y true y = true from if_pos rfl]
    · rw [gI_ne (by omega), up2 v q]; exact h1 v hv
  · by_cases q : v = y
    · subst q
      rw [gI_eq, show upN pa v j v = j from if_pos rfl]
      refine ⟨rfl, hj, p, hp, up1 p hMp, ?_, he, fun hje => h5 (hus hje) p hp hMp⟩
      rw [show upN tm v (cntP M 21) v = cntP M 21 from if_pos rfl, show upN tm v (cntP M 21) p = tm p from if_neg (fun z => hyp z.symm)]
      exact h4 p hp hMp
    · rw [up2 v q] at hM
      obtain ⟨a1, a2, p', a3, a4, a5, a6, a7⟩ := h3 v hv hM hvt
      rw [gI_ne (by omega), gI_ne (by omega), show upN pa y j v = pa v from if_neg q]
      refine ⟨a1, a2, p', a3, up1 p' a4, ?_, a6, a7⟩
      have hpy : p' ≠ y := fun z => by rw [z, hMy] at a4; cases a4
      rw [show upN tm y (cntP M 21) v = tm v from if_neg q, show upN tm y (cntP M 21) p' = tm p' from if_neg hpy]
      exact a5
  · rw [hcnt]
    by_cases q : v = y
    · rw [q, show upN tm y (cntP M 21) y = cntP M 21 from if_pos rfl]; omega
    · rw [up2 v q] at hM
      rw [show upN tm y (cntP M 21) v = tm v from if_neg q]
      have := h4 v hv hM
      omega
  · by_cases hje : j = e
    · rw [if_pos hje] at hu; cases hu
    · rw [if_neg hje] at hu
      by_cases q : v = y
      · have hz := hcut.1 j hj hje
        have hzp := h5 hu p hp hMp
        rw [q]
        rcases he with ⟨x1, x2⟩ | ⟨x1, x2⟩
        · rw [x1, x2] at hz; rw [hz]; exact hzp
        · rw [x1, x2] at hz; rw [← hz]; exact hzp
      · rw [up2 v q] at hM; exact h5 hu v hv hM
  · by_cases hje : j = e
    · rw [← hje]
      have uy : upB M y true y = true := if_pos rfl
      rcases he with ⟨x1, x2⟩ | ⟨x1, x2⟩
      · rw [x1, x2]; exact ⟨uy, up1 p hMp⟩
      · rw [x1, x2]; exact ⟨up1 p hMp, uy⟩
    · rw [if_neg hje] at hu
      exact ⟨up1 _ (h6 hu).1, up1 _ (h6 hu).2⟩
abbrev LRG : List (Nat × Nat × Option Nat) := [(0, 35, none), (0, 44, none)]
theorem LY_ch {rs : Nat → Bool} {L : List (Nat × Nat × Option Nat)} {G : Gr} {kn : Nat → Bool} {x : Nat → Int64} {n : Nat} {H H' : Hp} (h : LY G kn x n H) (q : Ch rs L H H') (hL : nol L 0 [(39, none), (40, none), (41, none), (42, none)] = true) : LY G kn x n H' := by
  intro j hj
  obtain ⟨a1, a2, a3, a4⟩ := h j hj
  refine ⟨?_, ?_, ?_, fun z => ?_⟩
  · rw [(q.m hL (k := 39) (o := none) (by simp) rfl).1]; exact a1
  · rw [(q.m hL (k := 40) (o := none) (by simp) rfl).1]; exact a2
  · rw [(q.m hL (k := 42) (o := none) (by simp) rfl).1]; exact a3
  · rw [(q.m hL (k := 41) (o := none) (by simp) rfl).2]; exact a4 z
theorem x9_rg_104 {b3 b4 b5 : Int32} {k : Hp → Option (Int32 × Hp)} {Q : Int32 → Hp → Prop} {H : Hp} (K : ∀ H', Ch TT LRG H H' → ok (k H') Q) : ok (L_X9_ring_104 b3 b4 b5 k FU 0 H) Q := by
  refine ok_g1 21 (fun _ H' => Ch TT LRG H H') ?_ ?_ rfl (Ch.rf H) (FUgt (by omega))
  · rintro i n H1 hi hC K1
    rw [L_X9_ring_104, if_neg (by rw [l21, nI_le_iff (by omega) (by omega)]; omega), gd_nI (by omega) (by decide), hl_e]
    simp only [vl, l1, nIadd]
    exact K1 _ (Ch.sI rfl rfl hC)
  · rintro n H1 hC
    rw [L_X9_ring_104, if_pos (by rw [l21, nI_le_iff (by omega) (by omega)]; omega)]
    exact K _ hC
theorem x9_rg_134 {t : Nat} {b3 b5 : Int32} {k : Hp → Option (Int32 × Hp)} {Q : Int32 → Hp → Prop} {H : Hp} (ht : t ≤ 20) (K : ∀ H', Ch TT LRG H H' → (∀ v, v < 21 → gI H' 0 35 v = bI (decide (v = t))) → ok (k H') Q) : ok (L_X9_ring_134 b3 (nI t) b5 k FU 0 H) Q := by
  refine ok_g1 21 (fun i H' => Ch TT LRG H H' ∧ ∀ v, v < i → gI H' 0 35 v = bI (decide (v = t))) ?_ ?_ rfl ⟨Ch.rf H, fun v hv => absurd hv (Nat.not_lt_zero _)⟩ (FUgt (by omega))
  · rintro i n H1 hi ⟨hC, hI⟩ K1
    have key : ∀ b, b = decide (i = t) → Ch TT LRG H (sI H1 0 35 i (bI b)) ∧ ∀ v, v < i + 1 → gI (sI H1 0 35 i (bI b)) 0 35 v = bI (decide (v = t)) := by
      rintro b rfl
      refine ⟨Ch.sI rfl rfl hC, fun v hv => ?_⟩
      by_cases q : v = i
      · rw [q, gI_eq]
      · rw [gI_ne (by omega)]; exact hI v (by omega)
    rw [L_X9_ring_134, if_neg (by rw [l21, nI_le_iff (by omega) (by omega)]; omega)]
    by_cases q : i = t
    · rw [if_pos (by rw [q]), gd_nI (by omega) (by decide), nI_clamp (n := i) (by omega), hl_e, show vp_nar .boolean (1 : Int32) = bI true from rfl]
      simp only [vl, l1, nIadd]
      exact K1 _ (key true (decide_eq_true q).symm)
    · rw [if_neg (by rw [nI_inj (by omega) (by omega)]; exact q), gd_nI (by omega) (by decide), nI_clamp (n := i) (by omega), hl_e, show vp_nar .boolean (0 : Int32) = bI false from rfl]
      simp only [vl, l1, nIadd]
      exact K1 _ (key false (decide_eq_false q).symm)
  · rintro n H1 ⟨hC, hI⟩
    rw [L_X9_ring_134, if_pos (by rw [l21, nI_le_iff (by omega) (by omega)]; omega)]
    exact K _ hC hI
theorem x9_rg_186 {e t : Nat} {G : Gr} {Z : Nat → Bool} {x : Nat → Int64} {M0 : Nat → Bool} {b3 b4 b5 : Int32} {k : Int32 → Hp → Option (Int32 × Hp)} {Q : Int32 → Hp → Prop} {H0 H : Hp} (w : WG G) (h0 : 0 < qB G) (hcut : Cut G Z e) (h43 : gI H0 0 0 43 = nI (lk G)) (hy : LY G (fun j => !(tb G j)) x (lk G) H0) (hC0 : Ch TT LRG H0 H) (hS0 : RS G Z e t M0 H) (K : ∀ M ch H', Ch TT LRG H0 H' → RS G Z e t M H' → (ch = false → M = M0 ∧ ∀ j, tT G j → M (lF G j) = M (lT G j)) → (ch = true → cntP M0 21 < cntP M 21) → ok (k (bI ch) H') Q) : ok (L_X9_ring_186 b3 b4 b5 k FU 0 0 H) Q := by
  have hB := w.1
  have hE := w.2.1
  have hlk := lk_le w
  refine ok_g2 (lk G) (fun i a H' => ∃ M ch, a = bI ch ∧ Ch TT LRG H0 H' ∧ RS G Z e t M H' ∧ (ch = false → M = M0 ∧ ∀ j, j < i → tT G j → M (lF G j) = M (lT G j)) ∧ (ch = true → cntP M0 21 < cntP M 21)) ?_ ?_ rfl ⟨M0, false, rfl, hC0, hS0, fun _ => ⟨rfl, fun j hj => absurd hj (Nat.not_lt_zero _)⟩, fun z => Bool.noConfusion z⟩ (FUgt (by omega))
  · rintro i n a H1 hi ⟨M, ch, rfl, hC, hS, gf, gt⟩ K1
    obtain ⟨a1, a2, a3, a4⟩ := LY_ch hy hC rfl i hi
    have g43 : gI H1 0 0 43 = nI (lk G) := by rw [hC.gi _ _ _ rfl]; exact h43
    have nF := nod_le w (lF_nod w i)
    have nT := nod_le w (lT_nod w h0 i)
    obtain ⟨pa, tm, us, r1, r2⟩ := id hS
    have cF := r1 _ nF
    have cT := r1 _ nT
    rw [L_X9_ring_186, g43, if_neg (by rw [nI_le_iff (by omega) (by omega)]; omega), gd_nI (by omega) (by decide), nI_clamp (n := i) (by omega), a3]
    cases hb : tb G i with
    | false =>
      rw [show ((fun j => !(tb G j)) i) = true from by show (!(tb G i)) = true; rw [hb]; rfl, if_neg (show ¬ bI true = 0 by decide)]
      simp only [vl, l1, nIadd]
      refine K1 _ _ ⟨M, ch, rfl, hC, hS, fun hch => ⟨(gf hch).1, fun j hj htj => ?_⟩, gt⟩
      by_cases q : j = i
      · rw [q] at htj; rw [(tT_iff.mp htj).2] at hb; cases hb
      · exact (gf hch).2 j (by omega) htj
    | true =>
      rw [show ((fun j => !(tb G j)) i) = false from by show (!(tb G i)) = false; rw [hb]; rfl, if_pos (show bI false = 0 from rfl), gd_nI (by omega) (by decide), a1, gd_nI (by omega) (by decide), gd_nI (by omega) (by decide), a2, gd_nI (by omega) (by decide), nI_clamp (n := lF G i) (by omega), nI_clamp (n := lT G i) (by omega), cF, cT]
      by_cases qm : M (lF G i) = M (lT G i)
      · rw [if_pos (by rw [qm])]
        simp only [vl, l1, nIadd]
        refine K1 _ _ ⟨M, ch, rfl, hC, hS, fun hch => ⟨(gf hch).1, fun j hj htj => ?_⟩, gt⟩
        by_cases q : j = i
        · rw [q]; exact qm
        · exact (gf hch).2 j (by omega) htj
      · rw [if_neg (fun z => qm (bI_inj.mp z)), gd_nI (by omega) (by decide), gd_nI (by omega) (by decide)]
        simp only [jn]
        cases hmF : M (lF G i) with
        | false =>
          have hMy := hmF
          have hMp : M (lT G i) = true := by
            cases z : M (lT G i) with
            | true => rfl
            | false => exact absurd (hmF.trans z.symm) qm
          rw [if_pos (show bI false = 0 from rfl), gd_nI (by omega) (by decide)]
          have nY := nF
          rw [gd_nI (by omega) (by decide), nI_clamp (n := (lF G i)) (by omega), hl_e, gd_nI (by omega) (by decide), hl_e, show vp_nar .boolean (1 : Int32) = bI true from rfl]
          simp only [vl, l1, nIadd]
          exact K1 _ _ ⟨upB M (lF G i) true, true, rfl, Ch.sI rfl rfl (Ch.sI rfl rfl hC), rs_add hcut (tT_iff.mpr ⟨hi, hb⟩) (Or.inl ⟨rfl, rfl⟩) nF nT hMy hMp hS, fun z => Bool.noConfusion z, fun _ => by
            rw [cnt_up (by omega) hMy]
            cases hch : ch with
            | false => rw [(gf hch).1]; omega
            | true => have := gt hch; omega⟩
        | true =>
          have hMp := hmF
          have hMy : M (lT G i) = false := by
            cases z : M (lT G i) with
            | false => rfl
            | true => exact absurd (hmF.trans z.symm) qm
          rw [if_neg (show ¬ bI true = 0 by decide), gd_nI (by omega) (by decide)]
          have nY := nT
          rw [gd_nI (by omega) (by decide), nI_clamp (n := (lT G i)) (by omega), hl_e, gd_nI (by omega) (by decide), hl_e, show vp_nar .boolean (1 : Int32) = bI true from rfl]
          simp only [vl, l1, nIadd]
          exact K1 _ _ ⟨upB M (lT G i) true, true, rfl, Ch.sI rfl rfl (Ch.sI rfl rfl hC), rs_add hcut (tT_iff.mpr ⟨hi, hb⟩) (Or.inr ⟨rfl, rfl⟩) nT nF hMy hMp hS, fun z => Bool.noConfusion z, fun _ => by
            rw [cnt_up (by omega) hMy]
            cases hch : ch with
            | false => rw [(gf hch).1]; omega
            | true => have := gt hch; omega⟩
  · rintro n a H1 ⟨M, ch, rfl, hC, hS, gf, gt⟩
    have g43 : gI H1 0 0 43 = nI (lk G) := by rw [hC.gi _ _ _ rfl]; exact h43
    rw [L_X9_ring_186, g43, if_pos (by rw [nI_le_iff (by omega) (by omega)]; omega)]
    exact K M ch H1 hC hS (fun hch => ⟨(gf hch).1, fun j hj => (gf hch).2 j hj.1 hj⟩) gt
theorem x9_rg_167 {e t f : Nat} {G : Gr} {Z : Nat → Bool} {x : Nat → Int64} {M0 : Nat → Bool} {b3 b4 : Int32} {k : Hp → Option (Int32 × Hp)} {Q : Int32 → Hp → Prop} {H0 H : Hp} (w : WG G) (h0 : 0 < qB G) (hr : allB (spi (qF G) (qT G) (qE G) rM (qB G)) (qB G) = true) (hcut : Cut G Z e) (ht : nod G t) (hf : nod G f) (h43 : gI H0 0 0 43 = nI (lk G)) (hy : LY G (fun j => !(tb G j)) x (lk G) H0) (hC0 : Ch TT LRG H0 H) (hS0 : RS G Z e t M0 H) (K : ∀ M H', Ch TT LRG H0 H' → RS G Z e t M H' → M f = true → ok (k H') Q) : ok (L_X9_ring_167 b3 b4 (nI f) k FU 1 H) Q := by
  have hf20 := nod_le w hf
  refine ok_w1 (fun d a H' => ∃ M ch, a = bI ch ∧ Ch TT LRG H0 H' ∧ RS G Z e t M H' ∧ (ch = false → ∀ j, tT G j → M (lF G j) = M (lT G j)) ∧ d + cntP M 21 = 21 + (if ch = true then 1 else 0)) ?_ (d := 22 - cntP M0 21) ⟨M0, true, rfl, hC0, hS0, fun z => Bool.noConfusion z, ?_⟩ (FUgt (by omega))
  · rintro d n a H1 ⟨M, ch, rfl, hC, hS, gf, gd'⟩ K1
    obtain ⟨pa, tm, us, r1, r2, r3⟩ := id hS
    rw [L_X9_ring_167]
    cases ch with
    | false =>
      rw [if_pos (show bI false = 0 from rfl)]
      refine K M H1 hC hS ?_
      have c1 := tree_cn w hr ht (fun a b => M a = M b) (fun _ => rfl) (fun _ _ z => z.symm) (fun _ _ _ y z => y.trans z) (gf rfl)
      have c2 := tree_cn w hr hf (fun a b => M a = M b) (fun _ => rfl) (fun _ _ z => z.symm) (fun _ _ _ y z => y.trans z) (gf rfl)
      exact c2.symm.trans (c1.trans r2)
    | true =>
      rw [if_neg (show ¬ bI true = 0 by decide), gd_nI (by omega) (by decide), nI_clamp (n := f) (by omega), r1 f hf20]
      cases hm : M f with
      | true =>
        rw [if_neg (show ¬ bI true = 0 by decide)]
        exact K M H1 hC hS hm
      | false =>
        rw [if_pos (show bI false = 0 from rfl)]
        refine x9_rg_186 w h0 hcut h43 hy hC hS (fun M' ch' H2 q1 q2 q3 q4 => ?_)
        have hc1 : cntP M' 21 ≤ 21 := cntP_le _ _
        rw [if_pos rfl] at gd'
        cases ch' with
        | false =>
          obtain ⟨ee, ff⟩ := q3 rfl
          subst ee
          exact K1 (d - 1) _ _ (by omega) ⟨_, false, rfl, q1, q2, fun _ => ff, by rw [if_neg (by decide)]; omega⟩
        | true =>
          have := q4 rfl
          exact K1 (22 - cntP M' 21) _ _ (by omega) ⟨M', true, rfl, q1, q2, fun z => Bool.noConfusion z, by rw [if_pos rfl]; omega⟩
  · have hc1 : cntP M0 21 ≤ 21 := cntP_le _ _
    rw [if_pos rfl]; omega
theorem x9_rg_294 {e t f : Nat} {G : Gr} {Z : Nat → Bool} {M : Nat → Bool} {x : Nat → Int64} {Q : Int32 → Hp → Prop} {H : Hp} (w : WG G) (h0 : 0 < qB G) (he : e < lk G) (hcut : Cut G Z e) (ht : t ≤ 20) (hf : f ≤ 20) (hy : LY G (fun j => !(tb G j)) x (lk G) H) (hS : RS G Z e t M H) (hMf : M f = true) (K : ∀ v, v = (if Z t = Z f then (0 : Int32) else if Z t = Z (lF G e) then 1 else 2) → Q v H) : ok (L_X9_ring_294 (nI e) (nI t) (fun H57 => some (0, H57)) FU (nI f) H) Q := by
  have hB := w.1
  have hE := w.2.1
  have hlk := lk_le w
  obtain ⟨pa, tm, us, r1, r2, r3, r4, r5, r6⟩ := hS
  have hc1 : cntP M 21 ≤ 21 := cntP_le _ _
  have htm := r4 f hf hMf
  refine ok_w1 (fun d a H' => H' = H ∧ ∃ v, a = nI v ∧ v ≤ 20 ∧ M v = true ∧ Z v = Z f ∧ d = tm v) ?_ (d := tm f) ⟨rfl, f, rfl, hf, hMf, rfl, rfl⟩ (FUgt (by omega))
  rintro d n a H1 ⟨rfl, v, rfl, hv, hMv, hzv, rfl⟩ K1
  rw [L_X9_ring_294]
  by_cases qt : v = t
  · rw [if_pos (by rw [qt])]
    exact ok_s (K _ (by rw [if_pos (by rw [← qt]; exact hzv)]))
  · rw [if_neg (by rw [nI_inj (by omega) (by omega)]; exact qt)]
    obtain ⟨a1, a2, p, a3, a4, a5, a6, a7⟩ := r3 v hv hMv qt
    have hl := a2.1
    obtain ⟨b1, b2, b3, b4⟩ := hy _ hl
    have n1 := nod_le w (lF_nod w (pa v))
    have n2 := nod_le w (lT_nod w h0 (pa v))
    have hne : p ≠ v := fun z => by rw [z] at a5; omega
    rw [gd_nI (by omega) (by decide), nI_clamp (n := v) (by omega), a1]
    simp only [vl, jn]
    rw [gd_nI (by omega) (by decide), nI_clamp (n := pa v) (by omega), b2]
    have hgo : pa v ≠ e → Z p = Z f := fun hpe => by
      have hz := hcut.1 (pa v) a2 hpe
      rcases a6 with ⟨x1, x2⟩ | ⟨x1, x2⟩
      · rw [x1, x2] at hz; exact hz.symm.trans hzv
      · rw [x1, x2] at hz; exact hz.trans hzv
    by_cases q1 : lT G (pa v) = v
    · have hFp : lF G (pa v) = p := by
        rcases a6 with ⟨x1, x2⟩ | ⟨x1, x2⟩
        · exact absurd (x2.symm.trans q1) hne
        · exact x2
      rw [if_pos (by rw [q1])]
      by_cases q2 : pa v = e
      · rw [if_pos (by rw [q2]), if_neg (by decide)]
        refine ok_s (K _ ?_)
        have hp := a7 q2
        rw [q2] at q1 hFp
        have hd := hcut.2
        rw [q1, hFp, hp, hzv] at hd
        rw [if_neg hd, hFp, hp, if_pos rfl]
      · rw [if_neg (by rw [nI_inj (by omega) (by omega)]; exact q2), if_neg (by decide), gd_nI (by omega) (by decide), b1, hFp]
        exact K1 (tm p) _ _ a5 ⟨rfl, p, rfl, a3, a4, hgo q2, rfl⟩
    · have hTp : lT G (pa v) = p := by
        rcases a6 with ⟨x1, x2⟩ | ⟨x1, x2⟩
        · exact x2
        · exact absurd x1 q1
      have hFv : lF G (pa v) = v := by
        rcases a6 with ⟨x1, x2⟩ | ⟨x1, x2⟩
        · exact x1
        · exact absurd x1 q1
      rw [if_neg (by rw [nI_inj (by omega) (by omega)]; exact q1)]
      by_cases q2 : pa v = e
      · rw [if_pos (by rw [q2]), if_pos trivial]
        refine ok_s (K _ ?_)
        have hp := a7 q2
        rw [q2] at hTp hFv
        have hd := hcut.2
        rw [hFv, hTp, hp, hzv] at hd
        rw [if_neg (fun z => hd z.symm), hFv, hzv, if_neg (fun z => hd z.symm)]
      · rw [if_neg (by rw [nI_inj (by omega) (by omega)]; exact q2), if_pos trivial, gd_nI (by omega) (by decide), hTp]
        exact K1 (tm p) _ _ a5 ⟨rfl, p, rfl, a3, a4, hgo q2, rfl⟩
