theorem x9_plan_2 {r : Nat} {G : Gr} {H : Hp} {k : Hp → Option (Unit × Hp)} {Q : Unit → Hp → Prop} (K : ∀ H', Ch TT [(0, 36, none)] H H' → LbM G (fun _ => False) H' → ok (k H') Q) : ok (L_X9_makePlan_2 (nI r) k FU 0 H) Q := by
  refine ok_g1 21 (fun i H' => Ch TT [(0, 36, none)] H H' ∧ ∀ x, x < i → gI H' 0 36 x = nI x) ?_ ?_ rfl ⟨Ch.rf H, fun c hc => absurd hc (Nat.not_lt_zero _)⟩ (FUgt (by omega))
  · rintro i n H1 hi ⟨hC, hI⟩ K1
    rw [L_X9_makePlan_2]
    simp (disch := omega) only [l21, nI_le_iff, if_neg, gd_nI, nI_clamp, hl, vl, l1, nIadd]
    refine K1 _ ⟨?_, fun c hc => ?_⟩
    · exact Ch.sI rfl rfl hC
    · rw [gI_sI]
      by_cases q : c = i
      · rw [if_pos ⟨rfl, rfl, q⟩, q]
      · rw [if_neg (fun z => q z.2.2)]; exact hI c (by omega)
  · rintro n H1 ⟨hC, hI⟩
    rw [L_X9_makePlan_2]
    simp (disch := omega) only [l21, nI_le_iff, if_pos]
    refine K _ hC ⟨fun x => x, hI, fun x hx => hx, fun x y hx hy => ?_⟩
    constructor
    · intro z; rw [show x = y from z]; exact Cn.rf _
    · intro z
      exact z (fun a b => a = b) (fun _ => rfl) (fun _ _ q => q.symm) (fun _ _ _ q q' => q.trans q') (fun j hj => hj.elim)
theorem x9_plan_176 {r : Nat} {G : Gr} {H : Hp} {k : Hp → Option (Unit × Hp)} {Q : Unit → Hp → Prop} (K : ∀ H', Ch TT [(0, 36, none)] H H' → LbM G (fun _ => False) H' → ok (k H') Q) : ok (L_X9_makePlan_176 (nI r) k FU 0 H) Q := by
  refine ok_g1 21 (fun i H' => Ch TT [(0, 36, none)] H H' ∧ ∀ x, x < i → gI H' 0 36 x = nI x) ?_ ?_ rfl ⟨Ch.rf H, fun c hc => absurd hc (Nat.not_lt_zero _)⟩ (FUgt (by omega))
  · rintro i n H1 hi ⟨hC, hI⟩ K1
    rw [L_X9_makePlan_176]
    simp (disch := omega) only [l21, nI_le_iff, if_neg, gd_nI, nI_clamp, hl, vl, l1, nIadd]
    refine K1 _ ⟨?_, fun c hc => ?_⟩
    · exact Ch.sI rfl rfl hC
    · rw [gI_sI]
      by_cases q : c = i
      · rw [if_pos ⟨rfl, rfl, q⟩, q]
      · rw [if_neg (fun z => q z.2.2)]; exact hI c (by omega)
  · rintro n H1 ⟨hC, hI⟩
    rw [L_X9_makePlan_176]
    simp (disch := omega) only [l21, nI_le_iff, if_pos]
    refine K _ hC ⟨fun x => x, hI, fun x hx => hx, fun x y hx hy => ?_⟩
    constructor
    · intro z; rw [show x = y from z]; exact Cn.rf _
    · intro z
      exact z (fun a b => a = b) (fun _ => rfl) (fun _ _ q => q.symm) (fun _ _ _ q q' => q.trans q') (fun j hj => hj.elim)
theorem x9_plan_23 {r : Nat} {G : Gr} {H : Hp} {k : Hp → Option (Unit × Hp)} {Q : Unit → Hp → Prop} (h : MG r G H) (w : WG G) (hr : r < 8) (hL : LbM G (fun _ => False) H) (K : ∀ H', Ch TT [(0, 36, none)] H H' → LbM G (fun j => qE G ≤ j ∧ j < qE G + nL G) H' → ok (k H') Q) : ok (L_X9_makePlan_23 (nI r) k FU 0 H) Q := by
  have hB := w.1
  refine ok_g1 (qB G) (fun b H' => Ch TT [(0, 36, none)] H H' ∧ LbM G (fun j => qE G ≤ j ∧ j < qE G + cntP (lvP G) b) H') ?_ ?_ rfl ⟨Ch.rf H, ?_⟩ (FUgt (by omega))
  · rintro b n H1 hb ⟨hC, hL1⟩ K1
    obtain ⟨a1, a2, a3, -⟩ := MG_ch h hC rfl
    have hk := w.2.2.1 b hb
    have hcl : cntP (lvP G) (b + 1) ≤ cntP (lvP G) (qB G) := cntP_mono _ hb
    rw [L_X9_makePlan_23]
    simp (disch := omega) only [gd_nI, nI_clamp, a1, nI_le_iff, if_neg, l20, nImul, nIadd, a3, l3, nI_inj, vl, l1]
    refine ok_if (fun hc => ?_) (fun hc => K1 _ ⟨hC, ?_⟩)
    · have hlv : lvP G b = true := decide_eq_true hc
      rw [cntP_s, if_pos hlv] at hcl
      refine ok_b (LbM_join (l := qE G + cntP (lvP G) b) (a := b) (b := 20) (P' := fun j => qE G ≤ j ∧ j < qE G + cntP (lvP G) (b + 1)) hL1 (fun j => ?_) ?_ ?_ (by omega) (by omega)) ?_
      · rw [cntP_s, if_pos hlv]; omega
      · unfold lF nL
        rw [if_neg (by omega), if_pos (by omega), Nat.add_sub_cancel_left, lfB_eq hb hc]
      · unfold lT nL
        rw [if_neg (by omega), if_pos (by omega)]
      · rintro _ H2 ⟨hC2, hL2⟩
        exact K1 _ ⟨Ch.tr (fun _ q => q) rfl hC hC2, hL2⟩
    · have hlv : ¬ lvP G b = true := fun z => hc (of_decide_eq_true z)
      rw [cntP_s, if_neg hlv]; exact hL1
  · rintro n H1 ⟨hC, hL1⟩
    obtain ⟨a1, -⟩ := MG_ch h hC rfl
    rw [L_X9_makePlan_23]
    simp (disch := omega) only [gd_nI, nI_clamp, a1, nI_le_iff, if_pos]
    exact K _ hC hL1
  · obtain ⟨S, s1, s2, s3⟩ := hL
    refine ⟨S, s1, s2, fun x y hx hy => ?_⟩
    rw [s3 x y hx hy]
    exact Cn.iff (fun j => ⟨fun z => z.elim, fun z => by have : cntP (lvP G) 0 = 0 := rfl; omega⟩)
theorem x9_plan_90 {r : Nat} {G : Gr} {H : Hp} {it : Nat → Bool} {k : Hp → Option (Unit × Hp)} {Q : Unit → Hp → Prop} (h : MG r G H) (w : WG G) (hr : r < 8) (hI : ∀ e, e < qE G → gI H 0 37 e = bI (it e)) (h12 : gJ H 0 12 r = lN 0) (h13 : gI H 0 13 r = nI 0) (K : ∀ H', Cr r [(0, 11, none), (0, 12, none), (0, 13, none)] H H' → (∀ e, e < qE G → gI H' 0 11 (40 * r + e) = bI (!(it e))) → gJ H' 0 12 r = lN (sumF (fun e => if it e = true then 0 else qG G e) (qE G)) → gI H' 0 13 r = nI (sumF (fun e => if it e = true then 0 else 1) (qE G)) → ok (k H') Q) : ok (L_X9_makePlan_90 (nI r) k FU 0 H) Q := by
  have hE := w.2.1
  refine ok_g1 (qE G) (fun i H' => Cr r [(0, 11, none), (0, 12, none), (0, 13, none)] H H' ∧ (∀ e, e < i → gI H' 0 11 (40 * r + e) = bI (!(it e))) ∧ gJ H' 0 12 r = lN (sumF (fun e => if it e = true then 0 else qG G e) i) ∧ gI H' 0 13 r = nI (sumF (fun e => if it e = true then 0 else 1) i)) ?_ ?_ rfl ⟨Cr.rf H, fun e he => absurd he (Nat.not_lt_zero _), h12, h13⟩ (FUgt (by omega))
  · rintro i n H1 hi ⟨hC, hW, hJ, hN⟩ K1
    obtain ⟨a1, a2, -, -, -, -, a7, -⟩ := MG_ch h hC.1 rfl
    have i37 : gI H1 0 37 i = bI (it i) := by rw [hC.1.gi _ _ _ rfl]; exact hI i hi
    have gi := (w.2.2.2.1 i hi).2.2
    have hC2 : ∀ b, Cr r [(0, 11, none), (0, 12, none), (0, 13, none)] H (sI H1 0 11 (40 * r + i) (bI b)) := fun b => Cr.sI rfl (o40 (by omega)) hC
    have hW2 : ∀ e, e < i + 1 → gI (sI H1 0 11 (40 * r + i) (bI (!(it i)))) 0 11 (40 * r + e) = bI (!(it e)) := by
      intro e he
      rw [gI_sI]
      by_cases q : e = i
      · rw [if_pos ⟨rfl, rfl, by omega⟩, q]
      · rw [if_neg (by omega)]; exact hW e (by omega)
    rw [L_X9_makePlan_90]
    cases hit : it i with
    | true =>
      rw [hit] at i37 hW2
      have e37 : gI (sI H1 0 11 (40 * r + i) (bI false)) 0 37 i = bI true := by rw [gI_ne (by omega)]; exact i37
      simp (disch := omega) only [gd_nI, nI_clamp, a2, nI_le_iff, if_neg, jn, i37, l0, l1, b_eq0, Bool.true_eq_false, if_false, l40, nImul, nIadd, hl, b_nar0, vl, e37]
      refine K1 _ ⟨hC2 false, hW2, ?_, ?_⟩
      · rw [gJ_sI, hJ, sumF_s, if_pos hit]; rfl
      · rw [gI_ne (by omega), hN, sumF_s, if_pos hit]; rfl
    | false =>
      rw [hit] at i37 hW2
      have e37 : gI (sI H1 0 11 (40 * r + i) (bI true)) 0 37 i = bI false := by rw [gI_ne (by omega)]; exact i37
      have e12 : gJ (sI H1 0 11 (40 * r + i) (bI true)) 0 12 r = lN (sumF (fun e => if it e = true then 0 else qG G e) i) := by rw [gJ_sI]; exact hJ
      have e8 : gI (sI H1 0 11 (40 * r + i) (bI true)) 0 8 (40 * r + i) = nI (qG G i) := by rw [gI_ne (by omega)]; exact a7 i hi
      have e13 : gI (sI H1 0 11 (40 * r + i) (bI true)) 0 13 r = nI (sumF (fun e => if it e = true then 0 else 1) i) := by rw [gI_ne (by omega)]; exact hN
      simp (disch := omega) only [gd_nI, nI_clamp, a2, nI_le_iff, if_neg, jn, i37, l0, l1, b_eq0, if_true, l40, nImul, nIadd, hl, b_nar1, vl, e37, e12, e8, nI_l, lN_add, gI_sJ, e13]
      refine K1 _ ⟨?_, fun e he => ?_, ?_, ?_⟩
      · exact Cr.sI rfl rfl (Cr.sJ rfl rfl (hC2 true))
      · rw [gI_ne (by omega), gI_sJ]; exact hW2 e he
      · rw [gJ_sI, gJ_eq, sumF_s, if_neg (bf_ne hit)]
      · rw [gI_eq, sumF_s, if_neg (bf_ne hit)]
  · rintro n H1 ⟨hC, hW, hJ, hN⟩
    obtain ⟨a1, a2, -⟩ := MG_ch h hC.1 rfl
    rw [L_X9_makePlan_90]
    simp (disch := omega) only [gd_nI, nI_clamp, a2, nI_le_iff, if_pos]
    exact K _ hC hW hJ hN
theorem x9_plan_203 {r : Nat} {H : Hp} {k : Hp → Option (Unit × Hp)} {Q : Unit → Hp → Prop} (K : ∀ H', Ch TT [(0, 35, none)] H H' → (∀ x, x < 21 → gI H' 0 35 x = bI false) → ok (k H') Q) : ok (L_X9_makePlan_203 (nI r) k FU 0 H) Q := by
  refine ok_g1 21 (fun i H' => Ch TT [(0, 35, none)] H H' ∧ ∀ x, x < i → gI H' 0 35 x = bI false) ?_ ?_ rfl ⟨Ch.rf H, fun c hc => absurd hc (Nat.not_lt_zero _)⟩ (FUgt (by omega))
  · rintro i n H1 hi ⟨hC, hI⟩ K1
    rw [L_X9_makePlan_203]
    simp (disch := omega) only [l21, nI_le_iff, if_neg, gd_nI, nI_clamp, hl, vl, l0, l1, nIadd, b_nar0]
    refine K1 _ ⟨?_, fun c hc => ?_⟩
    · exact Ch.sI rfl rfl hC
    · rw [gI_sI]
      by_cases q : c = i
      · rw [if_pos ⟨rfl, rfl, q⟩]
      · rw [if_neg (fun z => q z.2.2)]; exact hI c (by omega)
  · rintro n H1 ⟨hC, hI⟩
    rw [L_X9_makePlan_203]
    simp (disch := omega) only [l21, nI_le_iff, if_pos]
    exact K _ hC hI
theorem x9_plan_470 {r : Nat} {H : Hp} {k : Hp → Option (Unit × Hp)} {Q : Unit → Hp → Prop} (hr : r < 8) (K : ∀ H', Cr r [(0, 22, none), (0, 23, none)] H H' → (∀ e, e < 40 → gJ H' 0 22 (40 * r + e) = 0 ∧ gJ H' 0 23 (40 * r + e) = 0) → ok (k H') Q) : ok (L_X9_makePlan_470 (nI r) k FU (nI (40 * r)) H) Q := by
  refine ok_f1 (40 * r) 40 (fun i H' => Cr r [(0, 22, none), (0, 23, none)] H H' ∧ ∀ e, e < i → gJ H' 0 22 (40 * r + e) = 0 ∧ gJ H' 0 23 (40 * r + e) = 0) ?_ ?_ rfl ⟨Cr.rf H, fun c hc => absurd hc (Nat.not_lt_zero _)⟩ (FUgt (by omega))
  · rintro i n H1 hi ⟨hC, hI⟩ K1
    rw [L_X9_makePlan_470]
    simp (disch := omega) only [l40, nImul, nIadd, nI_le_iff, if_neg, gd_nI, nI_clamp, hl, vl, l1]
    refine K1 _ ⟨?_, fun c hc => ?_⟩
    · exact Cr.sJ rfl (o40 hi) (Cr.sJ rfl (o40 hi) hC)
    · by_cases q : c = i
      · rw [q, gJ_eq, gJ_ne (by omega), gJ_eq]; exact ⟨rfl, rfl⟩
      · rw [gJ_ne (by omega), gJ_ne (by omega), gJ_ne (by omega), gJ_ne (by omega)]; exact hI c (by omega)
  · rintro n H1 ⟨hC, hI⟩
    rw [L_X9_makePlan_470]
    simp (disch := omega) only [l40, nImul, nIadd, nI_le_iff, if_pos]
    exact K _ hC hI
theorem x9_plan_506 {r : Nat} {H : Hp} {k : Hp → Option (Unit × Hp)} {Q : Unit → Hp → Prop} (hr : r < 8) (K : ∀ H', Cr r [(0, 21, none)] H H' → (∀ b, b < 20 → gJ H' 0 21 (20 * r + b) = 0) → ok (k H') Q) : ok (L_X9_makePlan_506 (nI r) k FU (nI (20 * r)) H) Q := by
  refine ok_f1 (20 * r) 20 (fun i H' => Cr r [(0, 21, none)] H H' ∧ ∀ b, b < i → gJ H' 0 21 (20 * r + b) = 0) ?_ ?_ rfl ⟨Cr.rf H, fun c hc => absurd hc (Nat.not_lt_zero _)⟩ (FUgt (by omega))
  · rintro i n H1 hi ⟨hC, hI⟩ K1
    rw [L_X9_makePlan_506]
    simp (disch := omega) only [l20, nImul, nIadd, nI_le_iff, if_neg, gd_nI, nI_clamp, hl, vl, l1]
    refine K1 _ ⟨?_, fun c hc => ?_⟩
    · exact Cr.sJ rfl (o20 hi) hC
    · by_cases q : c = i
      · rw [q, gJ_eq]
      · rw [gJ_ne (by omega)]; exact hI c (by omega)
  · rintro n H1 ⟨hC, hI⟩
    rw [L_X9_makePlan_506]
    simp (disch := omega) only [l20, nImul, nIadd, nI_le_iff, if_pos]
    exact K _ hC hI
/-- the plan of the reference; an empty log -/
def MP (r : Nat) (G Gp : Gr) (p : Nat → Int64) (H : Hp) : Prop := (∀ e, e < qE G → gI H 0 11 (40 * r + e) = bI (!(tb Gp e))) ∧ gJ H 0 12 r = lN (gsN Gp) ∧ gI H 0 13 r = nI (cnN Gp) ∧ (∀ b, b < qB G → gJ H 0 18 (20 * r + b) = p b)
def M0 (r : Nat) (H : Hp) : Prop := (∀ e, e < 40 → gJ H 0 22 (40 * r + e) = 0 ∧ gJ H 0 23 (40 * r + e) = 0) ∧ (∀ b, b < 20 → gJ H 0 21 (20 * r + b) = 0) ∧ gJ H 0 19 r = 0 ∧ gJ H 0 20 r = 0 ∧ gI H 0 24 r = nI 0
abbrev LMP : List (Nat × Nat × Option Nat) := [(0, 11, none), (0, 12, none), (0, 13, none), (0, 18, none), (0, 19, none), (0, 20, none), (0, 21, none), (0, 22, none), (0, 23, none), (0, 24, none), (0, 35, none), (0, 36, none), (0, 37, none), (0, 38, none)]
theorem inL_scr {k i : Nat} (h : k < 27) : inL [(0, 35, none), (0, 36, none), (0, 37, none), (0, 38, none)] 0 k i = false := by
  cases e : inL [(0, 35, none), (0, 36, none), (0, 37, none), (0, 38, none)] 0 k i with
  | false => rfl
  | true =>
    obtain ⟨q, hq, h1, h2, -⟩ := inL_iff.mp e
    simp at hq
    rcases hq with rfl | rfl | rfl | rfl <;> simp at h2 <;> omega
theorem Cr.scr {r : Nat} {L : List (Nat × Nat × Option Nat)} {H H' : Hp} (q : Ch TT L H H') (hL : L.all (fun x => [(0, 35, none), (0, 36, none), (0, 37, none), (0, 38, none)].contains x) = true) : Cr r LMP H H' := by
  have q1 : Ch TT [(0, 35, none), (0, 36, none), (0, 37, none), (0, 38, none)] H H' := Ch.tr (fun _ z => z) hL (Ch.rf H) q
  exact ⟨Ch.tr (fun _ z => z) rfl (Ch.rf H) q1, Rs.ch q1 (fun k hk _ i => inL_scr hk)⟩
theorem x9_makePlan {r : Nat} {G : Gr} {H : Hp} (h : MG r G H) (w : WG G) (hr : r < 8) (h0 : 0 < qB G) (hA : ∀ e, e < qE G → gJ H 0 17 (40 * r + e) = lN (aD G e)) : ok (f_X9_makePlan (nI r) H) (fun _ H' => Cr r LMP H H' ∧ (∃ p, Pot G p ∧ MP r G G p H') ∧ M0 r H') := by
  have hB := w.1
  have hE := w.2.1
  have hlk : lk G = qE G + nL G + 1 := rfl
  unfold f_X9_makePlan
  refine x9_plan_2 (G := G) (fun H1 hC1 hL1 => ?_)
  have c1 : Cr r LMP H H1 := Cr.scr hC1 rfl
  refine x9_plan_23 (MG_ch h c1.1 rfl) w hr hL1 (fun H2 hC2 hL2 => ?_)
  have c2 : Cr r LMP H H2 := Cr.tr rfl c1 (Cr.scr hC2 rfl)
  refine ok_b (LbM_join (l := qE G + nL G) (a := 20) (b := 0) (P' := fun j => qE G ≤ j ∧ j < lk G) hL2 (fun j => by omega) ?_ ?_ (by omega) (by omega)) ?_
  · unfold lF; rw [if_neg (by omega), if_neg (by omega)]
  · unfold lT; rw [if_neg (by omega), if_neg (by omega)]
  rintro _ H3 ⟨hC3, hL3⟩
  have c3 : Cr r LMP H H3 := Cr.tr rfl c2 (Cr.scr hC3 rfl)
  refine ok_b (x9_grow (fw := false) (MG_ch h c3.1 rfl) w hr (P0 := fun j => qE G ≤ j ∧ j < lk G) (fun j hj => by omega) hL3) ?_
  rintro _ H4 ⟨hC4, hI4⟩
  have c4 : Cr r LMP H H4 := Cr.tr rfl c3 (Cr.scr hC4 rfl)
  have i4 : ∀ e, e < qE G → gI H4 0 37 e = bI (tb G e) := by
    intro e he
    obtain ⟨b, b1, b2⟩ := hI4 e he
    rw [b1]
    have : b = true ↔ tb G e = true := by rw [b2, grT_t w he, tb_e he]
    cases b with
    | true => rw [this.mp rfl]
    | false => cases z : tb G e with
      | false => rfl
      | true => exact absurd (this.mpr z) (by decide)
  simp (disch := omega) only [gd_nI, nI_clamp, hl]
  have c5 : Cr r LMP H (sI (sJ H4 0 12 r 0) 0 13 r 0) := Cr.sI rfl rfl (Cr.sJ rfl rfl c4)
  refine x9_plan_90 (it := tb G) (MG_ch h c5.1 rfl) w hr (fun e he => by rw [gI_ne (by omega), gI_sJ]; exact i4 e he) (by rw [gJ_sI, gJ_eq]; rfl) (by rw [gI_eq]; rfl) (fun H6 hC6 h11 h12 h13 => ?_)
  have c6 : Cr r LMP H H6 := Cr.tr rfl c5 hC6
  refine x9_plan_176 (G := G) (fun H7 hC7 hL7 => ?_)
  have c7 : Cr r LMP H H7 := Cr.tr rfl c6 (Cr.scr hC7 rfl)
  refine ok_b (x9_grow (fw := true) (MG_ch h c7.1 rfl) w hr (P0 := fun _ => False) (fun j hj => hj.elim) hL7) ?_
  rintro _ H8 ⟨hC8, hI8⟩
  have c8 : Cr r LMP H H8 := Cr.tr rfl c7 (Cr.scr hC8 rfl)
  have i8 : ∀ e, e < qE G → gI H8 0 37 e = bI (lgB G e) := by
    intro e he
    obtain ⟨b, b1, b2⟩ := hI8 e he
    rw [b1]
    have : b = true ↔ lgB G e = true := by rw [b2, grT_l, lgB_iff]
    cases b with
    | true => rw [this.mp rfl]
    | false => cases z : lgB G e with
      | false => rfl
      | true => exact absurd (this.mpr z) (by decide)
  refine x9_plan_203 (fun H9 hC9 hI9 => ?_)
  have c9 : Cr r LMP H H9 := Cr.tr rfl c8 (Cr.scr hC9 rfl)
  refine x9_plan_224 (MG_ch h c9.1 rfl) w hr (fun e he => by rw [hC9.gi _ _ _ rfl]; exact i8 e he) (fun e he => by rw [c9.1.gj _ _ _ rfl]; exact hA e he) hI9 (fun p HA hCA hPA hpA => ?_)
  have cA : Cr r LMP H HA := Cr.tr rfl c9 hCA
  simp (disch := omega) only [l40, l20, nImul, vl]
  refine x9_plan_470 hr (fun HB hCB hIB => ?_)
  have cB : Cr r LMP H HB := Cr.tr rfl cA hCB
  refine x9_plan_506 hr (fun HC hCC hIC => ?_)
  have cC : Cr r LMP H HC := Cr.tr rfl cB hCC
  refine ok_s ⟨?_, ⟨p, hPA, fun e he => ?_, ?_, ?_, fun b hb => ?_⟩, fun e he => ?_, fun b hb => ?_, ?_, ?_, ?_⟩
  · exact Cr.sI rfl rfl (Cr.sJ rfl rfl (Cr.sJ rfl rfl cC))
  · rw [gI_ne (by omega), gI_sJ, gI_sJ, hCC.1.gi _ _ _ rfl, hCB.1.gi _ _ _ rfl, hCA.1.gi _ _ _ rfl, hC9.gi _ _ _ rfl, hC8.gi _ _ _ rfl, hC7.gi _ _ _ rfl]
    exact h11 e he
  · rw [gJ_sI, gJ_ne (by omega), gJ_ne (by omega), hCC.1.gj _ _ _ rfl, hCB.1.gj _ _ _ rfl, hCA.1.gj _ _ _ rfl, hC9.gj _ _ _ rfl, hC8.gj _ _ _ rfl, hC7.gj _ _ _ rfl]
    exact h12
  · rw [gI_ne (by omega), gI_sJ, gI_sJ, hCC.1.gi _ _ _ rfl, hCB.1.gi _ _ _ rfl, hCA.1.gi _ _ _ rfl, hC9.gi _ _ _ rfl, hC8.gi _ _ _ rfl, hC7.gi _ _ _ rfl]
    exact h13
  · rw [gJ_sI, gJ_ne (by omega), gJ_ne (by omega), hCC.1.gj _ _ _ rfl, hCB.1.gj _ _ _ rfl]
    exact hpA b hb
  · rw [gJ_sI, gJ_ne (by omega), gJ_ne (by omega), gJ_sI, gJ_ne (by omega), gJ_ne (by omega), hCC.1.gj _ _ _ rfl, hCC.1.gj _ _ _ rfl]
    exact hIB e he
  · rw [gJ_sI, gJ_ne (by omega), gJ_ne (by omega)]
    exact hIC b hb
  · rw [gJ_sI, gJ_ne (by omega), gJ_eq]
  · rw [gJ_sI, gJ_eq]
  · rw [gI_eq]; rfl
