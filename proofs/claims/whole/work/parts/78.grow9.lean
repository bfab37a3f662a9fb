/-- the reference grows trees -/
def cnd (G : Gr) (fw : Bool) (e : Nat) : Prop := e < qE G ∧ (fw = true → qW G e = false)
def cndB (G : Gr) (fw : Bool) (e : Nat) : Bool := decide (e < qE G) && (!fw || !(qW G e))
theorem cndB_iff {G : Gr} {fw : Bool} {e : Nat} : cndB G fw e = true ↔ cnd G fw e := by
  unfold cndB cnd
  cases fw <;> cases qW G e <;> simp
def Pk (G : Gr) (fw : Bool) (P0 : Nat → Prop) (e j : Nat) : Prop := P0 j ∨ (cnd G fw j ∧ ky G j < ky G e)
def grT (G : Gr) (fw : Bool) (P0 : Nat → Prop) (e : Nat) : Prop := cnd G fw e ∧ ¬ Cn (Pk G fw P0 e) (lF G) (lT G) (lF G e) (lT G e)
theorem x9_grow_8 {r : Nat} {fw : Bool} {G : Gr} {H : Hp} {k : Hp → Option (Unit × Hp)} {Q : Unit → Hp → Prop} (h : MG r G H) (w : WG G) (hr : r < 8) (K : ∀ H', Ch TT [(0, 37, none), (0, 38, none)] H H' → (∀ e, e < 40 → gI H' 0 38 e = bI (!(cndB G fw e)) ∧ gI H' 0 37 e = bI false) → ok (k H') Q) : ok (L_X9_grow_8 (nI r) (bI fw) k FU 0 H) Q := by
  have hE := w.2.1
  refine ok_g1 40 (fun i H' => Ch TT [(0, 37, none), (0, 38, none)] H H' ∧ ∀ e, e < i → gI H' 0 38 e = bI (!(cndB G fw e)) ∧ gI H' 0 37 e = bI false) ?_ ?_ rfl ⟨Ch.rf H, fun e he => absurd he (Nat.not_lt_zero _)⟩ (FUgt (by omega))
  · rintro i n H1 hi ⟨hC, hI⟩ K1
    obtain ⟨a1, a2, -, -, -, -, -, a8⟩ := MG_ch h hC rfl
    have put : ∀ b, b = !(cndB G fw i) → ok (L_X9_grow_8 (nI r) (bI fw) k n (nI (i + 1)) (sI (sI H1 0 38 i (bI b)) 0 37 i (bI false))) Q := by
      rintro b rfl
      refine K1 _ ⟨?_, fun e he => ?_⟩
      · exact Ch.sI rfl rfl (Ch.sI rfl rfl hC)
      · rw [gI_ne (by omega), gI_sI, gI_sI]
        by_cases q : e = i
        · rw [if_pos ⟨rfl, rfl, q⟩, if_pos ⟨rfl, rfl, q⟩, q]; exact ⟨rfl, rfl⟩
        · rw [if_neg (fun z => q z.2.2), if_neg (fun z => q z.2.2), gI_ne (by omega)]; exact hI e (by omega)
    rw [L_X9_grow_8]
    by_cases q : i < qE G
    · have hd : decide (i < qE G) = true := decide_eq_true q
      simp (disch := omega) only [l40, nI_le_iff, if_neg, gd_nI, nI_clamp, jn, a2, l0, b_eq0, nImul, nIadd, a8, hl, vl, l1, b_nar0, b_nar1]
      cases fw with
      | false =>
        rw [if_pos rfl]
        exact put _ (by unfold cndB; rw [hd]; rfl)
      | true =>
        rw [if_neg (by decide)]
        cases hw : qW G i with
        | false =>
          rw [if_pos rfl]
          exact put _ (by unfold cndB; rw [hd, hw]; rfl)
        | true =>
          rw [if_neg (by decide)]
          exact put _ (by unfold cndB; rw [hd, hw]; rfl)
    · simp (disch := omega) only [l40, nI_le_iff, if_neg, if_pos, gd_nI, nI_clamp, jn, a2, l0, hl, vl, l1, b_nar0, b_nar1, nIadd]
      exact put _ (by unfold cndB; rw [decide_eq_false q]; rfl)
  · rintro n H1 ⟨hC, hI⟩
    rw [L_X9_grow_8]
    simp (disch := omega) only [l40, nI_le_iff, if_pos]
    exact K _ hC hI
theorem x9_grow_82 {r : Nat} {G : Gr} {H : Hp} {tr : Nat → Bool} {k : Int32 → Hp → Option (Unit × Hp)} {Q : Unit → Hp → Prop} (h : MG r G H) (w : WG G) (hr : r < 8) (ht : ∀ e, e < qE G → gI H 0 38 e = bI (tr e)) (K0 : (∀ e, e < qE G → tr e = true) → ok (k N1 H) Q) (K1 : ∀ b, b < qE G → tr b = false → (∀ f, f < qE G → tr f = false → ky G b ≤ ky G f) → ok (k (nI b) H) Q) : ok (L_X9_grow_82 (nI r) k FU (-1) 0 H) Q := by
  have hE := w.2.1
  obtain ⟨a1, a2, -, -, -, -, a7, a8⟩ := id h
  refine ok_g2 (qE G) (fun i x H' => H' = H ∧ ((x = N1 ∧ ∀ e, e < i → tr e = true) ∨ ∃ b, x = nI b ∧ b < i ∧ tr b = false ∧ ∀ f, f < i → tr f = false → ky G b ≤ ky G f)) ?_ ?_ rfl ⟨rfl, Or.inl ⟨rfl, fun e he => absurd he (Nat.not_lt_zero _)⟩⟩ (FUgt (by omega))
  · rintro i n x H1 hi ⟨rfl, hI⟩ K2
    have gi := (w.2.2.2.1 i hi).2.2
    rw [L_X9_grow_82]
    rcases hI with ⟨rfl, hI⟩ | ⟨b, rfl, hb, htb, hI⟩
    · simp (disch := omega) only [gd_nI, nI_clamp, a2, nI_le_iff, if_neg, ht, l0, b_eq0, N_lt, if_true, vl, l1, nIadd]
      refine ok_if (fun hc => K2 _ _ ⟨rfl, Or.inr ⟨i, rfl, by omega, hc, fun f hf htf => ?_⟩⟩) (fun hc => K2 _ _ ⟨rfl, Or.inl ⟨rfl, fun e he => ?_⟩⟩)
      · by_cases q : f = i
        · rw [q]; exact Nat.le_refl _
        · have := hI f (by omega); rw [htf] at this; cases this
      · by_cases q : e = i
        · rw [q]; exact bt_of hc
        · exact hI e (by omega)
    · have gb := (w.2.2.2.1 b (by omega)).2.2
      simp (disch := omega) only [gd_nI, nI_clamp, a2, nI_le_iff, if_neg, ht, l0, b_eq0, nI_lt_iff, vl, l1, nIadd, l40, nImul, a7]
      refine ok_if (fun hc => ok_if (fun hd => K2 _ _ ⟨rfl, Or.inr ⟨b, rfl, by omega, htb, fun f hf htf => ?_⟩⟩) (fun hd => K2 _ _ ⟨rfl, Or.inr ⟨i, rfl, by omega, hc, fun f hf htf => ?_⟩⟩)) (fun hc => K2 _ _ ⟨rfl, Or.inr ⟨b, rfl, by omega, htb, fun f hf htf => ?_⟩⟩)
      · by_cases q : f = i
        · rw [q]
          have := (ky_lt w (show b < qE G by omega) hi).mpr (by omega)
          omega
        · exact hI f (by omega) htf
      · by_cases q : f = i
        · rw [q]; exact Nat.le_refl _
        · have h1 := hI f (by omega) htf
          have := (ky_lt w hi (show b < qE G by omega)).mpr (by omega)
          omega
      · by_cases q : f = i
        · rw [q] at htf; exact absurd htf hc
        · exact hI f (by omega) htf
  · rintro n x H1 ⟨rfl, hI⟩
    rw [L_X9_grow_82]
    simp (disch := omega) only [gd_nI, nI_clamp, a2, nI_le_iff, if_pos]
    rcases hI with ⟨rfl, hI⟩ | ⟨b, rfl, hb, htb, hI⟩
    · exact K0 hI
    · exact K1 b hb htb hI
/-- labels of the reference -/
def LbM (G : Gr) (P : Nat → Prop) (H : Hp) : Prop := ∃ S : Nat → Nat, (∀ x, x < 21 → gI H 0 36 x = nI (S x)) ∧ (∀ x, x < 21 → S x < 21) ∧ (∀ x y, x < 21 → y < 21 → (S x = S y ↔ Cn P (lF G) (lT G) x y))
theorem LbM_ch {G : Gr} {P : Nat → Prop} {L : List (Nat × Nat × Option Nat)} {H H' : Hp} (h : LbM G P H) (q : Ch TT L H H') (hL : nol L 0 [(36, none)] = true) : LbM G P H' := by
  obtain ⟨S, h1, h2, h3⟩ := h
  exact ⟨S, fun c hc => by rw [(q.m hL (k := 36) (o := none) (by simp) rfl).1]; exact h1 c hc, h2, h3⟩
theorem LbM_join {G : Gr} {H : Hp} {P P' : Nat → Prop} {l a b : Nat} (hS : LbM G P H) (hP : ∀ j, P' j ↔ (P j ∨ j = l)) (ha : lF G l = a) (hb : lT G l = b) (ha2 : a < 21) (hb2 : b < 21) : ok (f_X9_join (nI a) (nI b) H) (fun _ H' => Ch TT [(0, 36, none)] H H' ∧ LbM G P' H') := by
  obtain ⟨S, h1, h2, h3⟩ := hS
  refine ok_m (x9_join ha2 hb2 h1 h2) ?_
  rintro _ H' ⟨hC, hI⟩
  refine ⟨hC, fun x => if S x = S a then S b else S x, hI, fun x hx => ?_, fun x y hx hy => ?_⟩
  · show (if S x = S a then S b else S x) < 21
    split
    · exact h2 _ hb2
    · exact h2 x hx
  · rw [Cn.iff hP]
    exact lab_add' (N := fun x => x < 21) (by rw [ha]; exact ha2) (by rw [hb]; exact hb2) h3 (fun z _ => by rw [ha, hb]) x y hx hy
theorem x9_grow_71 {r : Nat} {fw : Bool} {G : Gr} {H : Hp} {P0 : Nat → Prop} (h : MG r G H) (w : WG G) (hr : r < 8) (hP0 : ∀ j, P0 j → ¬ j < qE G) (hI : ∀ e, e < qE G → gI H 0 38 e = bI (!(cndB G fw e)) ∧ gI H 0 37 e = bI false) (hL : LbM G P0 H) : ok (L_X9_grow_71 (nI r) (fun H40 => some ((), H40)) FU 1 H) (fun _ H' => Ch TT [(0, 36, none), (0, 37, none), (0, 38, none)] H H' ∧ ∀ e, e < qE G → ∃ b, gI H' 0 37 e = bI b ∧ (b = true ↔ grT G fw P0 e)) := by
  have hB := w.1
  have hE := w.2.1
  have hlk : qE G < lk G := by unfold lk; omega
  refine ok_w1 (fun d a H' => ∃ mo tr, a = bI mo ∧ Ch TT [(0, 36, none), (0, 37, none), (0, 38, none)] H H' ∧ (∀ e, e < qE G → gI H' 0 38 e = bI (tr e)) ∧ (∀ e, e < qE G → ¬ cnd G fw e → tr e = true) ∧ (∀ e f, cnd G fw e → cnd G fw f → tr f = true → ky G e < ky G f → tr e = true) ∧ LbM G (fun j => P0 j ∨ (cnd G fw j ∧ tr j = true)) H' ∧ (∀ e, e < qE G → ∃ b, gI H' 0 37 e = bI b ∧ (b = true ↔ tr e = true ∧ grT G fw P0 e)) ∧ (mo = false → ∀ e, e < qE G → tr e = true) ∧ d = 2 * cntP (fun e => !(tr e)) (qE G) + (if mo = true then 1 else 0)) ?_ (d := 2 * cntP (fun e => !(!(cndB G fw e))) (qE G) + 1) ⟨true, fun e => !(cndB G fw e), rfl, Ch.rf H, fun e he => (hI e he).1, fun e he hc => ?_, fun e f he hf hft _ => ?_, ?_, fun e he => ⟨false, (hI e he).2, ?_⟩, fun q => Bool.noConfusion q, rfl⟩ (by have := cntP_le (fun e => !(!(cndB G fw e))) (qE G); exact FUgt (by omega))
  · rintro d n a H1 ⟨mo, tr, rfl, hC, ht, htn, htd, hL1, hT, hf, rfl⟩ K1
    have hG1 := MG_ch h hC rfl
    rw [L_X9_grow_71]
    cases mo with
    | false =>
      simp (disch := omega) only [l0, b_eq0, if_true]
      refine ok_s ⟨hC, fun e he => ?_⟩
      obtain ⟨b, b1, b2⟩ := hT e he
      exact ⟨b, b1, by rw [b2]; exact ⟨fun q => q.2, fun q => ⟨hf rfl e he, q⟩⟩⟩
    | true =>
      simp (disch := omega) only [l0, b_eq0, Bool.true_eq_false, if_false]
      refine x9_grow_82 hG1 w hr ht (fun hall => ?_) (fun b hb htb hmin => ?_)
      · simp (disch := omega) only [jn, N_lt, if_true]
        exact K1 (2 * cntP (fun e => !(tr e)) (qE G)) _ _ (by simp) ⟨false, tr, rfl, hC, ht, htn, htd, hL1, hT, fun _ => hall, by simp⟩
      · have wf := w.2.2.2.1 b hb
        obtain ⟨a1, a2, -, -, a5, a6, -⟩ := id hG1
        have cb : cnd G fw b := Classical.not_not.mp (fun z => by have := htn b hb z; rw [htb] at this; cases this)
        have hC2 : Ch TT [(0, 38, none)] H1 (sI H1 0 38 b (bI true)) := Ch.sI rfl rfl (Ch.rf _)
        obtain ⟨S, s1, s2, s3⟩ := LbM_ch hL1 hC2 rfl
        have lfb : lF G b = qF G b := lF_e hb
        have ltb : lT G b = qT G b := lT_e hb
        have same : ∀ j, (P0 j ∨ (cnd G fw j ∧ tr j = true)) ↔ Pk G fw P0 b j := by
          intro j
          constructor
          · rintro (q | ⟨q1, q2⟩)
            · exact Or.inl q
            · refine Or.inr ⟨q1, ?_⟩
              rcases Nat.lt_trichotomy (ky G j) (ky G b) with z | z | z
              · exact z
              · have := ky_inj w (show j < lk G by have := q1.1; omega) (show b < lk G by omega) z
                rw [this, htb] at q2; cases q2
              · have := htd b j cb q1 q2 z
                rw [htb] at this; cases this
          · rintro (q | ⟨q1, q2⟩)
            · exact Or.inl q
            · refine Or.inr ⟨q1, ?_⟩
              cases z : tr j with
              | true => rfl
              | false => have := hmin j q1.1 z; omega
        have after : ∀ j, (P0 j ∨ (cnd G fw j ∧ upB tr b true j = true)) ↔ ((P0 j ∨ (cnd G fw j ∧ tr j = true)) ∨ j = b) := by
          intro j
          by_cases q : j = b
          · rw [q, upB_eq]
            exact ⟨fun _ => Or.inr rfl, fun _ => Or.inr ⟨cb, rfl⟩⟩
          · rw [upB_ne q]
            exact ⟨Or.inl, fun z => z.elim id (fun u => absurd u q)⟩
        have cnt : cntP (fun e => !(upB tr b true e)) (qE G) + 1 = cntP (fun e => !(tr e)) (qE G) := by
          refine cntP_one hb (by show (!(upB tr b true b)) = false; rw [upB_eq]; rfl) (by show (!(tr b)) = true; rw [htb]; rfl) (fun i hi q => by show (!(upB tr b true i)) = !(tr i); rw [upB_ne q])
        have htn2 : ∀ e, e < qE G → ¬ cnd G fw e → upB tr b true e = true := by
          intro e he hc
          by_cases q : e = b
          · rw [q, upB_eq]
          · rw [upB_ne q]; exact htn e he hc
        have htd2 : ∀ e f, cnd G fw e → cnd G fw f → upB tr b true f = true → ky G e < ky G f → upB tr b true e = true := by
          intro e f he hf hft hk
          by_cases q : e = b
          · rw [q, upB_eq]
          · rw [upB_ne q]
            by_cases q1 : f = b
            · rw [q1] at hk
              cases z : tr e with
              | true => rfl
              | false => have := hmin e he.1 z; omega
            · rw [upB_ne q1] at hft
              exact htd e f he hf hft hk
        have e36 : ∀ x, x < 21 → gI (sI H1 0 38 b (bI true)) 0 36 x = nI (S x) := s1
        have e6 : gI (sI H1 0 38 b (bI true)) 0 6 (40 * r + b) = nI (qF G b) := by rw [gI_ne (by omega)]; exact a5 b hb
        have e7 : gI (sI H1 0 38 b (bI true)) 0 7 (40 * r + b) = nI (qT G b) := by rw [gI_ne (by omega)]; exact a6 b hb
        have sF := s2 _ (show qF G b < 21 by omega)
        have sT := s2 _ (show qT G b < 21 by omega)
        have ht2 : ∀ e, e < qE G → gI (sI H1 0 38 b (bI true)) 0 38 e = bI (upB tr b true e) := by
          intro e he
          rw [gI_sI]
          by_cases q : e = b
          · rw [if_pos ⟨rfl, rfl, q⟩, q, upB_eq]
          · rw [if_neg (fun z => q z.2.2), upB_ne q]; exact ht e he
        simp (disch := omega) only [jn, nI_lt_iff, if_neg, l1, n10, if_false, gd_nI, nI_clamp, hl, b_nar1, l40, nImul, nIadd, vl, e6, e7, e36, nI_inj]
        refine ok_if (fun hc => ?_) (fun hc => ?_)
        · have hng : ¬ grT G fw P0 b := by
            rintro ⟨-, z⟩
            apply z
            rw [← Cn.iff same, lfb, ltb, ← s3 _ _ (by omega) (by omega)]
            exact hc
          refine K1 (2 * cntP (fun e => !(upB tr b true e)) (qE G) + 1) _ _ (by simp only [if_true]; omega) ⟨true, upB tr b true, rfl, Ch.tr (fun _ q => q) rfl hC hC2, ht2, htn2, htd2, ⟨S, s1, s2, fun x y hx hy => ?_⟩, fun e he => ?_, fun q => Bool.noConfusion q, by simp⟩
          · rw [Cn.iff after]
            refine lab_add (N := fun x => x < 21) (by rw [lfb]; omega) (by rw [ltb]; omega) s3 (fun z _ => ?_) x y hx hy
            rw [lfb, ltb]
            by_cases q : S z = S (qT G b)
            · rw [if_pos q, q, hc]
            · rw [if_neg q]
          · obtain ⟨c, c1, c2⟩ := hT e he
            refine ⟨c, by rw [gI_ne (by omega)]; exact c1, ?_⟩
            by_cases q : e = b
            · rw [c2, q, upB_eq, htb]
              exact ⟨fun z => Bool.noConfusion z.1, fun z => absurd z.2 hng⟩
            · rw [c2, upB_ne q]
        · have hg : grT G fw P0 b := by
            refine ⟨cb, fun z => hc ?_⟩
            rw [← Cn.iff same, lfb, ltb, ← s3 _ _ (by omega) (by omega)] at z
            exact z
          refine ok_b (LbM_join (l := b) ⟨S, s1, s2, s3⟩ after lfb ltb (by omega) (by omega)) ?_
          rintro _ H2 ⟨hC3, hL3⟩
          have hC4 : Ch TT [(0, 37, none)] H2 (sI H2 0 37 b (bI true)) := Ch.sI rfl rfl (Ch.rf _)
          refine K1 (2 * cntP (fun e => !(upB tr b true e)) (qE G) + 1) _ _ (by simp only [if_true]; omega) ⟨true, upB tr b true, rfl, Ch.tr (fun _ q => q) rfl (Ch.tr (fun _ q => q) rfl (Ch.tr (fun _ q => q) rfl hC hC2) hC3) hC4, fun e he => ?_, htn2, htd2, LbM_ch hL3 hC4 rfl, fun e he => ?_, fun q => Bool.noConfusion q, by simp⟩
          · rw [hC4.gi _ _ _ rfl, hC3.gi _ _ _ rfl]; exact ht2 e he
          · by_cases q : e = b
            · rw [q]
              refine ⟨true, gI_eq _ _ _ _ _, ?_⟩
              rw [upB_eq]
              exact ⟨fun _ => ⟨rfl, hg⟩, fun _ => rfl⟩
            · obtain ⟨c, c1, c2⟩ := hT e he
              refine ⟨c, ?_, by rw [c2, upB_ne q]⟩
              rw [gI_ne (by omega), hC3.gi _ _ _ rfl, hC2.gi _ _ _ rfl]; exact c1
  · show (!(cndB G fw e)) = true
    cases z : cndB G fw e with
    | false => rfl
    | true => exact absurd (cndB_iff.mp z) hc
  · have : cndB G fw f = true := cndB_iff.mpr hf
    simp [this] at hft
  · obtain ⟨S, s1, s2, s3⟩ := hL
    refine ⟨S, s1, s2, fun x y hx hy => ?_⟩
    rw [s3 x y hx hy]
    refine Cn.iff (fun j => ⟨Or.inl, fun z => z.elim id (fun ⟨u1, u2⟩ => ?_)⟩)
    have : cndB G fw j = true := cndB_iff.mpr u1
    simp [this] at u2
  · constructor
    · intro q; cases q
    · rintro ⟨q1, q2⟩
      have : cndB G fw e = true := cndB_iff.mpr q2.1
      simp [this] at q1
theorem x9_grow {r : Nat} {fw : Bool} {G : Gr} {H : Hp} {P0 : Nat → Prop} (h : MG r G H) (w : WG G) (hr : r < 8) (hP0 : ∀ j, P0 j → ¬ j < qE G) (hL : LbM G P0 H) : ok (f_X9_grow (nI r) (bI fw) H) (fun _ H' => Ch TT [(0, 36, none), (0, 37, none), (0, 38, none)] H H' ∧ ∀ e, e < qE G → ∃ b, gI H' 0 37 e = bI b ∧ (b = true ↔ grT G fw P0 e)) := by
  have hE := w.2.1
  unfold f_X9_grow
  refine x9_grow_8 h w hr (fun H1 hC1 hI1 => ?_)
  refine ok_m (x9_grow_71 (MG_ch h hC1 rfl) w hr hP0 (fun e he => hI1 e (by omega)) (LbM_ch hL hC1 rfl)) ?_
  rintro _ H2 ⟨hC2, hI2⟩
  exact ⟨Ch.tr (fun _ q => q) rfl (Ch.tr (fun _ q => q) rfl (Ch.rf H) hC1) hC2, hI2⟩
