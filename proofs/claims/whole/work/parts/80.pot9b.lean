def SPm (r : Nat) (G : Gr) (sn : Nat → Bool) (p : Nat → Int64) (H : Hp) : Prop := (∀ x, x < qB G → gI H 0 35 x = bI (sn x)) ∧ (∀ x, x < qB G → gJ H 0 18 (20 * r + x) = p x)
abbrev LPP : List (Nat × Nat × Option Nat) := [(0, 18, none), (0, 35, none)]
theorem SPm_up {r : Nat} {G : Gr} {sn : Nat → Bool} {p : Nat → Int64} {H : Hp} {x y a b : Nat} {v : Int64} (w : WG G) (h : SPm r G sn p H) (hab : (a = x ∧ b = y) ∨ (a = y ∧ b = x)) (hx : sn x = true) (hxy : x ≠ y) : SPm r G (upB sn y true) (upJ p y v) (sI (sI (sJ H 0 18 (20 * r + y) v) 0 35 a (bI true)) 0 35 b (bI true)) := by
  refine ⟨fun z hz => ?_, fun z hz => ?_⟩
  · rw [gI_sI]
    by_cases q : z = b
    · rw [if_pos ⟨rfl, rfl, q⟩]
      rcases hab with ⟨u1, u2⟩ | ⟨u1, u2⟩
      · rw [q, u2, upB_eq]
      · rw [q, u2, upB_ne hxy, hx]
    · rw [if_neg (fun u => q u.2.2), gI_sI]
      by_cases q1 : z = a
      · rw [if_pos ⟨rfl, rfl, q1⟩]
        rcases hab with ⟨u1, u2⟩ | ⟨u1, u2⟩
        · rw [q1, u1, upB_ne hxy, hx]
        · rw [q1, u1, upB_eq]
      · rw [if_neg (fun u => q1 u.2.2), gI_sJ, upB_ne (by rcases hab with ⟨u1, u2⟩ | ⟨u1, u2⟩ <;> omega)]
        exact h.1 z hz
  · rw [gJ_sI, gJ_sI, gJ_sJ]
    by_cases q : z = y
    · rw [if_pos ⟨rfl, rfl, by omega⟩, q, upJ_eq]
    · rw [if_neg (by omega), upJ_ne q]; exact h.2 z hz
theorem x9_plan_276 {r rt : Nat} {b2 : Int32} {G : Gr} {H : Hp} {s0 sn : Nat → Bool} {p0 p : Nat → Int64} {k : Int32 → Hp → Option (Unit × Hp)} {Q : Unit → Hp → Prop} (h : MG r G H) (w : WG G) (hr : r < 8) (hI : ∀ e, e < qE G → gI H 0 37 e = bI (lgB G e)) (hA : ∀ e, e < qE G → gJ H 0 17 (40 * r + e) = lN (aD G e)) (h0 : ∀ e, lgB G e = true → s0 (qF G e) = s0 (qT G e)) (hS : SPm r G sn p H) (hP : PI G s0 rt p0 sn p) (K : ∀ mo sn' p' H', Cr r LPP H H' → SPm r G sn' p' H' → PI G s0 rt p0 sn' p' → (∀ x, sn x = true → sn' x = true) → (mo = false → ∀ e, lgB G e = true → sn' (qF G e) = sn' (qT G e)) → (mo = true → cntP sn (qB G) < cntP sn' (qB G)) → ok (k (bI mo) H') Q) : ok (L_X9_makePlan_276 (nI r) b2 k FU 0 0 H) Q := by
  have hB := w.1
  have hE := w.2.1
  refine ok_g2 (qE G) (fun i x H' => ∃ mo sn' p', x = bI mo ∧ Cr r LPP H H' ∧ SPm r G sn' p' H' ∧ PI G s0 rt p0 sn' p' ∧ (∀ x, sn x = true → sn' x = true) ∧ (mo = false → ∀ e, e < i → lgB G e = true → sn' (qF G e) = sn' (qT G e)) ∧ (mo = true → cntP sn (qB G) < cntP sn' (qB G))) ?_ ?_ rfl ⟨false, sn, p, rfl, Cr.rf H, hS, hP, fun _ q => q, fun _ e he => absurd he (Nat.not_lt_zero _), fun q => Bool.noConfusion q⟩ (FUgt (by omega))
  · rintro e n x H1 he ⟨mo, sn1, p1, rfl, hC, hS1, hP1, hm1, hf1, ht1⟩ K1
    obtain ⟨a1, a2, -, -, a5, a6, -⟩ := MG_ch h hC.1 rfl
    have wf := w.2.2.2.1 e he
    have i37 : gI H1 0 37 e = bI (lgB G e) := by rw [hC.1.gi _ _ _ rfl]; exact hI e he
    have i17 : gJ H1 0 17 (40 * r + e) = lN (aD G e) := by rw [hC.1.gj _ _ _ rfl]; exact hA e he
    have skip : (lgB G e = true → sn1 (qF G e) = sn1 (qT G e)) → ok (L_X9_makePlan_276 (nI r) b2 k n (bI mo) (nI (e + 1)) H1) Q := by
      intro q
      refine K1 _ _ ⟨mo, sn1, p1, rfl, hC, hS1, hP1, hm1, fun z f hf hl => ?_, ht1⟩
      by_cases u : f = e
      · rw [u] at hl ⊢; exact q hl
      · exact hf1 z f (by omega) hl
    have take : ∀ x y v a b, lgB G e = true → sn1 x = true → sn1 y = false → x < qB G → y < qB G → ((x = qF G e ∧ y = qT G e ∧ v = p1 x + lN (aD G e)) ∨ (x = qT G e ∧ y = qF G e ∧ v = p1 x - lN (aD G e))) → ((a = x ∧ b = y) ∨ (a = y ∧ b = x)) → ok (L_X9_makePlan_276 (nI r) b2 k n (nI 1) (nI (e + 1)) (sI (sI (sJ H1 0 18 (20 * r + y) v) 0 35 a (bI true)) 0 35 b (bI true))) Q := by
      intro x y v a b hl hx hy hxB hyB hv hab
      have hxy : x ≠ y := fun z => by rw [z, hy] at hx; cases hx
      have hup : ∀ z, sn1 z = true → upB sn1 y true z = true := by
        intro z hz
        by_cases q : z = y
        · rw [q, upB_eq]
        · rw [upB_ne q]; exact hz
      refine K1 _ _ ⟨true, upB sn1 y true, upJ p1 y v, rfl, ?_, SPm_up w hS1 hab hx hxy, PI_step w h0 hP1 hl hx hy hv, fun z hz => hup z (hm1 z hz), fun q => Bool.noConfusion q, fun _ => ?_⟩
      · exact Cr.sI rfl trivial (Cr.sI rfl trivial (Cr.sJ rfl (o20 (by omega)) hC))
      · have c1 : cntP sn1 (qB G) < cntP (upB sn1 y true) (qB G) := cntP_inc_lt (fun i _ q => hup i q) hyB hy (upB_eq _ _ _)
        have c2 : cntP sn (qB G) ≤ cntP sn1 (qB G) := cntP_inc (fun i _ q => hm1 i q)
        omega
    rw [L_X9_makePlan_276]
    cases hl : lgB G e with
    | false =>
      rw [hl] at i37
      simp (disch := omega) only [gd_nI, nI_clamp, a2, nI_le_iff, if_neg, l40, nImul, nIadd, vl, i37, l0, b_eq0, if_true, l1]
      exact skip (fun z => by rw [hl] at z; cases z)
    | true =>
      rw [hl] at i37
      simp (disch := omega) only [gd_nI, nI_clamp, a2, nI_le_iff, if_neg, l40, nImul, nIadd, vl, i37, l0, b_eq0, Bool.true_eq_false, if_false, l1, a5, a6, hS1.1, b_eqb, jn, hl, b_nar1, hS1.2, l20, i17]
      cases hF : sn1 (qF G e) with
      | false =>
        cases hT : sn1 (qT G e) with
        | false =>
          rw [if_pos rfl]
          exact skip (fun _ => by rw [hF, hT])
        | true =>
          rw [if_neg (by decide), if_pos rfl]
          exact take (qT G e) (qF G e) _ (qF G e) (qT G e) hl hT hF wf.2.1 wf.1 (Or.inr ⟨rfl, rfl, rfl⟩) (Or.inr ⟨rfl, rfl⟩)
      | true =>
        cases hT : sn1 (qT G e) with
        | true =>
          rw [if_pos rfl]
          exact skip (fun _ => by rw [hF, hT])
        | false =>
          rw [if_neg (by decide), if_neg (by decide)]
          exact take (qF G e) (qT G e) _ (qF G e) (qT G e) hl hF hT wf.1 wf.2.1 (Or.inl ⟨rfl, rfl, rfl⟩) (Or.inl ⟨rfl, rfl⟩)
  · rintro n x H1 ⟨mo, sn1, p1, rfl, hC, hS1, hP1, hm1, hf1, ht1⟩
    obtain ⟨a1, a2, -⟩ := MG_ch h hC.1 rfl
    rw [L_X9_makePlan_276]
    simp (disch := omega) only [gd_nI, nI_clamp, a2, nI_le_iff, if_pos]
    exact K mo sn1 p1 _ hC hS1 hP1 hm1 (fun z e hl => hf1 z e (lgB_iff.mp hl).1.1 hl) ht1
theorem x9_plan_267 {r rt : Nat} {b2 : Int32} {G : Gr} {H : Hp} {s0 sn : Nat → Bool} {p0 p : Nat → Int64} {k : Hp → Option (Unit × Hp)} {Q : Unit → Hp → Prop} (h : MG r G H) (w : WG G) (hr : r < 8) (hI : ∀ e, e < qE G → gI H 0 37 e = bI (lgB G e)) (hA : ∀ e, e < qE G → gJ H 0 17 (40 * r + e) = lN (aD G e)) (h0 : ∀ e, lgB G e = true → s0 (qF G e) = s0 (qT G e)) (hS : SPm r G sn p H) (hP : PI G s0 rt p0 sn p) (K : ∀ sn' p' H', Cr r LPP H H' → SPm r G sn' p' H' → PI G s0 rt p0 sn' p' → (∀ e, lgB G e = true → sn' (qF G e) = sn' (qT G e)) → ok (k H') Q) : ok (L_X9_makePlan_267 (nI r) b2 k FU 1 H) Q := by
  have hB := w.1
  refine ok_w1 (fun d a H' => ∃ mo sn' p', a = bI mo ∧ Cr r LPP H H' ∧ SPm r G sn' p' H' ∧ PI G s0 rt p0 sn' p' ∧ (mo = false → ∀ e, lgB G e = true → sn' (qF G e) = sn' (qT G e)) ∧ d = 2 * (20 - cntP sn' (qB G)) + (if mo = true then 1 else 0)) ?_ (d := 2 * (20 - cntP sn (qB G)) + 1) ⟨true, sn, p, rfl, Cr.rf H, hS, hP, fun q => Bool.noConfusion q, rfl⟩ (FUgt (by omega))
  rintro d n a H1 ⟨mo, sn1, p1, rfl, hC, hS1, hP1, hf1, rfl⟩ K1
  rw [L_X9_makePlan_267]
  cases mo with
  | false =>
    simp only [l0, b_eq0, if_true]
    exact K sn1 p1 _ hC hS1 hP1 (hf1 rfl)
  | true =>
    simp only [l0, b_eq0, Bool.true_eq_false, if_false]
    refine x9_plan_276 (MG_ch h hC.1 rfl) w hr (fun e he => by rw [hC.1.gi _ _ _ rfl]; exact hI e he) (fun e he => by rw [hC.1.gj _ _ _ rfl]; exact hA e he) h0 hS1 hP1 (fun mo sn2 p2 H2 hC2 hS2 hP2 hm2 hf2 ht2 => ?_)
    have c1 := cntP_le sn1 (qB G)
    have c2 := cntP_le sn2 (qB G)
    have c3 : cntP sn1 (qB G) ≤ cntP sn2 (qB G) := cntP_inc (fun i _ q => hm2 i q)
    cases mo with
    | false => exact K1 _ _ _ (by simp only [if_true, Bool.false_eq_true, if_false]; omega) ⟨false, sn2, p2, rfl, Cr.tr rfl hC hC2, hS2, hP2, hf2, rfl⟩
    | true =>
      have := ht2 rfl
      exact K1 _ _ _ (by simp only [if_true]; omega) ⟨true, sn2, p2, rfl, Cr.tr rfl hC hC2, hS2, hP2, fun q => Bool.noConfusion q, rfl⟩
def RI (G : Gr) (rt : Nat) (sn : Nat → Bool) (p : Nat → Int64) : Prop := (∀ x, x < qB G → (sn x = true ↔ ∃ c, c < rt ∧ Cn (Qa G) (qF G) (qT G) c x)) ∧ (∀ e, lgB G e = true → sn (qF G e) = true → sn (qT G e) = true → p (qT G e) = p (qF G e) + lN (aD G e)) ∧ (∀ b, b < qB G → sn b = true → (∀ c, c < b → ¬ Cn (Qa G) (qF G) (qT G) c b) → p b = 0)
theorem RI_cl {G : Gr} (w : WG G) {rt : Nat} {sn : Nat → Bool} {p : Nat → Int64} (h : RI G rt sn p) : ∀ e, lgB G e = true → sn (qF G e) = sn (qT G e) := by
  intro e he
  have qa := (lgB_iff.mp he).1
  have wf := w.2.2.2.1 e qa.1
  have hl : Cn (Qa G) (qF G) (qT G) (qF G e) (qT G e) := Cn.ln qa
  have : sn (qF G e) = true ↔ sn (qT G e) = true := by
    rw [h.1 _ wf.1, h.1 _ wf.2.1]
    exact ⟨fun ⟨c, c1, c2⟩ => ⟨c, c1, c2.tr hl⟩, fun ⟨c, c1, c2⟩ => ⟨c, c1, c2.tr hl.sy⟩⟩
  cases z : sn (qF G e) with
  | true => exact (this.mp z).symm
  | false =>
    cases z2 : sn (qT G e) with
    | false => rfl
    | true => rw [this.mpr z2] at z; cases z
theorem x9_plan_224 {r : Nat} {G : Gr} {H : Hp} {k : Hp → Option (Unit × Hp)} {Q : Unit → Hp → Prop} (h : MG r G H) (w : WG G) (hr : r < 8) (hI : ∀ e, e < qE G → gI H 0 37 e = bI (lgB G e)) (hA : ∀ e, e < qE G → gJ H 0 17 (40 * r + e) = lN (aD G e)) (hS : ∀ x, x < 21 → gI H 0 35 x = bI false) (K : ∀ p H', Cr r LPP H H' → Pot G p → (∀ x, x < qB G → gJ H' 0 18 (20 * r + x) = p x) → ok (k H') Q) : ok (L_X9_makePlan_224 (nI r) k FU 0 H) Q := by
  have hB := w.1
  refine ok_g1 (qB G) (fun rt H' => Cr r LPP H H' ∧ ∃ sn p, SPm r G sn p H' ∧ RI G rt sn p) ?_ ?_ rfl ⟨Cr.rf H, fun _ => false, fun x => gJ H 0 18 (20 * r + x), ⟨fun x hx => hS x (by omega), fun x hx => rfl⟩, fun x hx => ⟨fun q => Bool.noConfusion q, fun ⟨c, c1, _⟩ => absurd c1 (Nat.not_lt_zero _)⟩, fun e _ q => Bool.noConfusion q, fun b _ q => Bool.noConfusion q⟩ (FUgt (by omega))
  · rintro rt n H1 hrt ⟨hC, sn, p, hS1, hR⟩ K1
    have hG1 := MG_ch h hC.1 rfl
    obtain ⟨a1, a2, -⟩ := id hG1
    rw [L_X9_makePlan_224]
    cases hs : sn rt with
    | true =>
      have i35 := hS1.1 rt hrt
      rw [hs] at i35
      simp (disch := omega) only [gd_nI, nI_clamp, a1, nI_le_iff, if_neg, i35, l0, b_eq0, Bool.true_eq_false, if_false, vl, l1, nIadd]
      refine K1 _ ⟨hC, sn, p, hS1, fun x hx => ?_, hR.2⟩
      rw [hR.1 x hx]
      constructor
      · rintro ⟨c, c1, c2⟩; exact ⟨c, by omega, c2⟩
      · rintro ⟨c, c1, c2⟩
        by_cases q : c = rt
        · obtain ⟨c', u1, u2⟩ := (hR.1 rt hrt).mp hs
          rw [q] at c2
          exact ⟨c', u1, u2.tr c2⟩
        · exact ⟨c, by omega, c2⟩
    | false =>
      have i35 := hS1.1 rt hrt
      rw [hs] at i35
      simp (disch := omega) only [gd_nI, nI_clamp, a1, nI_le_iff, if_neg, i35, l0, b_eq0, if_true, vl, l1, nIadd, hl, b_nar1, l20, nImul]
      have hcl := RI_cl w hR
      have hC2 : Cr r LPP H1 (sJ (sI H1 0 35 rt (bI true)) 0 18 (20 * r + rt) 0) := Cr.sJ rfl (o20 (by omega)) (Cr.sI rfl trivial (Cr.rf _))
      have hC2' := Cr.tr rfl hC hC2
      refine x9_plan_267 (s0 := sn) (sn := upB sn rt true) (p0 := upJ p rt 0) (p := upJ p rt 0) (rt := rt) (MG_ch h hC2'.1 rfl) w hr (fun e he => by rw [hC2'.1.gi _ _ _ rfl]; exact hI e he) (fun e he => by rw [hC2'.1.gj _ _ _ rfl]; exact hA e he) hcl ⟨fun x hx => ?_, fun x hx => ?_⟩ ⟨fun x hx q => ?_, upB_eq _ _ _, fun x hx q => ?_, fun e he q1 q2 => ?_, fun x _ _ => rfl⟩ (fun sn2 p2 H2 hC3 hS3 hP3 hcl3 => K1 _ ⟨Cr.tr rfl hC2' hC3, sn2, p2, hS3, fun x hx => ?_, hP3.2.2.2.1, fun b hb hb1 hb2 => ?_⟩)
      · rw [gI_sJ, gI_sI]
        by_cases q : x = rt
        · rw [if_pos ⟨rfl, rfl, q⟩, q, upB_eq]
        · rw [if_neg (fun z => q z.2.2), upB_ne q]; exact hS1.1 x hx
      · rw [gJ_sJ]
        by_cases q : x = rt
        · rw [if_pos ⟨rfl, rfl, by omega⟩, q, upJ_eq]
        · rw [if_neg (by omega), upJ_ne q, gJ_sI]; exact hS1.2 x hx
      · by_cases u : x = rt
        · rw [u, upB_eq]
        · rw [upB_ne u]; exact q
      · by_cases u : x = rt
        · rw [u]; exact Or.inr (Cn.rf _)
        · rw [upB_ne u] at q; exact Or.inl q
      · have fne : qF G e ≠ qT G e := fun z => (lgB_iff.mp he).2 (by rw [z]; exact Cn.rf _)
        have hc := hcl e he
        by_cases u1 : qF G e = rt
        · exfalso
          have u2 : qT G e ≠ rt := fun z => fne (u1.trans z.symm)
          rw [upB_ne u2] at q2
          rw [u1, hs, q2] at hc; cases hc
        · by_cases u2 : qT G e = rt
          · exfalso
            rw [upB_ne u1] at q1
            rw [u2, hs, q1] at hc; cases hc
          · rw [upB_ne u1] at q1
            rw [upB_ne u2] at q2
            rw [upJ_ne u1, upJ_ne u2]
            exact hR.2.1 e he q1 q2
      · constructor
        · intro q
          rcases hP3.2.2.1 x hx q with u | u
          · obtain ⟨c, c1, c2⟩ := (hR.1 x hx).mp u
            exact ⟨c, by omega, c2⟩
          · exact ⟨rt, by omega, u.mono (fun j hj => (lgB_iff.mp hj.1).1)⟩
        · rintro ⟨c, c1, c2⟩
          by_cases q : c = rt
          · rw [q] at c2
            have hRr := c2 (fun a b => sn2 a = true ↔ sn2 b = true) (fun _ => Iff.rfl) (fun _ _ q => q.symm) (fun _ _ _ q q' => q.trans q') (light_gen (R := fun a b => sn2 a = true ↔ sn2 b = true) (fun _ => Iff.rfl) (fun _ _ q => q.symm) (fun _ _ _ q q' => q.trans q') (fun l l1 l2 => by rw [hcl3 l (lgB_iff.mpr ⟨l1, l2⟩)]))
            exact hRr.mp hP3.2.1
          · exact hP3.1 x hx ((hR.1 x hx).mpr ⟨c, by omega, c2⟩)
      · by_cases q : sn b = true
        · have hbr : b ≠ rt := fun z => by rw [z, hs] at q; cases q
          rw [hP3.2.2.2.2 b hb (Or.inl q), upJ_ne hbr]
          exact hR.2.2 b hb q hb2
        · have hbr : b = rt := by
            rcases hP3.2.2.1 b hb hb1 with u | u
            · exact absurd u q
            · have u' : Cn (Qa G) (qF G) (qT G) rt b := u.mono (fun j hj => (lgB_iff.mp hj.1).1)
              rcases Nat.lt_trichotomy b rt with z | z | z
              · exact absurd ((hR.1 b hb).mpr ⟨b, z, Cn.rf _⟩) q
              · exact z
              · exact absurd u' (hb2 rt z)
          rw [hP3.2.2.2.2 b hb (Or.inr hbr), hbr, upJ_eq]
  · rintro n H1 ⟨hC, sn, p, hS1, hR⟩
    obtain ⟨a1, a2, -⟩ := MG_ch h hC.1 rfl
    rw [L_X9_makePlan_224]
    simp (disch := omega) only [gd_nI, nI_clamp, a1, nI_le_iff, if_pos]
    have all : ∀ x, x < qB G → sn x = true := fun x hx => (hR.1 x hx).mpr ⟨x, hx, Cn.rf _⟩
    refine K p _ hC ⟨fun e he hg => ?_, fun b hb hb2 => hR.2.2 b hb (all b hb) hb2⟩ hS1.2
    have wf := w.2.2.2.1 e he.1
    exact hR.2.1 e (lgB_iff.mpr ⟨he, hg⟩) (all _ wf.1) (all _ wf.2.1)
