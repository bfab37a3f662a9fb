/-- the reference's rows hold all routines: what belongs to r -/
def ow (r k i : Nat) : Prop := match k with
  | 1 => i = r
  | 2 => i = r
  | 3 => i = r
  | 4 => 20 * r ≤ i ∧ i < 20 * r + 20
  | 5 => 20 * r ≤ i ∧ i < 20 * r + 20
  | 6 => 40 * r ≤ i ∧ i < 40 * r + 40
  | 7 => 40 * r ≤ i ∧ i < 40 * r + 40
  | 8 => 40 * r ≤ i ∧ i < 40 * r + 40
  | 9 => 40 * r ≤ i ∧ i < 40 * r + 40
  | 10 => 40 * r ≤ i ∧ i < 40 * r + 40
  | 11 => 40 * r ≤ i ∧ i < 40 * r + 40
  | 12 => i = r
  | 13 => i = r
  | 14 => i = r
  | 15 => 20 * r ≤ i ∧ i < 20 * r + 20
  | 16 => 20 * r ≤ i ∧ i < 20 * r + 20
  | 17 => 40 * r ≤ i ∧ i < 40 * r + 40
  | 18 => 20 * r ≤ i ∧ i < 20 * r + 20
  | 19 => i = r
  | 20 => i = r
  | 21 => 20 * r ≤ i ∧ i < 20 * r + 20
  | 22 => 40 * r ≤ i ∧ i < 40 * r + 40
  | 23 => 40 * r ≤ i ∧ i < 40 * r + 40
  | 24 => i = r
  | 25 => 16 * r ≤ i ∧ i < 16 * r + 16
  | 26 => 16 * r ≤ i ∧ i < 16 * r + 16
  | _ => True
def Rs (r : Nat) (H H' : Hp) : Prop := ∀ k i, ¬ ow r k i → gI H' 0 k i = gI H 0 k i ∧ gJ H' 0 k i = gJ H 0 k i
theorem Rs.rf {r : Nat} (H : Hp) : Rs r H H := fun _ _ _ => ⟨rfl, rfl⟩
theorem Rs.tr {r : Nat} {H H1 H2 : Hp} (h : Rs r H H1) (h' : Rs r H1 H2) : Rs r H H2 := fun k i q => ⟨(h' k i q).1.trans (h k i q).1, (h' k i q).2.trans (h k i q).2⟩
theorem Rs.sI {r : Nat} {H0 H : Hp} {k i : Nat} {v : Int32} (ho : ow r k i) (h : Rs r H0 H) : Rs r H0 (sI H 0 k i v) := by
  intro a j q
  refine ⟨?_, (h a j q).2⟩
  rw [gI_sI, if_neg]
  · exact (h a j q).1
  · rintro ⟨-, rfl, rfl⟩; exact q ho
theorem Rs.sJ {r : Nat} {H0 H : Hp} {k i : Nat} {v : Int64} (ho : ow r k i) (h : Rs r H0 H) : Rs r H0 (sJ H 0 k i v) := by
  intro a j q
  refine ⟨(h a j q).1, ?_⟩
  rw [gJ_sJ, if_neg]
  · exact (h a j q).2
  · rintro ⟨-, rfl, rfl⟩; exact q ho
/-- nothing but scratch was changed -/
theorem Rs.ch {rs : Nat → Bool} {L : List (Nat × Nat × Option Nat)} {r : Nat} {H H' : Hp} (q : Ch rs L H H') (hL : ∀ k, k < 27 → k ≠ 0 → ∀ i, inL L 0 k i = false) : Rs r H H' := by
  intro k i ho
  have hk : k < 27 ∧ k ≠ 0 := by
    by_cases h1 : k < 27
    · refine ⟨h1, ?_⟩
      rintro rfl
      exact ho trivial
    · exfalso
      apply ho
      unfold ow
      split <;> first | omega | trivial
  have := q 0 k i (by show (true && inL L 0 k i) = false; rw [hL k hk.1 hk.2 i]; rfl)
  exact ⟨this.1, this.2.1⟩
def Cr (r : Nat) (L : List (Nat × Nat × Option Nat)) (H H' : Hp) : Prop := Ch TT L H H' ∧ Rs r H H'
theorem Cr.rf {r : Nat} {L : List (Nat × Nat × Option Nat)} (H : Hp) : Cr r L H H := ⟨Ch.rf H, Rs.rf H⟩
theorem Cr.tr {r : Nat} {L L' : List (Nat × Nat × Option Nat)} {H H1 H2 : Hp} (hL : L'.all (fun x => L.contains x) = true) (h : Cr r L H H1) (h' : Cr r L' H1 H2) : Cr r L H H2 := ⟨Ch.tr (fun _ q => q) hL h.1 h'.1, h.2.tr h'.2⟩
theorem Cr.sI {r : Nat} {L : List (Nat × Nat × Option Nat)} {H0 H : Hp} {k i : Nat} {v : Int32} (h1 : inL L 0 k i = true) (h2 : ow r k i) (h : Cr r L H0 H) : Cr r L H0 (sI H 0 k i v) := ⟨Ch.sI rfl h1 h.1, h.2.sI h2⟩
theorem Cr.sJ {r : Nat} {L : List (Nat × Nat × Option Nat)} {H0 H : Hp} {k i : Nat} {v : Int64} (h1 : inL L 0 k i = true) (h2 : ow r k i) (h : Cr r L H0 H) : Cr r L H0 (sJ H 0 k i v) := ⟨Ch.sJ rfl h1 h.1, h.2.sJ h2⟩
theorem MG_o {r r' : Nat} {G : Gr} {H H' : Hp} (h : MG r' G H) (w : WG G) (q : Rs r H H') (hr : r' ≠ r) : MG r' G H' := by
  obtain ⟨h1, h2, h3, h4, h5, h6, h7, h8⟩ := h
  have hB := w.1
  have hE := w.2.1
  refine ⟨?_, ?_, fun b hb => ?_, fun b hb => ?_, fun e he => ?_, fun e he => ?_, fun e he => ?_, fun e he => ?_⟩
  · rw [(q 1 r' hr).1]; exact h1
  · rw [(q 2 r' hr).1]; exact h2
  · rw [(q 4 _ (by show ¬ (20 * r ≤ 20 * r' + b ∧ 20 * r' + b < 20 * r + 20); omega)).1]; exact h3 b hb
  · rw [(q 5 _ (by show ¬ (20 * r ≤ 20 * r' + b ∧ 20 * r' + b < 20 * r + 20); omega)).1]; exact h4 b hb
  · rw [(q 6 _ (by show ¬ (40 * r ≤ 40 * r' + e ∧ 40 * r' + e < 40 * r + 40); omega)).1]; exact h5 e he
  · rw [(q 7 _ (by show ¬ (40 * r ≤ 40 * r' + e ∧ 40 * r' + e < 40 * r + 40); omega)).1]; exact h6 e he
  · rw [(q 8 _ (by show ¬ (40 * r ≤ 40 * r' + e ∧ 40 * r' + e < 40 * r + 40); omega)).1]; exact h7 e he
  · rw [(q 9 _ (by show ¬ (40 * r ≤ 40 * r' + e ∧ 40 * r' + e < 40 * r + 40); omega)).1]; exact h8 e he
theorem o20 {r b : Nat} (hb : b < 20) : 20 * r ≤ 20 * r + b ∧ 20 * r + b < 20 * r + 20 := by omega
theorem o40 {r b : Nat} (hb : b < 40) : 40 * r ≤ 40 * r + b ∧ 40 * r + b < 40 * r + 40 := by omega
/-- more about numbers of ways -/
theorem adS_ext {G : Gr} (w : WG G) {n n' : Nat → Nat} (hx : Ext G n n') {b : Nat} (hr : rdy G n b (qE G) = true) {m : Nat} (hm : m ≤ qE G) : adS G n' b m = adS G n b m := by
  have h1 := rdy_iff.mp hr
  apply sumF_congr
  intro e he
  by_cases hf : qF G e = b
  · rw [if_pos hf, if_pos hf]
    have h3 := h1 e (by omega) hf
    unfold bey at h3 ⊢
    by_cases hw : qW G e = true
    · rw [if_pos hw, if_pos hw]
    · rw [if_neg hw] at h3
      rw [if_neg hw, if_neg hw]
      exact hx _ (w.2.2.2.1 e (by omega)).2.1 h3
  · rw [if_neg hf, if_neg hf]
theorem no_end {G : Gr} (hO : ∀ b, b < qB G → oG G b = true) (w : WG G) {e : Nat} (he : e < qE G) : ¬ 3 ≤ qK G (qF G e) := by
  intro k3
  have h1 := hO _ (w.2.2.2.1 e he).1
  unfold oG at h1
  rw [if_neg (by omega), if_pos k3] at h1
  have h2 : oN G (qF G e) (qE G) = 0 := of_decide_eq_true h1
  have h3 : oN G (qF G e) e < oN G (qF G e) (qE G) := cntP_lt he (decide_eq_true rfl)
  omega
theorem rdy_of {G : Gr} {n : Nat → Nat} (hc : Con G n) (hO : ∀ b, b < qB G → oG G b = true) (w : WG G) {e : Nat} (he : e < qE G) (h : n (qF G e) ≠ 0) : rdy G n (qF G e) (qE G) = true := by
  have h1 := hc _ (w.2.2.2.1 e he).1 h
  unfold cf at h1
  rw [if_neg (no_end hO w he)] at h1
  by_cases q : rdy G n (qF G e) (qE G) = true
  · exact q
  · rw [if_neg q] at h1; exact absurd h1.symm h
theorem cf_pos {G : Gr} {n : Nat → Nat} (hO : ∀ b, b < qB G → oG G b = true) {b : Nat} (hb : b < qB G) (hr : rdy G n b (qE G) = true) : cf G n b ≠ 0 := by
  unfold cf
  by_cases k3 : 3 ≤ qK G b
  · rw [if_pos k3]; decide
  · rw [if_neg k3, if_pos hr]
    have h1 := hO b hb
    have h2 : 0 < oN G b (qE G) := by
      unfold oG at h1
      by_cases k1 : qK G b = 1
      · rw [if_pos k1] at h1
        have := of_decide_eq_true h1
        omega
      · rw [if_neg k1, if_neg k3] at h1
        have := of_decide_eq_true h1
        omega
    obtain ⟨e, he, hp, -⟩ := cntP_ex h2
    have hf : qF G e = b := of_decide_eq_true hp
    have h3 := rdy_iff.mp hr e he hf
    have h4 := sumF_ge (f := fun e => if qF G e = b then bey G n e else 0) he
    simp only [if_pos hf] at h4
    have h5 : sumF (fun e => if qF G e = b then bey G n e else 0) e + bey G n e ≤ adS G n b (qE G) := h4
    omega
theorem cf_end {G : Gr} {n : Nat → Nat} (hO : ∀ b, b < qB G → oG G b = true) (w : WG G) {b : Nat} (k3 : 3 ≤ qK G b) : rdy G n b (qE G) = true := by
  rw [rdy_iff]
  intro e he hf
  exfalso
  have := no_end hO w he
  rw [hf] at this
  exact this k3
/-- what the reference knows while it counts -/
def RN (r : Nat) (G : Gr) (n : Nat → Nat) (H : Hp) : Prop := (∀ y, y < qB G → gI H 0 35 y = bI (!(decide (n y = 0)))) ∧ (∀ y, y < qB G → n y ≠ 0 → gJ H 0 15 (20 * r + y) = lN (n y)) ∧ (∀ e, e < qE G → n (qF G e) ≠ 0 → gJ H 0 17 (40 * r + e) = lN (adS G n (qF G e) e))
theorem n10 : (nI 1 = nI 0) = False := by apply eq_false; decide
theorem x9_count_70 {r b : Nat} {b2 b3 : Int32} {G : Gr} {H : Hp} {n : Nat → Nat} {k : Int32 → Int64 → Hp → Option (Int32 × Hp)} {Q : Int32 → Hp → Prop} (h : MG r G H) (w : WG G) (hr : r < 8) (hb : b < qB G) (hN : RN r G n H) (K : ∀ x H', Cr r [(0, 17, none)] H H' → (∀ f, f < qE G → qF G f ≠ b → gJ H' 0 17 (40 * r + f) = gJ H 0 17 (40 * r + f)) → (rdy G n b (qE G) = true → x = lN (adS G n b (qE G)) ∧ ∀ f, f < qE G → qF G f = b → gJ H' 0 17 (40 * r + f) = lN (adS G n b f)) → ok (k (bI (rdy G n b (qE G))) x H') Q) : ok (L_X9_count_70 (nI r) b2 b3 (nI b) k FU 1 0 (nI (40 * r)) H) Q := by
  have hB := w.1
  have hE := w.2.1
  refine ok_f3 (40 * r) (qE G) (fun e a x H' => a = bI (rdy G n b e) ∧ Cr r [(0, 17, none)] H H' ∧ (∀ f, f < qE G → qF G f ≠ b → gJ H' 0 17 (40 * r + f) = gJ H 0 17 (40 * r + f)) ∧ (rdy G n b e = true → x = lN (adS G n b e) ∧ ∀ f, f < e → qF G f = b → gJ H' 0 17 (40 * r + f) = lN (adS G n b f))) ?_ ?_ rfl ⟨rfl, Cr.rf H, fun _ _ _ => rfl, fun _ => ⟨rfl, fun f hf => absurd hf (Nat.not_lt_zero _)⟩⟩ (FUgt (by omega))
  · rintro e m a x H1 he ⟨rfl, hC, hI, hR⟩ K1
    obtain ⟨a1, a2, -, -, a5, a6, -, a8⟩ := MG_ch h hC.1 rfl
    have wf := w.2.2.2.1 e he
    have s1 : ∀ y, y < qB G → gI H1 0 35 y = bI (!(decide (n y = 0))) := fun y hy => by rw [hC.1.gi _ _ _ rfl]; exact hN.1 y hy
    have s2 : ∀ y, y < qB G → n y ≠ 0 → gJ H1 0 15 (20 * r + y) = lN (n y) := fun y hy hz => by rw [hC.1.gj _ _ _ rfl]; exact hN.2.1 y hy hz
    have rs : rdy G n b (e + 1) = (rdy G n b e && (!(decide (qF G e = b)) || !(decide (bey G n e = 0)))) := rfl
    rw [L_X9_count_70]
    by_cases hf : qF G e = b
    · by_cases hr0 : rdy G n b e = true
      · obtain ⟨rfl, hA⟩ := hR hr0
        have fin : ∀ (H2 : Hp), gI H2 0 9 (40 * r + e) = bI (qW G e) → True := fun _ _ => trivial
        have yes : bey G n e ≠ 0 → ∀ y, y = adS G n b e + bey G n e → ok (L_X9_count_70 (nI r) b2 b3 (nI b) k m (nI 1) (lN y) (nI (40 * r + (e + 1))) (sJ H1 0 17 (40 * r + e) (lN (adS G n b e)))) Q := by
          rintro hz y rfl
          have hr1 : rdy G n b (e + 1) = true := by rw [rs, hr0, decide_eq_false hz]; simp
          refine K1 _ _ _ ⟨by rw [hr1]; rfl, ?_, fun f hf1 hf2 => ?_, fun _ => ⟨by rw [adS_s hf], fun f hf1 hf2 => ?_⟩⟩
          · exact Cr.sJ rfl (o40 (by omega)) hC
          · rw [gJ_ne (fun z => hf2 (by have : f = e := by omega
                                        rw [this]; exact hf))]
            exact hI f hf1 hf2
          · rw [gJ_sJ]
            by_cases q : f = e
            · subst q; rw [if_pos ⟨rfl, rfl, rfl⟩]
            · rw [if_neg (by omega)]; exact hA f (by omega) hf2
        have e1 : gI (sJ H1 0 17 (40 * r + e) (lN (adS G n b e))) 0 9 (40 * r + e) = bI (qW G e) := by rw [gI_sJ]; exact a8 e he
        have e2 : gI (sJ H1 0 17 (40 * r + e) (lN (adS G n b e))) 0 7 (40 * r + e) = nI (qT G e) := by rw [gI_sJ]; exact a6 e he
        cases hw : qW G e with
        | true =>
          have hz : bey G n e = 1 := by unfold bey; rw [if_pos hw]
          rw [hw] at e1
          have a8e := a8 e he
          rw [hw] at a8e
          simp (disch := omega) only [l40, nImul, nIadd, a2, gd_nI, nI_clamp, nI_le_iff, if_neg, a5, nI_inj, hf, if_true, jn, hr0, l0, l1, b_eq0, Bool.true_eq_false, if_false, a8e, hl, vl, e1, k1, lN_add, n10]
          exact yes (by omega) _ (by omega)
        | false =>
          have hz : bey G n e = n (qT G e) := by unfold bey; rw [if_neg (by rw [hw]; decide)]
          rw [hw] at e1
          have a8e := a8 e he
          rw [hw] at a8e
          by_cases ht : n (qT G e) = 0
          · have t1 : gI H1 0 35 (qT G e) = bI false := by rw [s1 _ wf.2.1, ht]; rfl
            simp (disch := omega) only [l40, nImul, nIadd, a2, gd_nI, nI_clamp, nI_le_iff, if_neg, a5, nI_inj, hf, if_true, jn, hr0, l0, l1, b_eq0, Bool.true_eq_false, if_false, a8e, hl, vl, a6, t1]
            have hr1 : rdy G n b (e + 1) = false := by rw [rs, hz, ht, hf]; simp
            refine K1 _ _ _ ⟨by rw [hr1]; rfl, hC, hI, fun z => by rw [hr1] at z; cases z⟩
          · have t1 : gI H1 0 35 (qT G e) = bI true := by rw [s1 _ wf.2.1, decide_eq_false ht]; rfl
            have t2 : gJ (sJ H1 0 17 (40 * r + e) (lN (adS G n b e))) 0 15 (20 * r + qT G e) = lN (n (qT G e)) := by rw [gJ_ne (by omega)]; exact s2 _ wf.2.1 ht
            simp (disch := omega) only [l40, nImul, nIadd, a2, gd_nI, nI_clamp, nI_le_iff, if_neg, a5, nI_inj, hf, if_true, jn, hr0, l0, l1, b_eq0, Bool.true_eq_false, if_false, a8e, hl, vl, a6, t1, n10, e1, e2, l20, t2, lN_add]
            exact yes (by omega) _ (by omega)
      · have hr1 : rdy G n b (e + 1) = false := by rw [rs, (by cases z : rdy G n b e with | false => rfl | true => exact absurd z hr0 : rdy G n b e = false)]; rfl
        have hr2 : rdy G n b e = false := by cases z : rdy G n b e with | false => rfl | true => exact absurd z hr0
        simp (disch := omega) only [l40, nImul, nIadd, a2, gd_nI, nI_clamp, nI_le_iff, if_neg, a5, nI_inj, hf, if_true, jn, hr2, l0, l1, b_eq0, vl]
        refine K1 _ _ _ ⟨by rw [hr1]; rfl, hC, hI, fun z => by rw [hr1] at z; cases z⟩
    · have hr1 : rdy G n b (e + 1) = rdy G n b e := by rw [rs, decide_eq_false hf]; simp
      have ha1 : adS G n b (e + 1) = adS G n b e := by
        show adS G n b e + (if qF G e = b then bey G n e else 0) = _
        rw [if_neg hf]; rfl
      simp (disch := omega) only [l40, nImul, nIadd, a2, gd_nI, nI_clamp, nI_le_iff, if_neg, a5, nI_inj, hf, if_false, vl, l1]
      refine K1 _ _ _ ⟨by rw [hr1], hC, hI, fun z => ?_⟩
      rw [hr1] at z
      refine ⟨by rw [ha1]; exact (hR z).1, fun f hf1 hf2 => ?_⟩
      by_cases q : f = e
      · subst q; exact absurd hf2 hf
      · exact (hR z).2 f (by omega) hf2
  · rintro m a x H1 ⟨rfl, hC, hI, hR⟩
    obtain ⟨a1, a2, -⟩ := MG_ch h hC.1 rfl
    rw [L_X9_count_70]
    simp (disch := omega) only [l40, nImul, nIadd, a2, gd_nI, nI_clamp, nI_le_iff, if_pos]
    exact K x _ hC hI hR
