theorem x8_edge_no {nr r : Nat} {ρ : Rt} {H : Hp} (hRR : RR nr H) (hr : r < nr) (hP : PR ρ) (hC : CR r ρ H) {f t g : Int32} {k : Bool} (hn : ¬ (rD ρ = false ∧ (0 ≤ g ∧ g ≤ 1000000) ∧ (0 ≤ f ∧ f < nI (qB (rG ρ))) ∧ (0 ≤ t ∧ t < nI (qB (rG ρ))))) : f_X8_edge nr (nI r) f t g (bI k) H = some (-1, H) := by
  have w := hP.1
  obtain ⟨c1, c2, c3, c4, c5⟩ := hC
  unfold f_X8_edge
  rw [rt_yes hRR hr, bnd_s, nz_s hr, c3]
  cases hd : rD ρ with
  | true => rw [if_neg (by decide)]
  | false =>
    rw [if_pos (show bI false = 0 from rfl), ic_x8, bnd_s]
    by_cases hg : 0 ≤ g ∧ g ≤ 1000000
    · rw [if_pos hg, if_neg (by decide)]
      unfold f_X3_addEdge
      by_cases hE : (40 : Int32) ≤ gI H (r + 2) 1 11
      · rw [if_pos hE, bnd_s]
      · rw [if_neg hE, hb_x3 c2.1, bnd_s]
        by_cases hf : 0 ≤ f ∧ f < nI (qB (rG ρ))
        · rw [if_pos hf, if_neg (by decide), hb_x3 c2.1, bnd_s]
          by_cases ht : 0 ≤ t ∧ t < nI (qB (rG ρ))
          · exact absurd ⟨hd, hg, hf, ht⟩ hn
          · rw [if_neg ht, if_pos rfl, bnd_s]
        · rw [if_neg hf, if_pos rfl, bnd_s]
    · rw [if_neg hg, if_pos rfl]
theorem x9_edge_no {nr r : Nat} {ρ : Rt} {H : Hp} (hRR : RR nr H) (hr : r < nr) (hP : PR ρ) (hM : MR r ρ H) {f t g : Int32} {k : Bool} (hn : ¬ (rD ρ = false ∧ (0 ≤ g ∧ g ≤ 1000000) ∧ (0 ≤ f ∧ f < nI (qB (rG ρ))) ∧ (0 ≤ t ∧ t < nI (qB (rG ρ))))) : f_X9_edge (nI r) f t g (bI k) H = some (-1, sI H 0 0 34 0) := by
  have h8 := hRR.1
  have hRR' : RR nr (sI H 0 0 34 0) := RR_sI hRR (by omega) (by omega)
  obtain ⟨m1, m2, m3, m4⟩ := MR_34 hM 0
  unfold f_X9_edge
  rw [hl_e]
  generalize sI H 0 0 34 0 = H0 at hRR' m1 m2 ⊢
  rw [ir_yes hRR' hr, bnd_s, if_neg (by decide), gd_nI (by omega) (by decide), nI_clamp (n := r) (by omega), m2]
  cases hd : rD ρ with
  | true => rw [if_neg (by decide)]
  | false =>
    rw [if_pos (show bI false = 0 from rfl), gd_nI (by omega) (by decide)]
    by_cases hE : gI H0 0 2 r = 40
    · rw [if_pos hE]
    · rw [if_neg hE, ib_yes hRR' hr m1.1, bnd_s]
      by_cases hf : 0 ≤ f ∧ f < nI (qB (rG ρ))
      · rw [if_pos hf, if_neg (by decide), ib_yes hRR' hr m1.1, bnd_s]
        by_cases ht : 0 ≤ t ∧ t < nI (qB (rG ρ))
        · rw [if_pos ht, if_neg (by decide), ic_x9, bnd_s]
          by_cases hg : 0 ≤ g ∧ g ≤ 1000000
          · exact absurd ⟨hd, hg, hf, ht⟩ hn
          · rw [if_neg hg, if_pos rfl]
        · rw [if_neg ht, if_pos rfl]
      · rw [if_neg hf, if_pos rfl]
theorem eq_edge {nr : Nat} {H : Hp} (h : Rel nr H) (a f t g : Int32) (k : Bool) : ok (f_X8_edge nr a f t g (bI k) H) (fun x H1 => ok (f_X9_edge a f t g (bI k) H1) (fun y H2 => y = x ∧ Rel nr H2)) := by
  obtain ⟨hRR, ρ, w, hr, hK, hC, hM⟩ := id h
  have h8 := hRR.1
  rcases arg_cases a (n := nr) (by omega) with ⟨r, hrn, rfl⟩ | ha
  · obtain ⟨b1, b2, b3⟩ := hr r hrn
    have wg := b1.1
    by_cases hv : rD (ρ r) = false ∧ (0 ≤ g ∧ g ≤ 1000000) ∧ (0 ≤ f ∧ f < nI (qB (rG (ρ r)))) ∧ (0 ≤ t ∧ t < nI (qB (rG (ρ r))))
    · obtain ⟨hd, hg, hf, ht⟩ := hv
      have hB := wg.1
      obtain ⟨fa, hfa, rfl⟩ : ∃ x, x < qB (rG (ρ r)) ∧ f = nI x := by
        rcases arg_cases f (n := qB (rG (ρ r))) (by omega) with ⟨x, x1, x2⟩ | hx
        · exact ⟨x, x1, x2⟩
        · exact absurd hf hx
      obtain ⟨ta, hta, rfl⟩ : ∃ x, x < qB (rG (ρ r)) ∧ t = nI x := by
        rcases arg_cases t (n := qB (rG (ρ r))) (by omega) with ⟨x, x1, x2⟩ | hx
        · exact ⟨x, x1, x2⟩
        · exact absurd ht hx
      obtain ⟨ga, hga, rfl⟩ : ∃ g', g' ≤ 1000000 ∧ g = nI g' := by
        obtain ⟨x, x1, x2⟩ := nI_of2 (M := 1000000) (n := 1000000) (by decide) (Int32.not_lt.mpr hg.1) hg.2
        exact ⟨x, x1, x2⟩
      obtain ⟨c1, c2, c3, c4, c5⟩ := b2
      have hval : f_X8_edge nr (nI r) (nI fa) (nI ta) (nI ga) (bI k) H = if qE (rG (ρ r)) < 40 ∧ qK (rG (ρ r)) fa < 3 ∧ oN (rG (ρ r)) fa (qE (rG (ρ r))) < 4 then some (nI (qE (rG (ρ r))), H8e r (rG (ρ r)) fa ta ga k H) else some (-1, H) := by
        unfold f_X8_edge
        rw [rt_yes hRR hrn, bnd_s, nz_s hrn, c3, hd, if_pos (show bI false = 0 from rfl), ic_x8, bnd_s, if_pos hg, if_neg (by decide), x3_addEdge c2 wg hfa hta hga]
        by_cases hq : qE (rG (ρ r)) < 40 ∧ qK (rG (ρ r)) fa < 3 ∧ oN (rG (ρ r)) fa (qE (rG (ρ r))) < 4
        · rw [if_pos hq, bnd_s]
        · rw [if_neg hq, bnd_s]
      rw [hval]
      by_cases hq : qE (rG (ρ r)) < 40 ∧ qK (rG (ρ r)) fa < 3 ∧ oN (rG (ρ r)) fa (qE (rG (ρ r))) < 4
      · rw [if_pos hq]
        refine ok_s ?_
        have q1 : Ch (fun q => q == r) [(2, 1, some 11), (2, 10, none), (2, 11, none), (2, 12, none), (2, 13, none), (2, 14, none), (2, 15, none), (2, 16, none)] H (H8e r (rG (ρ r)) fa ta ga k H) := by
          unfold H8e
          exact Ch.sI (by simp [rsg]) rfl (Ch.sI (by simp [rsg]) rfl (Ch.sI (by simp [rsg]) rfl (Ch.sI (by simp [rsg]) rfl (Ch.sI (by simp [rsg]) rfl (Ch.sI (by simp [rsg]) rfl (Ch.sI (by simp [rsg]) rfl (Ch.sI (by simp [rsg]) rfl (Ch.rf H))))))))
        have cg := CG_addE (g := ga) (k := k) c2 wg hfa hta hq.1 hq.2.2
        have wn := WG_addE (k := k) wg hfa hta hga hq.1 hq.2.2
        generalize H8e r (rG (ρ r)) fa ta ga k H = H1 at q1 cg ⊢
        have cnew : CR r (setG (ρ r) (addE (rG (ρ r)) fa ta ga k)) H1 := by
          refine ⟨?_, cg, ?_, fun e he => ?_, fun z => absurd (show rD (ρ r) = true from z) (bf_ne hd)⟩
          · rw [(q1.c (fp := [(0, none), (6, none)]) rfl (k := 0) (o := none) (by simp) rfl).1]; exact c1
          · rw [(q1.c (fp := [(0, none), (6, none)]) rfl (k := 0) (o := none) (by simp) rfl).1]; exact c3
          · rw [(q1.c (fp := [(0, none), (6, none)]) rfl (k := 6) (o := none) (by simp) rfl).1]; exact c4 e he
        have pnew : PR (setG (ρ r) (addE (rG (ρ r)) fa ta ga k)) := ⟨wn, b1.2.1, fun e he => b1.2.2.1 e (by have : qE (rG (ρ r)) + 1 ≤ e := he; omega), fun z => absurd (show rD (ρ r) = true from z) (bf_ne hd)⟩
        have hRR1 : RR nr H1 := RR_c hRR q1 rfl rfl
        obtain ⟨m1, m2, m3, m4⟩ := MR_eq b3 (fun k i => (q1.c0 rfl k i).1) (fun k i => (q1.c0 rfl k i).2)
        rw [x9_edge hRR1 hrn m1 wg (by rw [← hd]; exact m2) hfa hta hga, if_pos hq]
        refine ok_s ⟨rfl, ?_⟩
        have cr2 : Cr r [(0, 0, some 34), (0, 2, none), (0, 6, none), (0, 7, none), (0, 8, none), (0, 9, none), (0, 10, none)] H1 (H9e r (rG (ρ r)) fa ta ga k H1) := by
          unfold H9e
          exact Cr.sI rfl rfl (Cr.sI rfl (o40 (by omega)) (Cr.sI rfl (o40 (by omega)) (Cr.sI rfl (o40 (by omega)) (Cr.sI rfl (o40 (by omega)) (Cr.sI rfl (o40 (by omega)) (Cr.sI rfl trivial (Cr.rf H1)))))))
        refine Rel_up (a := setG (ρ r) (addE (rG (ρ r)) fa ta ga k)) hRR hr (PK_up hK (fun z => by rw [hd] at z; cases z)) hC hM q1 rfl rfl cr2.1 rfl rfl cr2.2 pnew cnew ?_
        obtain ⟨g1, g2, g3, g4, g5, g6, g7, g8⟩ := m1
        unfold H9e
        have rowN : ∀ (F : Nat → Nat) (v e : Nat) (kk : Nat) (X : Hp), e < qE (rG (ρ r)) + 1 → gI X 0 kk (40 * r + qE (rG (ρ r))) = nI v → (∀ f, f < qE (rG (ρ r)) → gI X 0 kk (40 * r + f) = nI (F f)) → gI X 0 kk (40 * r + e) = nI (upN F (qE (rG (ρ r))) v e) := by
          intro F v e kk X he hv hF
          by_cases q : e = qE (rG (ρ r))
          · rw [q, upN_eq]; exact hv
          · rw [upN_ne q]; exact hF e (by omega)
        refine ⟨⟨?_, ?_, fun b hb => ?_, fun b hb => ?_, fun e he => ?_, fun e he => ?_, fun e he => ?_, fun e he => ?_⟩, ?_, fun e he => ?_, fun z => absurd (show rD (ρ r) = true from z) (bf_ne hd)⟩
        · simp (disch := omega) only [gI_ne]; exact g1
        · rw [gI_eq]; rfl
        · simp (disch := omega) only [gI_ne]; exact g3 b hb
        · simp (disch := omega) only [gI_ne]; exact g4 b hb
        · refine rowN (qF (rG (ρ r))) fa e 6 _ he ?_ (fun f hf => ?_)
          · simp (disch := omega) only [gI_ne, gI_eq]
          · simp (disch := omega) only [gI_ne]; exact g5 f hf
        · refine rowN (qT (rG (ρ r))) ta e 7 _ he ?_ (fun f hf => ?_)
          · simp (disch := omega) only [gI_ne, gI_eq]
          · simp (disch := omega) only [gI_ne]; exact g6 f hf
        · refine rowN (qG (rG (ρ r))) ga e 8 _ he ?_ (fun f hf => ?_)
          · simp (disch := omega) only [gI_ne, gI_eq]
          · simp (disch := omega) only [gI_ne]; exact g7 f hf
        · have he' : e < qE (rG (ρ r)) + 1 := he
          show _ = bI (upB (qW (rG (ρ r))) (qE (rG (ρ r))) k e)
          by_cases q : e = qE (rG (ρ r))
          · rw [q, upB_eq]
            simp (disch := omega) only [gI_ne, gI_eq]
          · rw [upB_ne q]
            simp (disch := omega) only [gI_ne]; exact g8 e (by omega)
        · simp (disch := omega) only [gI_ne]; exact m2
        · have he' : e < qE (rG (ρ r)) + 1 := he
          show _ = nI (rbl (ρ r) e)
          by_cases q : e = qE (rG (ρ r))
          · rw [q, b1.2.2.1 _ (Nat.le_refl _)]
            simp (disch := omega) only [gI_ne, gI_eq]
            rfl
          · simp (disch := omega) only [gI_ne]; exact m3 e (by omega)
      · rw [if_neg hq]
        refine ok_s ?_
        rw [x9_edge hRR hrn b3.1 wg (by rw [← hd]; exact b3.2.1) hfa hta hga, if_neg hq]
        exact ok_s ⟨rfl, Rel_no h⟩
    · rw [x8_edge_no hRR hrn b1 b2 hv]
      refine ok_s ?_
      rw [x9_edge_no hRR hrn b1 b3 hv]
      exact ok_s ⟨rfl, Rel_no h⟩
  · have hRR' : RR nr (sI H 0 0 34 0) := RR_sI hRR (by omega) (by omega)
    unfold f_X8_edge f_X9_edge
    rw [rt_no hRR ha, bnd_s, nz_n]
    refine ok_s ?_
    rw [hl_e, ir_no hRR' ha, bnd_s, if_pos rfl]
    exact ok_s ⟨rfl, Rel_no h⟩
/-- blur, table, run on both sides -/
def setL (a : Rt) (l : Nat → Nat) : Rt := (rG a, rD a, rg a, rp a, rlg a, rtb a, l)
theorem x8_blur_no {nr : Nat} {H : Hp} (h : RR nr H) {a : Int32} (ha : ¬ (0 ≤ a ∧ a < nI nr)) (b c : Int32) : f_X8_blur nr a b c H = some (0, H) := by
  unfold f_X8_blur
  rw [rt_no h ha, bnd_s, nz_n]
theorem x9_blur_no {nr : Nat} {H : Hp} (h : RR nr H) {a : Int32} (ha : ¬ (0 ≤ a ∧ a < nI nr)) (b c : Int32) : f_X9_blur a b c H = some (0, sI H 0 0 34 0) := by
  have h' : RR nr (sI H 0 0 34 0) := RR_sI h (by omega) (by omega)
  unfold f_X9_blur f_X9_isEdge
  simp only [hl]
  rw [ir_no h' ha, bnd_s, if_pos rfl, bnd_s, if_pos rfl]
theorem eq_blur {nr : Nat} {H : Hp} (h : Rel nr H) (a b c : Int32) : ok (f_X8_blur nr a b c H) (fun x H1 => ok (f_X9_blur a b c H1) (fun y H2 => y = x ∧ Rel nr H2)) := by
  obtain ⟨hRR, ρ, w, hr, hK, hC, hM⟩ := id h
  have h8 := hRR.1
  rcases arg_cases a (n := nr) (by omega) with ⟨r, hrn, rfl⟩ | ha
  · obtain ⟨b1, b2, b3⟩ := hr r hrn
    have wg := b1.1
    obtain ⟨c1, c2, c3, c4, c5⟩ := b2
    rw [x8_blur hRR hrn c2.2.1 wg.2.1]
    by_cases hc : (0 ≤ b ∧ b < nI (qE (rG (ρ r)))) ∧ (0 ≤ c ∧ c ≤ 1000000)
    · rw [if_pos hc]
      have hE := wg.2.1
      obtain ⟨e, he, rfl⟩ : ∃ e, e < qE (rG (ρ r)) ∧ b = nI e := by
        rcases arg_cases b (n := qE (rG (ρ r))) (by omega) with ⟨x, x1, x2⟩ | hx
        · exact ⟨x, x1, x2⟩
        · exact absurd hc.1 hx
      obtain ⟨g, hg, rfl⟩ : ∃ g, g ≤ 1000000 ∧ c = nI g := by
        obtain ⟨x, x1, x2⟩ := nI_of2 (M := 1000000) (n := 1000000) (by decide) (Int32.not_lt.mpr hc.2.1) hc.2.2
        exact ⟨x, x1, x2⟩
      rw [nI_clamp (by omega)]
      refine ok_s ?_
      have q1 : Ch (fun q => q == r) [(2, 6, none)] H (sI H (r + 2) 6 e (nI g)) := Ch.sI (by simp [rsg]) rfl (Ch.rf H)
      have cnew : CR r (setL (ρ r) (upN (rbl (ρ r)) e g)) (sI H (r + 2) 6 e (nI g)) := by
        refine ⟨?_, CG_ch c2 q1 rfl, ?_, fun f hf => ?_, fun z => CF_ch (c5 z) q1 rfl⟩
        · rw [gI_ne (by omega)]; exact c1
        · rw [gI_ne (by omega)]; exact c3
        · rw [gI_sI]
          show _ = nI (upN (rbl (ρ r)) e g f)
          by_cases q : f = e
          · rw [if_pos ⟨rfl, rfl, q⟩, q, upN_eq]
          · rw [if_neg (fun z => q z.2.2), upN_ne q]; exact c4 f hf
      have pnew : PR (setL (ρ r) (upN (rbl (ρ r)) e g)) := by
        refine ⟨wg, fun f => ?_, fun f hf => ?_, b1.2.2.2⟩
        · show upN (rbl (ρ r)) e g f ≤ 1000000
          by_cases q : f = e
          · rw [q, upN_eq]; exact hg
          · rw [upN_ne q]; exact b1.2.1 f
        · have hf' : qE (rG (ρ r)) ≤ f := hf
          show upN (rbl (ρ r)) e g f = 0
          rw [upN_ne (by omega)]; exact b1.2.2.1 f hf'
      generalize sI H (r + 2) 6 e (nI g) = H1 at q1 cnew ⊢
      have hRR1 : RR nr H1 := RR_c hRR q1 rfl rfl
      obtain ⟨m1, m2, m3, m4⟩ := MR_eq b3 (fun k i => (q1.c0 rfl k i).1) (fun k i => (q1.c0 rfl k i).2)
      rw [x9_blur hRR1 hrn m1.2.1 wg.2.1, if_pos hc, nI_clamp (by omega)]
      refine ok_s ⟨rfl, ?_⟩
      have cr2 : Cr r [(0, 0, some 34), (0, 10, none)] H1 (sI (sI H1 0 0 34 0) 0 10 (40 * r + e) (nI g)) := Cr.sI rfl (o40 (by omega)) (Cr.sI rfl trivial (Cr.rf H1))
      refine Rel_up (a := setL (ρ r) (upN (rbl (ρ r)) e g)) hRR hr (PK_up hK (fun z => ⟨z, rfl, rfl⟩)) hC hM q1 rfl rfl cr2.1 rfl rfl cr2.2 pnew cnew ⟨MG_ch m1 cr2.1 rfl, ?_, fun f hf => ?_, fun z => MF_ch (m4 z) cr2.1 rfl⟩
      · rw [gI_ne (by omega), gI_ne (by omega)]; exact m2
      · rw [gI_sI]
        show _ = nI (upN (rbl (ρ r)) e g f)
        by_cases q : f = e
        · rw [if_pos ⟨rfl, rfl, by omega⟩, q, upN_eq]
        · rw [if_neg (by omega), upN_ne q, gI_ne (by omega)]; exact m3 f hf
    · rw [if_neg hc]
      refine ok_s ?_
      rw [x9_blur hRR hrn b3.1.2.1 wg.2.1, if_neg hc]
      exact ok_s ⟨rfl, Rel_no h⟩
  · rw [x8_blur_no hRR ha]
    refine ok_s ?_
    rw [x9_blur_no hRR ha]
    exact ok_s ⟨rfl, Rel_no h⟩
theorem eq_run' {nr : Nat} {H : Hp} (h : Rel nr H) (a : Int32) : ok (f_X8_run nr a H) (fun x H1 => ok (f_X9_run a H1) (fun y H2 => y = x ∧ Rel nr H2)) := by
  obtain ⟨hRR, ρ, w, hr, hK, hC, hM⟩ := id h
  have hw : WK nr H := by
    obtain ⟨k1, k2, k3, k4, k5⟩ := hC
    obtain ⟨n1, n2, n3, n4, n5⟩ := hM
    refine ⟨wF w, hK.1, k1, n1, k2.trans n2.symm, k3.trans n3.symm, k4.trans n4.symm, fun f hf => ?_⟩
    obtain ⟨u1, u2, u3⟩ := k5 f hf
    obtain ⟨v1, v2, v3⟩ := n5 f hf
    exact ⟨wR w f, (hK.2.2.2.1 f hf).1, u1, v1, u2.trans v2.symm, u3.trans v3.symm⟩
  obtain ⟨v, e1, e2⟩ := eq_run (fun r hr' => (hr r hr').2.1.1) hw a
  rw [e1]
  refine ok_s ?_
  rw [e2]
  exact ok_s ⟨rfl, Rel_no h⟩
