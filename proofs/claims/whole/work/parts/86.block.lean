/-- block, guess, blur on both sides -/
def upC (f : Nat → Int32) (x : Nat) (v : Int32) : Nat → Int32 := fun y => if y = x then v else f y
theorem upC_eq (f : Nat → Int32) (x : Nat) (v : Int32) : upC f x v x = v := if_pos rfl
theorem upC_ne {f : Nat → Int32} {x : Nat} {v : Int32} {y : Nat} (h : y ≠ x) : upC f x v y = f y := if_neg h
def addB (G : Gr) (k : Nat) (c : Int32) : Gr := (qB G + 1, qE G, upN (qK G) (qB G) k, upC (qC G) (qB G) c, qF G, qT G, qG G, qW G)
def setG (a : Rt) (G : Gr) : Rt := (G, rD a, rg a, rp a, rlg a, rtb a, rbl a)
theorem WG_addB {G : Gr} (w : WG G) {k : Nat} {c : Int32} (hB : qB G < 20) (hk : k ≤ 4) (hc : (k = 2 ∧ ∃ d, d < 8 ∧ c = nI d) ∨ (k ≠ 2 ∧ c = N1)) : WG (addB G k c) := by
  refine ⟨by show qB G + 1 ≤ 20; omega, w.2.1, fun b hb => ?_, fun e he => ?_, fun b hb => ?_, fun b hb => ?_⟩
  · show upN (qK G) (qB G) k b ≤ 4
    by_cases q : b = qB G
    · rw [q, upN_eq]; exact hk
    · rw [upN_ne q]; exact w.2.2.1 b (by have : b < qB G + 1 := hb; omega)
  · have := w.2.2.2.1 e he
    show qF G e < qB G + 1 ∧ qT G e < qB G + 1 ∧ qG G e ≤ 1000000
    omega
  · show oN G b (qE G) ≤ 4
    by_cases q : b = qB G
    · have : oN G b (qE G) = 0 := by
        have hh : ∀ m, m ≤ qE G → oN G b m = 0 := by
          intro m
          induction m with
          | zero => intro _; rfl
          | succ m ih =>
            intro hm
            show cntP (fun e => decide (qF G e = b)) (m + 1) = 0
            rw [cntP_s, if_neg]
            · exact ih (by omega)
            · intro z
              have z1 : qF G m = b := of_decide_eq_true z
              have := (w.2.2.2.1 m (by omega)).1
              omega
        exact hh _ (Nat.le_refl _)
      omega
    · exact w.2.2.2.2.1 b (by have : b < qB G + 1 := hb; omega)
  · show (upN (qK G) (qB G) k b = 2 ∧ ∃ d, d < 8 ∧ upC (qC G) (qB G) c b = nI d) ∨ (upN (qK G) (qB G) k b ≠ 2 ∧ upC (qC G) (qB G) c b = N1)
    by_cases q : b = qB G
    · rw [q, upN_eq, upC_eq]; exact hc
    · rw [upN_ne q, upC_ne q]; exact w.2.2.2.2.2 b (by have : b < qB G + 1 := hb; omega)
theorem lfS_sg (G : Gr) (g : Nat → Nat) (i n : Nat) : lfS (sg G g) i n = lfS G i n := by
  induction n with
  | zero => rfl
  | succ n ih =>
    show (if qK G n = 3 ∧ cntP (lvP G) n = i then n else lfS (sg G g) i n) = (if qK G n = 3 ∧ cntP (lvP G) n = i then n else lfS G i n)
    rw [ih]
theorem lF_sg (G : Gr) (g : Nat → Nat) : lF (sg G g) = lF G := by
  funext j
  show (if j < qE G then qF G j else if j < qE G + nL G then lfS (sg G g) (j - qE G) (qB G) else 20) = (if j < qE G then qF G j else if j < qE G + nL G then lfS G (j - qE G) (qB G) else 20)
  rw [lfS_sg]
theorem CL_sg {r : Nat} {G : Gr} {g : Nat → Nat} {H : Hp} (h : CL r G H) : CL r (sg G g) H := by
  obtain ⟨h1, h2, h3⟩ := h
  refine ⟨h1, fun j hj => ?_, h3⟩
  rw [lF_sg]
  exact h2 j hj
theorem Rel_no {nr : Nat} {H : Hp} (h : Rel nr H) : Rel nr (sI H 0 0 34 0) := Rel_34 h 0
theorem eq_block {nr : Nat} {H : Hp} (h : Rel nr H) (a k c : Int32) : ok (f_X8_block nr a k c H) (fun x H1 => ok (f_X9_block a k c H1) (fun y H2 => y = x ∧ Rel nr H2)) := by
  obtain ⟨hRR, ρ, w, hr, hK, hC, hM⟩ := id h
  have h8 := hRR.1
  rcases arg_cases a (n := nr) (by omega) with ⟨r, hrn, rfl⟩ | ha
  · obtain ⟨b1, b2, b3⟩ := hr r hrn
    have wg := b1.1
    obtain ⟨c1, c2, c3, c4, c5⟩ := b2
    obtain ⟨m1, m2, m3, m4⟩ := b3
    have hz : bI (rD (ρ r)) = 0 ↔ rD (ρ r) = false := by
      have := b_eq0 (rD (ρ r))
      exact ⟨fun q => this.mp q, fun q => this.mpr q⟩
    rw [x8_block hRR hrn c2.1 wg.1]
    by_cases hc : gI H (r + 2) 0 8 = 0 ∧ qB (rG (ρ r)) < 20 ∧ 0 ≤ k ∧ k ≤ 4 ∧ (k = 2 → 0 ≤ c ∧ c < 8)
    · rw [if_pos hc]
      obtain ⟨d0, d1, d2, d3, d4⟩ := hc
      have hd : rD (ρ r) = false := hz.mp (c3.symm.trans d0)
      have k5 : k < 5 := by rw [Int32.lt_iff_toInt_lt]; have := Int32.le_iff_toInt_le.mp d3; have e4 : (4 : Int32).toInt = 4 := by decide
                            have e5 : (5 : Int32).toInt = 5 := by decide
                            omega
      obtain ⟨kk, hkk, rfl⟩ : ∃ kk, kk < 5 ∧ k = nI kk := by
        rcases arg_cases k (n := 5) (by decide) with ⟨x, x1, x2⟩ | hx
        · exact ⟨x, x1, x2⟩
        · exact absurd ⟨d2, k5⟩ hx
      have k2 : (nI kk = 2) ↔ kk = 2 := nI_inj (b := 2) (by omega) (by omega)
      have hcc : (kk = 2 ∧ ∃ d, d < 8 ∧ (if nI kk = 2 then c else -1) = nI d) ∨ (kk ≠ 2 ∧ (if nI kk = 2 then c else -1) = N1) := by
        by_cases q : kk = 2
        · rcases arg_cases c (n := 8) (by decide) with ⟨x, x1, x2⟩ | hx
          · exact Or.inl ⟨q, x, x1, by rw [if_pos (k2.mpr q)]; exact x2⟩
          · exact absurd (d4 (k2.mpr q)) hx
        · exact Or.inr ⟨q, by rw [if_neg (fun z => q (k2.mp z))]; rfl⟩
      refine ok_s ?_
      have q1 : Ch (fun q => q == r) [(2, 8, none), (2, 9, none), (2, 1, some 10)] H (sI (sI (sI H (r + 2) 8 (qB (rG (ρ r))) (nI kk)) (r + 2) 9 (qB (rG (ρ r))) (if nI kk = 2 then c else -1)) (r + 2) 1 10 (nI (qB (rG (ρ r)) + 1))) := Ch.sI (by simp [rsg]) rfl (Ch.sI (by simp [rsg]) rfl (Ch.sI (by simp [rsg]) rfl (Ch.rf H)))
      have cnew : CR r (setG (ρ r) (addB (rG (ρ r)) kk (if nI kk = 2 then c else -1))) (sI (sI (sI H (r + 2) 8 (qB (rG (ρ r))) (nI kk)) (r + 2) 9 (qB (rG (ρ r))) (if nI kk = 2 then c else -1)) (r + 2) 1 10 (nI (qB (rG (ρ r)) + 1))) := by
        obtain ⟨g1, g2, g3, g4, g5, g6, g7, g8, g9, g10, g11⟩ := c2
        refine ⟨?_, ⟨?_, ?_, fun b hb => ?_, fun b hb => ?_, fun b hb => ?_, fun b hb => ?_, fun e he => ?_, fun e he => ?_, fun e he => ?_, fun e he => ?_, fun e he => ?_⟩, ?_, fun e he => ?_, fun z => ?_⟩
        · rw [gI_ne (by omega), gI_ne (by omega), gI_ne (by omega)]; exact c1
        · rw [gI_eq]; rfl
        · rw [gI_ne (by omega), gI_ne (by omega), gI_ne (by omega)]; exact g2
        · rw [gI_ne (by omega), gI_ne (by omega), gI_sI]
          show _ = nI (upN (qK (rG (ρ r))) (qB (rG (ρ r))) kk b)
          by_cases q : b = qB (rG (ρ r))
          · rw [if_pos ⟨rfl, rfl, q⟩, q, upN_eq]
          · rw [if_neg (fun z => q z.2.2), upN_ne q]
            exact g3 b (by have : b < qB (rG (ρ r)) + 1 := hb; omega)
        · rw [gI_ne (by omega), gI_sI]
          show _ = upC (qC (rG (ρ r))) (qB (rG (ρ r))) (if nI kk = 2 then c else -1) b
          by_cases q : b = qB (rG (ρ r))
          · rw [if_pos ⟨rfl, rfl, q⟩, q, upC_eq]
          · rw [if_neg (fun z => q z.2.2), upC_ne q, gI_ne (by omega)]
            exact g4 b (by have : b < qB (rG (ρ r)) + 1 := hb; omega)
        · rw [gI_ne (by omega), gI_ne (by omega), gI_ne (by omega)]; exact g5 b hb
        · rw [gI_ne (by omega), gI_ne (by omega), gI_ne (by omega)]; exact g6 b hb
        · rw [gI_ne (by omega), gI_ne (by omega), gI_ne (by omega)]; exact g7 e he
        · rw [gI_ne (by omega), gI_ne (by omega), gI_ne (by omega)]; exact g8 e he
        · rw [gI_ne (by omega), gI_ne (by omega), gI_ne (by omega)]; exact g9 e he
        · rw [gI_ne (by omega), gI_ne (by omega), gI_ne (by omega)]; exact g10 e he
        · rw [gI_ne (by omega), gI_ne (by omega), gI_ne (by omega)]; exact g11 e he
        · rw [gI_ne (by omega), gI_ne (by omega), gI_ne (by omega)]; exact c3
        · rw [gI_ne (by omega), gI_ne (by omega), gI_ne (by omega)]; exact c4 e he
        · have z' : rD (ρ r) = true := z
          rw [hd] at z'; cases z'
      have pnew : PR (setG (ρ r) (addB (rG (ρ r)) kk (if nI kk = 2 then c else -1))) := ⟨WG_addB wg d1 (by omega) hcc, b1.2.1, b1.2.2.1, fun z => absurd (show rD (ρ r) = true from z) (bf_ne hd)⟩
      generalize hH1 : sI (sI (sI H (r + 2) 8 (qB (rG (ρ r))) (nI kk)) (r + 2) 9 (qB (rG (ρ r))) (if nI kk = 2 then c else -1)) (r + 2) 1 10 (nI (qB (rG (ρ r)) + 1)) = H1 at q1 cnew ⊢
      have hRR1 : RR nr H1 := RR_c hRR q1 rfl rfl
      obtain ⟨m1, m2, m3, m4⟩ := MR_eq ⟨m1, m2, m3, m4⟩ (fun k i => (q1.c0 rfl k i).1) (fun k i => (q1.c0 rfl k i).2)
      rw [x9_block hRR1 hrn m1.1 wg.1, if_pos ⟨m2.trans (hz.mpr hd), d1, d2, d3, d4⟩]
      refine ok_s ⟨rfl, ?_⟩
      have cr2 : Cr r [(0, 0, some 34), (0, 1, none), (0, 4, none), (0, 5, none)] H1 (sI (sI (sI (sI H1 0 0 34 0) 0 4 (20 * r + qB (rG (ρ r))) (nI kk)) 0 5 (20 * r + qB (rG (ρ r))) (if nI kk = 2 then c else -1)) 0 1 r (nI (qB (rG (ρ r)) + 1))) := Cr.sI rfl rfl (Cr.sI rfl (o20 (by omega)) (Cr.sI rfl (o20 (by omega)) (Cr.sI rfl trivial (Cr.rf H1))))
      refine Rel_up hRR hr (PK_up hK (fun z => by rw [hd] at z; cases z)) hC hM q1 rfl rfl cr2.1 rfl rfl cr2.2 pnew cnew ?_
      obtain ⟨g1, g2, g3, g4, g5, g6, g7, g8⟩ := m1
      refine ⟨⟨?_, ?_, fun b hb => ?_, fun b hb => ?_, fun e he => ?_, fun e he => ?_, fun e he => ?_, fun e he => ?_⟩, ?_, fun e he => ?_, fun z => ?_⟩
      · rw [gI_eq]; rfl
      · rw [gI_ne (by omega), gI_ne (by omega), gI_ne (by omega), gI_ne (by omega)]; exact g2
      · rw [gI_ne (by omega), gI_ne (by omega), gI_sI]
        show _ = nI (upN (qK (rG (ρ r))) (qB (rG (ρ r))) kk b)
        by_cases q : b = qB (rG (ρ r))
        · rw [if_pos ⟨rfl, rfl, by omega⟩, q, upN_eq]
        · rw [if_neg (by omega), upN_ne q, gI_ne (by omega)]
          exact g3 b (by have : b < qB (rG (ρ r)) + 1 := hb; omega)
      · rw [gI_ne (by omega), gI_sI]
        show _ = upC (qC (rG (ρ r))) (qB (rG (ρ r))) (if nI kk = 2 then c else -1) b
        by_cases q : b = qB (rG (ρ r))
        · rw [if_pos ⟨rfl, rfl, by omega⟩, q, upC_eq]
        · rw [if_neg (by omega), upC_ne q, gI_ne (by omega), gI_ne (by omega)]
          exact g4 b (by have : b < qB (rG (ρ r)) + 1 := hb; omega)
      · rw [gI_ne (by omega), gI_ne (by omega), gI_ne (by omega), gI_ne (by omega)]; exact g5 e he
      · rw [gI_ne (by omega), gI_ne (by omega), gI_ne (by omega), gI_ne (by omega)]; exact g6 e he
      · rw [gI_ne (by omega), gI_ne (by omega), gI_ne (by omega), gI_ne (by omega)]; exact g7 e he
      · rw [gI_ne (by omega), gI_ne (by omega), gI_ne (by omega), gI_ne (by omega)]; exact g8 e he
      · rw [gI_ne (by omega), gI_ne (by omega), gI_ne (by omega), gI_ne (by omega)]; exact m2
      · rw [gI_ne (by omega), gI_ne (by omega), gI_ne (by omega), gI_ne (by omega)]; exact m3 e he
      · have z' : rD (ρ r) = true := z
        rw [hd] at z'; cases z'
    · rw [if_neg hc]
      refine ok_s ?_
      rw [x9_block hRR hrn m1.1 wg.1, if_neg (fun z => hc ⟨c3.trans (m2.symm.trans z.1), z.2⟩)]
      exact ok_s ⟨rfl, Rel_no h⟩
  · have hRR' : RR nr (sI H 0 0 34 0) := RR_sI hRR (by omega) (by omega)
    unfold f_X8_block f_X9_block
    rw [rt_no hRR ha, bnd_s, nz_n]
    refine ok_s ?_
    simp only [hl, ir_no hRR' ha, bnd_s, if_true]
    exact ok_s ⟨rfl, Rel_no h⟩
theorem eq_guess {nr : Nat} {H : Hp} (h : Rel nr H) (a b c : Int32) : ok (f_X8_guess nr a b c H) (fun x H1 => ok (f_X9_guess a b c H1) (fun y H2 => y = x ∧ Rel nr H2)) := by
  obtain ⟨hRR, ρ, w, hr, hK, hC, hM⟩ := id h
  have h8 := hRR.1
  rcases arg_cases a (n := nr) (by omega) with ⟨r, hrn, rfl⟩ | ha
  · obtain ⟨b1, b2, b3⟩ := hr r hrn
    have wg := b1.1
    obtain ⟨c1, c2, c3, c4, c5⟩ := b2
    rw [x8_guess hRR hrn c2.2.1 wg.2.1]
    by_cases hc : (0 ≤ b ∧ b < nI (qE (rG (ρ r)))) ∧ (0 ≤ c ∧ c ≤ 1000000)
    · rw [if_pos hc]
      obtain ⟨e, he, rfl⟩ : ∃ e, e < qE (rG (ρ r)) ∧ b = nI e := by
        rcases arg_cases b (n := qE (rG (ρ r))) (by have := wg.2.1; omega) with ⟨x, x1, x2⟩ | hx
        · exact ⟨x, x1, x2⟩
        · exact absurd hc.1 hx
      have hE := wg.2.1
      obtain ⟨g, hg, rfl⟩ : ∃ g, g ≤ 1000000 ∧ c = nI g := by
        obtain ⟨x, x1, x2⟩ := nI_of2 (M := 1000000) (n := 1000000) (by decide) (Int32.not_lt.mpr hc.2.1) hc.2.2
        exact ⟨x, x1, x2⟩
      rw [nI_clamp (by omega)]
      refine ok_s ?_
      have q1 : Ch (fun q => q == r) [(2, 15, none)] H (sI H (r + 2) 15 e (nI g)) := Ch.sI (by simp [rsg]) rfl (Ch.rf H)
      have wn : WG (sg (rG (ρ r)) (upN (qG (rG (ρ r))) e g)) := WG_sg wg (fun f hf => by
        by_cases q : f = e
        · rw [q, upN_eq]; exact hg
        · rw [upN_ne q]; exact (wg.2.2.2.1 f hf).2.2)
      have cnew : CR r (setG (ρ r) (sg (rG (ρ r)) (upN (qG (rG (ρ r))) e g))) (sI H (r + 2) 15 e (nI g)) := by
        obtain ⟨g1, g2, g3, g4, g5, g6, g7, g8, g9, g10, g11⟩ := c2
        refine ⟨?_, ⟨?_, ?_, fun b hb => ?_, fun b hb => ?_, fun b hb => ?_, fun b hb => ?_, fun e he => ?_, fun e he => ?_, fun e he => ?_, fun f hf => ?_, fun e he => ?_⟩, ?_, fun e he => ?_, fun z => ?_⟩
        · rw [gI_ne (by omega)]; exact c1
        · rw [gI_ne (by omega)]; exact g1
        · rw [gI_ne (by omega)]; exact g2
        · rw [gI_ne (by omega)]; exact g3 b hb
        · rw [gI_ne (by omega)]; exact g4 b hb
        · rw [gI_ne (by omega)]; exact g5 b hb
        · rw [gI_ne (by omega)]; exact g6 b hb
        · rw [gI_ne (by omega)]; exact g7 e he
        · rw [gI_ne (by omega)]; exact g8 e he
        · rw [gI_ne (by omega)]; exact g9 e he
        · rw [gI_sI]
          show _ = nI (upN (qG (rG (ρ r))) e g f)
          by_cases q : f = e
          · rw [if_pos ⟨rfl, rfl, q⟩, q, upN_eq]
          · rw [if_neg (fun z => q z.2.2), upN_ne q]; exact g10 f hf
        · rw [gI_ne (by omega)]; exact g11 e he
        · rw [gI_ne (by omega)]; exact c3
        · rw [gI_ne (by omega)]; exact c4 e he
        · have f0 := CF_ch (c5 z) q1 rfl
          obtain ⟨f1, f2, f3, f4, f5, f6, f7⟩ := f0
          refine ⟨CL_sg f1, ?_, f3, ?_, f5, f6, f7⟩
          · show CW r (sg (rG (ρ r)) (upN (qG (rG (ρ r))) e g)) _
            unfold CW
            rw [nW_sg, bsV_sg, aD_sg, tot_sg]
            exact f2
          · show CPt r (sg (rG (ρ r)) (upN (qG (rG (ρ r))) e g)) (rp (ρ r)) _
            unfold CPt
            rw [aD_sg]
            exact f4
      have pnew : PR (setG (ρ r) (sg (rG (ρ r)) (upN (qG (rG (ρ r))) e g))) := by
        refine ⟨wn, b1.2.1, b1.2.2.1, fun z => ?_⟩
        obtain ⟨p1, p2, p3, p4⟩ := b1.2.2.2 z
        refine ⟨?_, p2, p3, p4⟩
        show why (sg (rG (ρ r)) (upN (qG (rG (ρ r))) e g)) = 0
        rw [why_sg]; exact p1
      generalize hH1 : sI H (r + 2) 15 e (nI g) = H1 at q1 cnew ⊢
      have hRR1 : RR nr H1 := RR_c hRR q1 rfl rfl
      obtain ⟨m1, m2, m3, m4⟩ := MR_eq b3 (fun k i => (q1.c0 rfl k i).1) (fun k i => (q1.c0 rfl k i).2)
      rw [x9_guess hRR1 hrn m1.2.1 wg.2.1, if_pos hc, nI_clamp (by omega)]
      refine ok_s ⟨rfl, ?_⟩
      have cr2 : Cr r [(0, 0, some 34), (0, 8, none)] H1 (sI (sI H1 0 0 34 0) 0 8 (40 * r + e) (nI g)) := Cr.sI rfl (o40 (by omega)) (Cr.sI rfl trivial (Cr.rf H1))
      refine Rel_up (a := setG (ρ r) (sg (rG (ρ r)) (upN (qG (rG (ρ r))) e g))) hRR hr (PK_up hK (fun z => ⟨z, rfl, rfl⟩)) hC hM q1 rfl rfl cr2.1 rfl rfl cr2.2 pnew cnew ?_
      obtain ⟨g1, g2, g3, g4, g5, g6, g7, g8⟩ := m1
      refine ⟨⟨?_, ?_, fun b hb => ?_, fun b hb => ?_, fun e he => ?_, fun e he => ?_, fun f hf => ?_, fun e he => ?_⟩, ?_, fun e he => ?_, fun z => ?_⟩
      · rw [gI_ne (by omega), gI_ne (by omega)]; exact g1
      · rw [gI_ne (by omega), gI_ne (by omega)]; exact g2
      · rw [gI_ne (by omega), gI_ne (by omega)]; exact g3 b hb
      · rw [gI_ne (by omega), gI_ne (by omega)]; exact g4 b hb
      · rw [gI_ne (by omega), gI_ne (by omega)]; exact g5 e he
      · rw [gI_ne (by omega), gI_ne (by omega)]; exact g6 e he
      · rw [gI_sI]
        show _ = nI (upN (qG (rG (ρ r))) e g f)
        by_cases q : f = e
        · rw [if_pos ⟨rfl, rfl, by omega⟩, q, upN_eq]
        · rw [if_neg (by omega), upN_ne q, gI_ne (by omega)]; exact g7 f hf
      · rw [gI_ne (by omega), gI_ne (by omega)]; exact g8 e he
      · rw [gI_ne (by omega), gI_ne (by omega)]; exact m2
      · rw [gI_ne (by omega), gI_ne (by omega)]; exact m3 e he
      · obtain ⟨f1, f2, f3, f4⟩ := MF_ch (m4 z) cr2.1 rfl
        refine ⟨?_, f2, f3, f4⟩
        show MW r (sg (rG (ρ r)) (upN (qG (rG (ρ r))) e g)) _
        unfold MW
        rw [nW_sg, bsV_sg, aD_sg, tot_sg]
        exact f1
    · rw [if_neg hc]
      refine ok_s ?_
      rw [x9_guess hRR hrn b3.1.2.1 wg.2.1, if_neg hc]
      exact ok_s ⟨rfl, Rel_no h⟩
  · rw [x8_guess_no hRR ha]
    refine ok_s ?_
    rw [x9_guess_no hRR ha]
    exact ok_s ⟨rfl, Rel_no h⟩
