/-- frames come; edges are gone -/
abbrev LWK : List (Nat × Nat × Option Nat) := [(1, 2, none), (1, 4, none), (1, 5, none), (1, 6, none)]
abbrev LMK : List (Nat × Nat × Option Nat) := [(0, 0, some 27), (0, 0, some 28), (0, 0, some 29), (0, 0, some 30), (0, 31, none), (0, 32, none), (0, 33, none)]
theorem T8_w {nr : Nat} {ρ : Nat → Rt} {w w' : Wk} {H H' : Hp} (h : T8 nr ρ w H) (q : Ch TT LWK H H') (hC : CK w' H') : T8 nr ρ w' H' := by
  refine ⟨RR_c h.1 q rfl rfl, fun r hr => ⟨(h.2.1 r hr).1, CR_eq (h.2.1 r hr).2 (fun k i => (q (r + 2) k i rfl).1) (fun k i => (q (r + 2) k i rfl).2.1)⟩, hC⟩
theorem MR_ch {rs : Nat → Bool} {L : List (Nat × Nat × Option Nat)} {H H' : Hp} {r : Nat} {a : Rt} (h : MR r a H) (q : Ch rs L H H') (hL : nol L 0 (fpMG ++ fpMF ++ [(3, none), (10, none)]) = true) : MR r a H' := by
  obtain ⟨d1, d2, d3, d4⟩ := h
  refine ⟨MG_ch d1 q (nol_sub hL (fun x hx => by simp [hx])), ?_, fun e he => ?_, fun z => MF_ch (d4 z) q (nol_sub hL (fun x hx => by simp [hx]))⟩
  · rw [(q.m hL (k := 3) (o := none) (by simp) rfl).1]; exact d2
  · rw [(q.m hL (k := 10) (o := none) (by simp) rfl).1]; exact d3 e he
theorem T9_w {nr : Nat} {ρ : Nat → Rt} {w w' : Wk} {H H' : Hp} (h : T9 nr ρ w H) (q : Ch TT LMK H H') (hM : MK w' H') : T9 nr ρ w' H' := ⟨RR_c h.1 q rfl rfl, fun r hr => ⟨(h.2.1 r hr).1, MR_ch (h.2.1 r hr).2 q rfl⟩, hM⟩
def entW (w : Wk) (r : Nat) : Wk := (wF w + 1, upN (wR w) (wF w) r, upN (wB w) (wF w) 0, upJ (wS w) (wF w) 0, wT w, wN w, wP w)
def entL (l : Lg) : Lg := (l.1, l.2.1, l.2.2.1, l.2.2.2 + 1)
def entR (ρ : Nat → Rt) (r : Nat) : Nat → Rt := upR ρ r (setLg (ρ r) (entL (rlg (ρ r))))
theorem c_enter {nr r : Nat} {ρ : Nat → Rt} {w : Wk} {H : Hp} (h : T8 nr ρ w H) (hr : r < nr) (hd : rD (ρ r) = true) (hF : wF w < 30) : ok (f_X6_enter r H) (fun _ H' => T8 nr (entR ρ r) (entW w r) H') := by
  obtain ⟨k1, k2, k3, k4, k5⟩ := id h.2.2
  unfold f_X6_enter f_X2_countEntry
  simp (disch := omega) only [k1, l30, nI_le_iff, if_neg, gd_nI, nI_clamp, hl, gI_sR, gI_ne, gI_sJ, l1, nIadd, bnd_s]
  have q1 : Ch TT LWK H (sI (sJ (sI (sR H 1 4 (wF w) (some r)) 1 5 (wF w) 0) 1 6 (wF w) 0) 1 2 3 (nI (wF w + 1))) := Ch.sI rfl rfl (Ch.sJ rfl rfl (Ch.sI rfl rfl (Ch.sR rfl rfl (Ch.rf H))))
  have h1 : T8 nr ρ (entW w r) (sI (sJ (sI (sR H 1 4 (wF w) (some r)) 1 5 (wF w) 0) 1 6 (wF w) 0) 1 2 3 (nI (wF w + 1))) := by
    refine T8_w h q1 ⟨gI_eq _ _ _ _ _, ?_, ?_, ?_, fun f hf => ?_⟩
    · rw [gI_ne (by omega), gI_sJ, gI_ne (by omega), gI_sR]; exact k2
    · rw [gI_ne (by omega), gI_sJ, gI_ne (by omega), gI_sR]; exact k3
    · rw [gI_ne (by omega), gI_sJ, gI_ne (by omega), gI_sR]; exact k4
    · have hf' : f < wF w + 1 := hf
      show gR _ 1 4 f = some (upN (wR w) (wF w) r f) ∧ gI _ 1 5 f = nI (upN (wB w) (wF w) 0 f) ∧ gJ _ 1 6 f = upJ (wS w) (wF w) 0 f
      by_cases z : f = wF w
      · rw [z, upN_eq, upN_eq, upJ_eq, gR_sI, gR_sJ, gR_sI, gR_eq, gI_ne (by omega), gI_sJ, gI_eq, gJ_sI, gJ_eq]
        exact ⟨rfl, rfl, rfl⟩
      · rw [upN_ne z, upN_ne z, upJ_ne z, gR_sI, gR_sJ, gR_sI, gR_ne (by omega), gI_ne (by omega), gI_sJ, gI_ne (by omega), gI_sR, gJ_sI, gJ_ne (by omega), gJ_sI, gJ_sR]
        exact k5 f (by omega)
  have e0 : gJ (sI (sJ (sI (sR H 1 4 (wF w) (some r)) 1 5 (wF w) (nI 0)) 1 6 (wF w) 0) 1 2 3 (nI (wF w + 1))) (r + 2) 4 3 = gJ (sI (sJ (sI (sR H 1 4 (wF w) (some r)) 1 5 (wF w) 0) 1 6 (wF w) 0) 1 2 3 (nI (wF w + 1))) (r + 2) 4 3 := rfl
  generalize sI (sJ (sI (sR H 1 4 (wF w) (some r)) 1 5 (wF w) 0) 1 6 (wF w) 0) 1 2 3 (nI (wF w + 1)) = H1 at h1 ⊢
  obtain ⟨p1, c1⟩ := h1.2.1 r hr
  obtain ⟨f1, f2, f3, f4, f5, f6, f7⟩ := c1.2.2.2.2 hd
  have q2 : Ch (fun q => q == r) LLG H1 (sJ H1 (r + 2) 4 3 (gJ H1 (r + 2) 4 3 + 1)) := Ch.sJ (by simp [rsg]) rfl (Ch.rf _)
  refine ok_s (T8_up h1 q2 rfl (PR_L p1) (CR_log c1 q2 ⟨fun e he => ?_, fun b hb => ?_, ?_⟩ ?_))
  · rw [gJ_ne (by omega), gJ_ne (by omega)]; exact f5.1 e he
  · rw [gJ_ne (by omega)]; exact f5.2.1 b hb
  · rw [gJ_eq, f5.2.2]; rfl
  · rw [gJ_ne (by omega)]; exact f6
theorem m_comes {nr r : Nat} {ρ : Nat → Rt} {w : Wk} {H : Hp} (h : T9 nr ρ w H) (hr : r < nr) (hd : rD (ρ r) = true) (hF : wF w < 30) : ok (f_X9_comes (nI r) H) (fun _ H' => T9 nr (entR ρ r) (entW w r) H') := by
  have h8 := h.1.1
  obtain ⟨k1, k2, k3, k4, k5⟩ := id h.2.2
  unfold f_X9_comes
  simp (disch := omega) only [k1, gd_nI, nI_clamp, hl, gI_ne, gI_sJ, l1, nIadd]
  have q1 : Ch TT LMK H (sI (sJ (sI (sI H 0 31 (wF w) (nI r)) 0 32 (wF w) 0) 0 33 (wF w) 0) 0 0 28 (nI (wF w + 1))) := Ch.sI rfl rfl (Ch.sJ rfl rfl (Ch.sI rfl rfl (Ch.sI rfl rfl (Ch.rf H))))
  have h1 : T9 nr ρ (entW w r) (sI (sJ (sI (sI H 0 31 (wF w) (nI r)) 0 32 (wF w) 0) 0 33 (wF w) 0) 0 0 28 (nI (wF w + 1))) := by
    refine T9_w h q1 ⟨gI_eq _ _ _ _ _, ?_, ?_, ?_, fun f hf => ?_⟩
    · rw [gI_ne (by omega), gI_sJ, gI_ne (by omega), gI_ne (by omega)]; exact k2
    · rw [gI_ne (by omega), gI_sJ, gI_ne (by omega), gI_ne (by omega)]; exact k3
    · rw [gI_ne (by omega), gI_sJ, gI_ne (by omega), gI_ne (by omega)]; exact k4
    · have hf' : f < wF w + 1 := hf
      show gI _ 0 31 f = nI (upN (wR w) (wF w) r f) ∧ gI _ 0 32 f = nI (upN (wB w) (wF w) 0 f) ∧ gJ _ 0 33 f = upJ (wS w) (wF w) 0 f
      by_cases z : f = wF w
      · rw [z, upN_eq, upN_eq, upJ_eq, gI_ne (by omega), gI_sJ, gI_ne (by omega), gI_eq, gI_ne (by omega), gI_sJ, gI_eq, gJ_sI, gJ_eq]
        exact ⟨rfl, rfl, rfl⟩
      · rw [upN_ne z, upN_ne z, upJ_ne z, gI_ne (by omega), gI_sJ, gI_ne (by omega), gI_ne (by omega), gI_ne (by omega), gI_sJ, gI_ne (by omega), gI_ne (by omega), gJ_sI, gJ_ne (by omega), gJ_sI, gJ_sI]
        exact k5 f (by omega)
  generalize sI (sJ (sI (sI H 0 31 (wF w) (nI r)) 0 32 (wF w) 0) 0 33 (wF w) 0) 0 0 28 (nI (wF w + 1)) = H1 at h1 ⊢
  obtain ⟨p1, m1⟩ := h1.2.1 r hr
  obtain ⟨f1, f2, f3, f4⟩ := m1.2.2.2 hd
  have q2 : Cr r LML H1 (sJ H1 0 19 r (gJ H1 0 19 r + 1)) := Cr.sJ rfl rfl (Cr.rf _)
  refine ok_s (T9_up h1 q2 rfl rfl (PR_L p1) (MR_log m1 q2 ⟨fun e he => ?_, fun b hb => ?_, ?_⟩))
  · rw [gJ_ne (by omega), gJ_ne (by omega)]; exact f3.1 e he
  · rw [gJ_ne (by omega)]; exact f3.2.1 b hb
  · rw [gJ_eq, f3.2.2]; rfl
/-- an edge is gone: the log -/
noncomputable def goL (a : Rt) (e : Nat) : Lg := (upJ (rlg a).1 e ((rlg a).1 e + 1), if tb (rGp a) e = true then (rlg a).2.1 else upJ (rlg a).2.1 e ((rlg a).2.1 e + 1), (rlg a).2.2.1, (rlg a).2.2.2)
theorem c_gone {nr r e : Nat} {ρ : Nat → Rt} {w : Wk} {H : Hp} (h : T8 nr ρ w H) (hr : r < nr) (hd : rD (ρ r) = true) (he : e < qE (rG (ρ r))) : ok (f_X2_countGone r (nI e) H) (fun v H' => v = bI (!(tb (rGp (ρ r)) e)) ∧ T8 nr (upR ρ r (setLg (ρ r) (goL (ρ r) e))) w H') := by
  obtain ⟨p1, c1⟩ := h.2.1 r hr
  have hE := p1.1.2.1
  obtain ⟨f1, f2, f3, f4, f5, f6, f7⟩ := c1.2.2.2.2 hd
  have t27 := f3.1 e (by have := lk_gt (rG (ρ r)); omega)
  have t34 := (f5.1 e (by omega)).1
  have t35 := (f5.1 e (by omega)).2
  unfold f_X2_countGone
  have e27 : gI (sJ H (r + 2) 34 e ((rlg (ρ r)).1 e + 1)) (r + 2) 27 e = bI (tb (rGp (ρ r)) e) := by rw [gI_sJ]; exact t27
  simp (disch := omega) only [gd_nI, nI_clamp, t34, hl, e27, l0, b_eq0, gJ_ne, t35]
  cases ht : tb (rGp (ρ r)) e with
  | false =>
    rw [if_pos rfl]
    have q : Ch (fun q => q == r) LLG H (sJ (sJ H (r + 2) 34 e ((rlg (ρ r)).1 e + 1)) (r + 2) 35 e ((rlg (ρ r)).2.1 e + 1)) := Ch.sJ (by simp [rsg]) rfl (Ch.sJ (by simp [rsg]) rfl (Ch.rf H))
    refine ok_s ⟨rfl, T8_up h q rfl (PR_L p1) (CR_log c1 q ⟨fun f hf => ?_, fun b hb => ?_, ?_⟩ ?_)⟩
    · show gJ _ (r + 2) 34 f = upJ (rlg (ρ r)).1 e ((rlg (ρ r)).1 e + 1) f ∧ gJ _ (r + 2) 35 f = (if tb (rGp (ρ r)) e = true then (rlg (ρ r)).2.1 else upJ (rlg (ρ r)).2.1 e ((rlg (ρ r)).2.1 e + 1)) f
      rw [if_neg (bf_ne ht)]
      by_cases z : f = e
      · rw [z, upJ_eq, upJ_eq, gJ_ne (by omega), gJ_eq, gJ_eq]; exact ⟨rfl, rfl⟩
      · rw [upJ_ne z, upJ_ne z, gJ_ne (by omega), gJ_ne (by omega), gJ_ne (by omega), gJ_ne (by omega)]; exact f5.1 f hf
    · rw [gJ_ne (by omega), gJ_ne (by omega)]; exact f5.2.1 b hb
    · rw [gJ_ne (by omega), gJ_ne (by omega)]; exact f5.2.2
    · rw [gJ_ne (by omega), gJ_ne (by omega)]; exact f6
  | true =>
    rw [if_neg (by decide)]
    have q : Ch (fun q => q == r) LLG H (sJ H (r + 2) 34 e ((rlg (ρ r)).1 e + 1)) := Ch.sJ (by simp [rsg]) rfl (Ch.rf H)
    refine ok_s ⟨rfl, T8_up h q rfl (PR_L p1) (CR_log c1 q ⟨fun f hf => ?_, fun b hb => ?_, ?_⟩ ?_)⟩
    · show gJ _ (r + 2) 34 f = upJ (rlg (ρ r)).1 e ((rlg (ρ r)).1 e + 1) f ∧ gJ _ (r + 2) 35 f = (if tb (rGp (ρ r)) e = true then (rlg (ρ r)).2.1 else upJ (rlg (ρ r)).2.1 e ((rlg (ρ r)).2.1 e + 1)) f
      rw [if_pos ht]
      by_cases z : f = e
      · rw [z, upJ_eq, gJ_eq, gJ_ne (by omega)]; exact ⟨rfl, t35⟩
      · rw [upJ_ne z, gJ_ne (by omega), gJ_ne (by omega)]; exact f5.1 f hf
    · rw [gJ_ne (by omega)]; exact f5.2.1 b hb
    · rw [gJ_ne (by omega)]; exact f5.2.2
    · rw [gJ_ne (by omega)]; exact f6
/-- an edge is gone: the frame -/
noncomputable def crW (ρ : Nat → Rt) (w : Wk) (e : Nat) : Wk := (wF w, wR w, upN (wB w) (wF w - 1) (qT (rG (ρ (wR w (wF w - 1)))) e), upJ (wS w) (wF w - 1) (if qW (rG (ρ (wR w (wF w - 1)))) e = true then bsV (rG (ρ (wR w (wF w - 1)))) (qT (rG (ρ (wR w (wF w - 1)))) e) else wS w (wF w - 1) + lN (aD (rG (ρ (wR w (wF w - 1)))) e)), wT w, wN w, wP w + bI (!(tb (rGp (ρ (wR w (wF w - 1)))) e)))
noncomputable def crA (a : Rt) (s : Int64) (e : Nat) : Rt := if qW (rG a) e = true then setT (setLg a (goL a e)) (cntTb (rtb a) s) else setLg a (goL a e)
noncomputable def crR (ρ : Nat → Rt) (w : Wk) (e : Nat) : Nat → Rt := upR ρ (wR w (wF w - 1)) (crA (ρ (wR w (wF w - 1))) (wS w (wF w - 1) + lN (aD (rG (ρ (wR w (wF w - 1)))) e)) e)
theorem upR_up (ρ : Nat → Rt) (r : Nat) (a b : Rt) : upR (upR ρ r a) r b = upR ρ r b := by
  funext q
  by_cases z : q = r
  · rw [z, upR_eq, upR_eq]
  · rw [upR_ne z, upR_ne z, upR_ne z]
theorem cT_count {nr r : Nat} {ρ : Nat → Rt} {w : Wk} {H : Hp} {n : Int64} (h : T8 nr ρ w H) (hr : r < nr) (hd : rD (ρ r) = true) : ok (f_X4_count r n H) (fun _ H' => T8 nr (upR ρ r (setT (ρ r) (cntTb (rtb (ρ r)) n))) w H') := by
  obtain ⟨p, c1, c2, c3, c4, c5⟩ := h.2.1 r hr
  obtain ⟨f1, f2, f3, f4, f5, f6, f7⟩ := c5 hd
  have h16 := (p.2.2.2 hd).2.2.2
  refine ok_m (x4_count (n := n) f7 h16) ?_
  rintro _ H' ⟨q, t⟩
  refine T8_up h q rfl (PR_T p (cntTb_le h16)) ?_
  have qc : ∀ {fp : List (Nat × Option Nat)} (_ : nol LCT 2 fp = true) {k : Nat} {o : Option Nat} (_ : (k, o) ∈ fp) {i : Nat} (_ : slo o i = true), gI H' (r + 2) k i = gI H (r + 2) k i ∧ gJ H' (r + 2) k i = gJ H (r + 2) k i := by
    intro fp a k o b i c
    exact q.c a b c
  refine ⟨?_, CG_ch c2 q rfl, ?_, fun e he => ?_, fun _ => ⟨CL_ch f1 q rfl, CW_ch f2 q rfl, ?_, ?_, ?_, ?_, t⟩⟩
  · rw [(qc (fp := [(0, none), (6, none)]) rfl (k := 0) (o := none) (by simp) rfl).1]; exact c1
  · rw [(qc (fp := [(0, none), (6, none)]) rfl (k := 0) (o := none) (by simp) rfl).1]; exact c3
  · rw [(qc (fp := [(0, none), (6, none)]) rfl (k := 6) (o := none) (by simp) rfl).1]; exact c4 e he
  · obtain ⟨t1, t2, t3, ln, uL, t4, u1, u2, u3, u4⟩ := f3
    have fp : nol LCT 2 [(27, none), (3, none), (29, none), (30, none)] = true := rfl
    refine ⟨fun j hj => ?_, ?_, ?_, ln, uL, t4, ?_, fun k hk => ?_, fun k k0 hk => ?_, ?_⟩
    · rw [(qc fp (k := 27) (o := none) (by simp) rfl).1]; exact t1 j hj
    · rw [(qc fp (k := 3) (o := none) (by simp) rfl).1]; exact t2
    · rw [(qc fp (k := 3) (o := none) (by simp) rfl).2]; exact t3
    · rw [(qc fp (k := 3) (o := none) (by simp) rfl).1]; exact u1
    · rw [(qc fp (k := 30) (o := none) (by simp) rfl).1]; exact u2 k hk
    · rw [(qc fp (k := 29) (o := none) (by simp) rfl).1]; exact u3 k k0 hk
    · rw [(qc fp (k := 29) (o := none) (by simp) rfl).1]; exact u4
  · have fp : nol LCT 2 [(20, none), (22, none)] = true := rfl
    exact ⟨fun b hb => by rw [(qc fp (k := 20) (o := none) (by simp) rfl).2]; exact f4.1 b hb, fun e he => by rw [(qc fp (k := 22) (o := none) (by simp) rfl).2]; exact f4.2 e he⟩
  · have fp : nol LCT 2 [(34, none), (35, none), (36, none), (4, none)] = true := rfl
    exact ⟨fun e he => by rw [(qc fp (k := 34) (o := none) (by simp) rfl).2, (qc fp (k := 35) (o := none) (by simp) rfl).2]; exact f5.1 e he, fun b hb => by rw [(qc fp (k := 36) (o := none) (by simp) rfl).2]; exact f5.2.1 b hb, by rw [(qc fp (k := 4) (o := none) (by simp) rfl).2]; exact f5.2.2⟩
  · have fp : nol LCT 2 [(4, none)] = true := rfl
    rw [(qc fp (k := 4) (o := none) (by simp) rfl).2]; exact f6
theorem mT_ends {nr r : Nat} {ρ : Nat → Rt} {w : Wk} {H : Hp} {n : Int64} (h : T9 nr ρ w H) (hr : r < nr) (hd : rD (ρ r) = true) : ok (f_X9_ends (nI r) n H) (fun _ H' => T9 nr (upR ρ r (setT (ρ r) (cntTb (rtb (ρ r)) n))) w H') := by
  obtain ⟨p, m1, m2, m3, m4⟩ := h.2.1 r hr
  obtain ⟨f1, f2, f3, f4⟩ := m4 hd
  have h16 := (p.2.2.2 hd).2.2.2
  have h8 := h.1.1
  refine ok_m (x9_ends (n := n) (by omega) f4 h16) ?_
  rintro _ H' ⟨q, t⟩
  refine T9_up h q rfl rfl (PR_T p (cntTb_le h16)) ?_
  refine ⟨MG_ch m1 q.1 rfl, ?_, fun e he => ?_, fun _ => ⟨MW_ch f1 q.1 rfl, ⟨fun e he => ?_, ?_, ?_, fun b hb => ?_⟩, ⟨fun e he => ?_, fun b hb => ?_, ?_⟩, t⟩⟩
  · rw [q.1.gi _ _ _ rfl]; exact m2
  · rw [q.1.gi _ _ _ rfl]; exact m3 e he
  · rw [q.1.gi _ _ _ rfl]; exact f2.1 e he
  · rw [q.1.gj _ _ _ rfl]; exact f2.2.1
  · rw [q.1.gi _ _ _ rfl]; exact f2.2.2.1
  · rw [q.1.gj _ _ _ rfl]; exact f2.2.2.2 b hb
  · rw [q.1.gj _ _ _ rfl, q.1.gj _ _ _ rfl]; exact f3.1 e he
  · rw [q.1.gj _ _ _ rfl]; exact f3.2.1 b hb
  · rw [q.1.gj _ _ _ rfl]; exact f3.2.2
