/-- the run: both sides' states apart -/
def S8 (nr : Nat) (ρ : Nat → Rt) (w : Wk) (H : Hp) : Prop := RR nr H ∧ (∀ r, r < nr → PR (ρ r) ∧ CR r (ρ r) H) ∧ PK nr ρ w ∧ CK w H
def S9 (nr : Nat) (ρ : Nat → Rt) (w : Wk) (H : Hp) : Prop := RR nr H ∧ (∀ r, r < nr → PR (ρ r) ∧ MR r (ρ r) H) ∧ PK nr ρ w ∧ MK w H
/-- a way is counted in a table -/
def fsI (p : Nat → Bool) : Nat → Nat
  | 0 => 0
  | n + 1 => if anyB p n = true then fsI p n else n
theorem fsI_eq {p : Nat → Bool} {n k : Nat} (hk : k < n) (hp : p k = true) (h0 : ∀ j, j < k → p j = false) : fsI p n = k := by
  induction n with
  | zero => exact absurd hk (Nat.not_lt_zero _)
  | succ n ih =>
    show (if anyB p n = true then fsI p n else n) = k
    by_cases q : k = n
    · subst q
      rw [if_neg]
      intro z
      obtain ⟨i, i1, i2⟩ := anyB_iff.mp z
      rw [h0 i i1] at i2; cases i2
    · rw [if_pos (anyB_iff.mpr ⟨k, by omega, hp⟩)]
      exact ih (by omega)
def cntTb (t : Tb) (n : Int64) : Tb := if anyB (fun k => decide (t.2.1 k = n)) t.1 = true then (t.1, t.2.1, upJ t.2.2.1 (fsI (fun k => decide (t.2.1 k = n)) t.1) (t.2.2.1 (fsI (fun k => decide (t.2.1 k = n)) t.1) + 1), t.2.2.2) else if t.1 < 16 then (t.1 + 1, upJ t.2.1 t.1 n, upJ t.2.2.1 t.1 1, t.2.2.2) else (t.1, t.2.1, t.2.2.1, t.2.2.2 + 1)
theorem cntTb_le {t : Tb} {n : Int64} (h : t.1 ≤ 16) : (cntTb t n).1 ≤ 16 := by
  unfold cntTb
  split
  · exact h
  · split
    · show t.1 + 1 ≤ 16; omega
    · exact h
def setT (a : Rt) (t : Tb) : Rt := (rG a, rD a, rg a, rp a, rlg a, t, rbl a)
def setLg (a : Rt) (l : Lg) : Rt := (rG a, rD a, rg a, rp a, l, rtb a, rbl a)
abbrev LCT : List (Nat × Nat × Option Nat) := [(2, 5, some 2), (2, 5, some 3), (2, 37, none), (2, 38, none)]
theorem x4_count {r : Nat} {t : Tb} {H : Hp} {n : Int64} (ht : CTb r t H) (h16 : t.1 ≤ 16) : ok (f_X4_count r n H) (fun _ H' => Ch (fun q => q == r) LCT H H' ∧ CTb r (cntTb t n) H') := by
  obtain ⟨t1, t2, t3⟩ := ht
  unfold f_X4_count
  refine ok_g1 t.1 (fun i H' => H' = H ∧ ∀ j, j < i → t.2.1 j ≠ n) ?_ ?_ rfl ⟨rfl, fun j hj => absurd hj (Nat.not_lt_zero _)⟩ (FUgt (by omega))
  · rintro i m H1 hi ⟨rfl, hI⟩ K1
    rw [L_X4_count_2]
    generalize hk : (fun H5 => if gI H5 (r + 2) 5 2 < 16 then _ else _) = kk at K1 ⊢
    simp (disch := omega) only [t1, nI_le_iff, if_neg, gd_nI, nI_clamp, (t2 i hi).1, (t2 i hi).2, l0, c_eq, hl, vl, l1, nIadd]
    refine ok_if (fun hc => ok_s ⟨?_, ?_⟩) (fun hc => K1 _ ⟨rfl, fun j hj => ?_⟩)
    · exact Ch.sJ (by simp [rsg]) rfl (Ch.rf _)
    · have hany : anyB (fun k => decide (t.2.1 k = n)) t.1 = true := anyB_iff.mpr ⟨i, hi, decide_eq_true hc⟩
      have hf : fsI (fun k => decide (t.2.1 k = n)) t.1 = i := fsI_eq hi (decide_eq_true hc) (fun j hj => decide_eq_false (hI j hj))
      unfold cntTb
      rw [if_pos hany, hf]
      refine ⟨by rw [gI_sJ]; exact t1, fun k hk => ?_, by rw [gJ_ne (by omega)]; exact t3⟩
      refine ⟨by rw [gJ_ne (by omega)]; exact (t2 k hk).1, ?_⟩
      show gJ _ (r + 2) 38 k = upJ t.2.2.1 i (t.2.2.1 i + 1) k
      rw [gJ_sJ]
      by_cases q : k = i
      · rw [if_pos ⟨rfl, rfl, q⟩, q, upJ_eq]
      · rw [if_neg (fun z => q z.2.2), upJ_ne q]; exact (t2 k hk).2
    · by_cases q : j = i
      · rw [q]; exact hc
      · exact hI j (by omega)
  · rintro m H1 ⟨rfl, hI⟩
    have hany : ¬ anyB (fun k => decide (t.2.1 k = n)) t.1 = true := by
      intro z
      obtain ⟨i, i1, i2⟩ := anyB_iff.mp z
      exact hI i i1 (of_decide_eq_true i2)
    rw [L_X4_count_2]
    unfold cntTb
    rw [if_neg hany]
    by_cases h15 : t.1 < 16
    · rw [if_pos h15]
      simp (disch := omega) only [t1, nI_le_iff, if_pos, l16, nI_lt_iff, gd_nI, nI_clamp, hl, gI_sJ, l1, nIadd]
      refine ok_s ⟨?_, gI_eq _ _ _ _ _, fun k hk => ?_, by rw [gJ_sI, gJ_ne (by omega), gJ_ne (by omega)]; exact t3⟩
      · exact Ch.sI (by simp [rsg]) rfl (Ch.sJ (by simp [rsg]) rfl (Ch.sJ (by simp [rsg]) rfl (Ch.rf _)))
      · have hk' : k < t.1 + 1 := hk
        show gJ _ (r + 2) 37 k = upJ t.2.1 t.1 n k ∧ gJ _ (r + 2) 38 k = upJ t.2.2.1 t.1 1 k
        by_cases q : k = t.1
        · rw [q, upJ_eq, upJ_eq, gJ_sI, gJ_ne (by omega), gJ_eq, gJ_sI, gJ_eq]; exact ⟨rfl, rfl⟩
        · rw [upJ_ne q, upJ_ne q, gJ_sI, gJ_ne (by omega), gJ_ne (by omega), gJ_sI, gJ_ne (by omega), gJ_ne (by omega)]
          exact t2 k (by omega)
    · rw [if_neg h15]
      simp (disch := omega) only [t1, nI_le_iff, if_pos, if_neg, l16, nI_lt_iff, hl, t3]
      refine ok_s ⟨?_, by rw [gI_sJ]; exact t1, fun k hk => by rw [gJ_ne (by omega), gJ_ne (by omega)]; exact t2 k hk, gJ_eq _ _ _ _ _⟩
      exact Ch.sJ (by simp [rsg]) rfl (Ch.rf _)
abbrev LMT : List (Nat × Nat × Option Nat) := [(0, 20, none), (0, 24, none), (0, 25, none), (0, 26, none)]
theorem o16 {r b : Nat} (hb : b < 16) : 16 * r ≤ 16 * r + b ∧ 16 * r + b < 16 * r + 16 := by omega
theorem x9_ends {r : Nat} {t : Tb} {H : Hp} {n : Int64} (hr : r < 8) (ht : MTb r t H) (h16 : t.1 ≤ 16) : ok (f_X9_ends (nI r) n H) (fun _ H' => Cr r LMT H H' ∧ MTb r (cntTb t n) H') := by
  obtain ⟨t1, t2, t3⟩ := ht
  unfold f_X9_ends
  refine ok_g1 t.1 (fun i H' => H' = H ∧ ∀ j, j < i → t.2.1 j ≠ n) ?_ ?_ rfl ⟨rfl, fun j hj => absurd hj (Nat.not_lt_zero _)⟩ (FUgt (by omega))
  · rintro i m H1 hi ⟨rfl, hI⟩ K1
    rw [L_X9_ends_3]
    generalize hk : (fun H5 => gd (nI r) 8 (if gI H5 0 24 (nI r).toNatClampNeg = 16 then _ else _)) = kk at K1 ⊢
    simp (disch := omega) only [t1, nI_le_iff, if_neg, gd_nI, nI_clamp, l16, nImul, nIadd, (t2 i hi).1, (t2 i hi).2, l0, c_eq, hl, vl, l1]
    refine ok_if (fun hc => ok_s ⟨?_, ?_⟩) (fun hc => K1 _ ⟨rfl, fun j hj => ?_⟩)
    · exact Cr.sJ rfl (o16 (by omega)) (Cr.rf _)
    · have hany : anyB (fun k => decide (t.2.1 k = n)) t.1 = true := anyB_iff.mpr ⟨i, hi, decide_eq_true hc⟩
      have hf : fsI (fun k => decide (t.2.1 k = n)) t.1 = i := fsI_eq hi (decide_eq_true hc) (fun j hj => decide_eq_false (hI j hj))
      unfold cntTb
      rw [if_pos hany, hf]
      refine ⟨by rw [gI_sJ]; exact t1, fun k hk => ?_, by rw [gJ_ne (by omega)]; exact t3⟩
      refine ⟨by rw [gJ_ne (by omega)]; exact (t2 k hk).1, ?_⟩
      show gJ _ 0 26 (16 * r + k) = upJ t.2.2.1 i (t.2.2.1 i + 1) k
      rw [gJ_sJ]
      by_cases q : k = i
      · rw [if_pos ⟨rfl, rfl, by omega⟩, q, upJ_eq]
      · rw [if_neg (by omega), upJ_ne q]; exact (t2 k hk).2
    · by_cases q : j = i
      · rw [q]; exact hc
      · exact hI j (by omega)
  · rintro m H1 ⟨rfl, hI⟩
    have hany : ¬ anyB (fun k => decide (t.2.1 k = n)) t.1 = true := by
      intro z
      obtain ⟨i, i1, i2⟩ := anyB_iff.mp z
      exact hI i i1 (of_decide_eq_true i2)
    rw [L_X9_ends_3]
    unfold cntTb
    rw [if_neg hany]
    by_cases h15 : t.1 < 16
    · rw [if_pos h15]
      simp (disch := omega) only [t1, nI_le_iff, if_pos, if_neg, l16, nI_inj, gd_nI, nI_clamp, nImul, nIadd, hl, gI_sJ, l1]
      refine ok_s ⟨?_, gI_eq _ _ _ _ _, fun k hk => ?_, by rw [gJ_sI, gJ_ne (by omega), gJ_ne (by omega)]; exact t3⟩
      · exact Cr.sI rfl rfl (Cr.sJ rfl (o16 h15) (Cr.sJ rfl (o16 h15) (Cr.rf _)))
      · have hk' : k < t.1 + 1 := hk
        show gJ _ 0 25 (16 * r + k) = upJ t.2.1 t.1 n k ∧ gJ _ 0 26 (16 * r + k) = upJ t.2.2.1 t.1 1 k
        by_cases q : k = t.1
        · rw [q, upJ_eq, upJ_eq, gJ_sI, gJ_ne (by omega), gJ_eq, gJ_sI, gJ_eq]; exact ⟨rfl, rfl⟩
        · rw [upJ_ne q, upJ_ne q, gJ_sI, gJ_ne (by omega), gJ_ne (by omega), gJ_sI, gJ_ne (by omega), gJ_ne (by omega)]
          exact t2 k (by omega)
    · rw [if_neg h15]
      simp (disch := omega) only [t1, nI_le_iff, if_pos, l16, nI_inj, gd_nI, nI_clamp, hl, t3]
      refine ok_s ⟨?_, by rw [gI_sJ]; exact t1, fun k hk => by rw [gJ_ne (by omega), gJ_ne (by omega)]; exact t2 k hk, gJ_eq _ _ _ _ _⟩
      exact Cr.sJ rfl rfl (Cr.rf _)
/-- a step of one side that changes one routine -/
theorem S8_up {nr r : Nat} {ρ : Nat → Rt} {w : Wk} {H H1 : Hp} {a : Rt} {L : List (Nat × Nat × Option Nat)} (h : S8 nr ρ w H) (q : Ch (fun q => q == r) L H H1) (h0 : L.all (fun x => x.1 == 2) = true) (hK : PK nr (upR ρ r a) w) (hP : PR a) (hC : CR r a H1) : S8 nr (upR ρ r a) w H1 := by
  obtain ⟨s1, s2, s3, s4⟩ := h
  have n0 : ∀ k i, inL L 0 k i = false := by
    intro k i
    cases e : inL L 0 k i with
    | false => rfl
    | true =>
      obtain ⟨x, hx, h1, -⟩ := inL_iff.mp e
      have := List.all_eq_true.mp h0 x hx
      rw [h1] at this; cases this
  have n1 : ∀ k i, inL L 1 k i = false := by
    intro k i
    cases e : inL L 1 k i with
    | false => rfl
    | true =>
      obtain ⟨x, hx, h1, -⟩ := inL_iff.mp e
      have := List.all_eq_true.mp h0 x hx
      rw [h1] at this; cases this
  have g0 : ∀ k i, gI H1 0 k i = gI H 0 k i := fun k i => (q 0 k i (by show (true && inL L 0 k i) = false; rw [n0]; rfl)).1
  have g1 : ∀ k i, gI H1 1 k i = gI H 1 k i ∧ gJ H1 1 k i = gJ H 1 k i ∧ gR H1 1 k i = gR H 1 k i := fun k i => q 1 k i (by show (true && inL L 1 k i) = false; rw [n1]; rfl)
  refine ⟨?_, fun r' hr' => ?_, hK, CK_eq s4 (fun k i => (g1 k i).1) (fun k i => (g1 k i).2.1) (fun k i => (g1 k i).2.2)⟩
  · obtain ⟨a1, a2, a3, a4, a5⟩ := s1
    exact ⟨a1, by rw [g0]; exact a2, by rw [(g1 0 3).1]; exact a3, fun i hi => by rw [(g1 1 i).2.2]; exact a4 i hi, fun i hi hj => by rw [(g1 1 i).2.2]; exact a5 i hi hj⟩
  · by_cases z : r' = r
    · rw [z, upR_eq]; exact ⟨hP, hC⟩
    · rw [upR_ne z]
      exact ⟨(s2 r' hr').1, CR_eq (s2 r' hr').2 (fun k i => (q.o (by simp [z]) k i).1) (fun k i => (q.o (by simp [z]) k i).2)⟩
theorem S9_up {nr r : Nat} {ρ : Nat → Rt} {w : Wk} {H H1 : Hp} {a : Rt} {L : List (Nat × Nat × Option Nat)} (h : S9 nr ρ w H) (q : Cr r L H H1) (h0 : L.all (fun x => x.1 == 0) = true) (h1 : nol L 0 fpMK = true) (hK : PK nr (upR ρ r a) w) (hP : PR a) (hM : MR r a H1) : S9 nr (upR ρ r a) w H1 := by
  obtain ⟨s1, s2, s3, s4⟩ := h
  refine ⟨?_, fun r' hr' => ?_, hK, MK_ch s4 q.1 h1⟩
  · obtain ⟨a1, a2, a3, a4, a5⟩ := s1
    exact ⟨a1, by rw [(q.1.m h1 (k := 0) (o := some 0) (by simp [fpMK]) rfl).1]; exact a2, by rw [(q.1.m1 h0 1 0 3 (by decide)).1]; exact a3, fun i hi => by rw [(q.1.m1 h0 1 1 i (by decide)).2.2]; exact a4 i hi, fun i hi hj => by rw [(q.1.m1 h0 1 1 i (by decide)).2.2]; exact a5 i hi hj⟩
  · by_cases z : r' = r
    · rw [z, upR_eq]; exact ⟨hP, hM⟩
    · rw [upR_ne z]
      exact ⟨(s2 r' hr').1, MR_o (s2 r' hr').2 (s2 r' hr').1 q.2 z⟩
theorem PR_T {a : Rt} {t : Tb} (h : PR a) (ht : t.1 ≤ 16) : PR (setT a t) := ⟨h.1, h.2.1, h.2.2.1, fun z => ⟨(h.2.2.2 z).1, (h.2.2.2 z).2.1, (h.2.2.2 z).2.2.1, ht⟩⟩
theorem PR_L {a : Rt} {l : Lg} (h : PR a) : PR (setLg a l) := h
theorem c_count {nr r : Nat} {ρ : Nat → Rt} {w : Wk} {H : Hp} {n : Int64} (h : S8 nr ρ w H) (hr : r < nr) (hd : rD (ρ r) = true) : ok (f_X4_count r n H) (fun _ H' => S8 nr (upR ρ r (setT (ρ r) (cntTb (rtb (ρ r)) n))) w H') := by
  obtain ⟨p, c1, c2, c3, c4, c5⟩ := h.2.1 r hr
  obtain ⟨f1, f2, f3, f4, f5, f6, f7⟩ := c5 hd
  have h16 := (p.2.2.2 hd).2.2.2
  refine ok_m (x4_count (n := n) f7 h16) ?_
  rintro _ H' ⟨q, t⟩
  refine S8_up h q rfl (PK_up h.2.2.1 (fun z => ⟨z, rfl, rfl⟩)) (PR_T p (cntTb_le h16)) ?_
  have qc : ∀ {fp : List (Nat × Option Nat)} (_ : nol LCT 2 fp = true) {k : Nat} {o : Option Nat} (_ : (k, o) ∈ fp) {i : Nat} (_ : slo o i = true), gI H' (r + 2) k i = gI H (r + 2) k i ∧ gJ H' (r + 2) k i = gJ H (r + 2) k i := by
    intro fp a k o b i c
    exact q.c a b c
  refine ⟨?_, CG_ch c2 q rfl, ?_, fun e he => ?_, fun _ => ⟨CL_ch f1 q rfl, CW_ch f2 q rfl, ?_, ?_, ?_, ?_, t⟩⟩
  · rw [(qc (fp := [(0, none), (6, none)]) rfl (k := 0) (o := none) (by simp) rfl).1]; exact c1
  · rw [(qc (fp := [(0, none), (6, none)]) rfl (k := 0) (o := none) (by simp) rfl).1]; exact c3
  · rw [(qc (fp := [(0, none), (6, none)]) rfl (k := 6) (o := none) (by simp) rfl).1]; exact c4 e he
  · obtain ⟨t1, t2, t3, ln, uL, t4, u1, u2, u3, u4⟩ := f3
    have fp : nol LCT 2 [(27, none), (3, none), (29, none), (30, none)] = true := rfl
    refine ⟨fun j hj => ?_, ?_, ?_, ln, uL, t4, ?_, fun k hk => ?_, fun k k0 hk => ?_, ?_⟩
    · rw [(qc fp (k := 27) (o := none) (by simp) rfl).1]; exact t1 j hj
    · rw [(qc fp (k := 3) (o := none) (by simp) rfl).1]; exact t2
    · rw [(qc fp (k := 3) (o := none) (by simp) rfl).2]; exact t3
    · rw [(qc fp (k := 3) (o := none) (by simp) rfl).1]; exact u1
    · rw [(qc fp (k := 30) (o := none) (by simp) rfl).1]; exact u2 k hk
    · rw [(qc fp (k := 29) (o := none) (by simp) rfl).1]; exact u3 k k0 hk
    · rw [(qc fp (k := 29) (o := none) (by simp) rfl).1]; exact u4
  · have fp : nol LCT 2 [(20, none), (22, none)] = true := rfl
    exact ⟨fun b hb => by rw [(qc fp (k := 20) (o := none) (by simp) rfl).2]; exact f4.1 b hb, fun e he => by rw [(qc fp (k := 22) (o := none) (by simp) rfl).2]; exact f4.2 e he⟩
  · have fp : nol LCT 2 [(34, none), (35, none), (36, none), (4, none)] = true := rfl
    exact ⟨fun e he => by rw [(qc fp (k := 34) (o := none) (by simp) rfl).2, (qc fp (k := 35) (o := none) (by simp) rfl).2]; exact f5.1 e he, fun b hb => by rw [(qc fp (k := 36) (o := none) (by simp) rfl).2]; exact f5.2.1 b hb, by rw [(qc fp (k := 4) (o := none) (by simp) rfl).2]; exact f5.2.2⟩
  · have fp : nol LCT 2 [(4, none)] = true := rfl
    rw [(qc fp (k := 4) (o := none) (by simp) rfl).2]; exact f6
theorem m_ends {nr r : Nat} {ρ : Nat → Rt} {w : Wk} {H : Hp} {n : Int64} (h : S9 nr ρ w H) (hr : r < nr) (hd : rD (ρ r) = true) : ok (f_X9_ends (nI r) n H) (fun _ H' => S9 nr (upR ρ r (setT (ρ r) (cntTb (rtb (ρ r)) n))) w H') := by
  obtain ⟨p, m1, m2, m3, m4⟩ := h.2.1 r hr
  obtain ⟨f1, f2, f3, f4⟩ := m4 hd
  have h16 := (p.2.2.2 hd).2.2.2
  have h8 := h.1.1
  refine ok_m (x9_ends (n := n) (by omega) f4 h16) ?_
  rintro _ H' ⟨q, t⟩
  refine S9_up h q rfl rfl (PK_up h.2.2.1 (fun z => ⟨z, rfl, rfl⟩)) (PR_T p (cntTb_le h16)) ?_
  refine ⟨MG_ch m1 q.1 rfl, ?_, fun e he => ?_, fun _ => ⟨MW_ch f1 q.1 rfl, ⟨fun e he => ?_, ?_, ?_, fun b hb => ?_⟩, ⟨fun e he => ?_, fun b hb => ?_, ?_⟩, t⟩⟩
  · rw [q.1.gi _ _ _ rfl]; exact m2
  · rw [q.1.gi _ _ _ rfl]; exact m3 e he
  · rw [q.1.gi _ _ _ rfl]; exact f2.1 e he
  · rw [q.1.gj _ _ _ rfl]; exact f2.2.1
  · rw [q.1.gi _ _ _ rfl]; exact f2.2.2.1
  · rw [q.1.gj _ _ _ rfl]; exact f2.2.2.2 b hb
  · rw [q.1.gj _ _ _ rfl, q.1.gj _ _ _ rfl]; exact f3.1 e he
  · rw [q.1.gj _ _ _ rfl]; exact f3.2.1 b hb
  · rw [q.1.gj _ _ _ rfl]; exact f3.2.2
