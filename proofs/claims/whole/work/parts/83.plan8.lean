theorem ok_and {α : Type} {o : Option (α × Hp)} {P R : α → Hp → Prop} (h : ok o P) (hr : ∀ x H', o = some (x, H') → R x H') : ok o (fun x H' => P x H' ∧ R x H') := by
  obtain ⟨x, H', e, p⟩ := h
  exact ⟨x, H', e, p, hr x H' e⟩
/-- the class's plan made anew -/
theorem x0_clear {r : Nat} {H : Hp} : ok (f_X0_clear r H) (fun _ H' => Ch TT [(2, 4, some 3), (2, 4, some 4), (2, 34, none), (2, 35, none), (2, 36, none)] H H' ∧ (∀ e, e < 40 → gJ H' (r + 2) 34 e = 0 ∧ gJ H' (r + 2) 35 e = 0) ∧ (∀ b, b < 20 → gJ H' (r + 2) 36 b = 0) ∧ gJ H' (r + 2) 4 3 = 0 ∧ gJ H' (r + 2) 4 4 = 0) := by
  unfold f_X0_clear
  refine ok_g1 40 (fun i H' => Ch TT [(2, 4, some 3), (2, 4, some 4), (2, 34, none), (2, 35, none), (2, 36, none)] H H' ∧ ∀ e, e < i → gJ H' (r + 2) 34 e = 0 ∧ gJ H' (r + 2) 35 e = 0) ?_ ?_ rfl ⟨Ch.rf H, fun c hc => absurd hc (Nat.not_lt_zero _)⟩ (FUgt (by omega))
  · rintro i n H1 hi ⟨hC, hI⟩ K1
    rw [L_X0_clear_2]
    generalize (fun H5 => L_X0_clear_30 r (fun H9 => hl (sJ H9 (r + 2) 4 3 0) (fun H10 => hl (sJ H10 (r + 2) 4 4 0) (fun H11 => some ((), H11)))) FU 0 H5) = kk at K1 ⊢
    simp (disch := omega) only [l40, nI_le_iff, if_neg, gd_nI, nI_clamp, hl, vl, l1, nIadd]
    refine K1 _ ⟨?_, fun c hc => ?_⟩
    · exact Ch.sJ rfl rfl (Ch.sJ rfl rfl hC)
    · by_cases q : c = i
      · rw [q, gJ_eq, gJ_ne (by omega), gJ_eq]; exact ⟨rfl, rfl⟩
      · rw [gJ_ne (by omega), gJ_ne (by omega), gJ_ne (by omega), gJ_ne (by omega)]; exact hI c (by omega)
  · rintro n H1 ⟨hC, hI⟩
    rw [L_X0_clear_2]
    rw [if_pos (by rw [l40, nI_le_iff (by omega) (by omega)]; omega)]
    refine ok_g1 20 (fun i H' => Ch TT [(2, 4, some 3), (2, 4, some 4), (2, 34, none), (2, 35, none), (2, 36, none)] H H' ∧ (∀ e, e < 40 → gJ H' (r + 2) 34 e = 0 ∧ gJ H' (r + 2) 35 e = 0) ∧ ∀ b, b < i → gJ H' (r + 2) 36 b = 0) ?_ ?_ rfl ⟨hC, hI, fun c hc => absurd hc (Nat.not_lt_zero _)⟩ (FUgt (by omega))
    · rintro i n H2 hi ⟨hC2, hI2, hJ2⟩ K2
      rw [L_X0_clear_30]
      simp (disch := omega) only [l20, nI_le_iff, if_neg, gd_nI, nI_clamp, hl, vl, l1, nIadd]
      refine K2 _ ⟨?_, fun e he => ?_, fun c hc => ?_⟩
      · exact Ch.sJ rfl rfl hC2
      · rw [gJ_ne (by omega), gJ_ne (by omega)]; exact hI2 e he
      · by_cases q : c = i
        · rw [q, gJ_eq]
        · rw [gJ_ne (by omega)]; exact hJ2 c (by omega)
    · rintro n H2 ⟨hC2, hI2, hJ2⟩
      rw [L_X0_clear_30]
      simp (disch := omega) only [l20, nI_le_iff, if_pos, hl]
      refine ok_s ⟨?_, fun e he => ?_, fun b hb => ?_, ?_, ?_⟩
      · exact Ch.sJ rfl rfl (Ch.sJ rfl rfl hC2)
      · rw [gJ_ne (by omega), gJ_ne (by omega), gJ_ne (by omega), gJ_ne (by omega)]; exact hI2 e he
      · rw [gJ_ne (by omega), gJ_ne (by omega)]; exact hJ2 b hb
      · rw [gJ_ne (by omega), gJ_eq]
      · rw [gJ_eq]
abbrev LPA : List (Nat × Nat × Option Nat) := [(2, 3, some 9), (2, 3, some 10), (2, 3, some 11), (2, 4, some 3), (2, 4, some 4), (2, 5, some 2), (2, 5, some 3), (2, 20, none), (2, 22, none), (2, 23, none), (2, 26, none), (2, 27, none), (2, 28, none), (2, 29, none), (2, 30, none), (2, 31, none), (2, 34, none), (2, 35, none), (2, 36, none)]
def lg0 : Lg := (fun _ => 0, fun _ => 0, fun _ => 0, 0)
def tb0 : Tb := (0, fun _ => 0, fun _ => 0, 0)
theorem sumJ_0 (n : Nat) : sumJ (fun _ => 0) n = 0 := by
  induction n with
  | zero => rfl
  | succ n ih =>
    show sumJ (fun _ => 0) n + 0 = 0
    rw [ih]; rfl
theorem x2_planAnew {r : Nat} {G : Gr} {H : Hp} (hG : CG r G H) (h : CL r G H) (w : WG G) (h0 : 0 < qB G) (h3 : allB (spi (qF G) (qT G) (qE G) rM (qB G)) (qB G) = true) (hA : ∀ e, e < qE G → gJ H (r + 2) 21 e = lN (aD G e)) : ok (f_X2_planAnew r H) (fun _ H' => (Ch TT LPA H H' ∧ CT r G G H' ∧ (∃ p, Pot G p ∧ CPt r G p H') ∧ CLg r G lg0 H' ∧ gJ H' (r + 2) 4 4 = 0 ∧ CTb r tb0 H') ∧ Ch (fun q => q == r) LPA H H') := by
  refine ok_and ?_ (fun x H' e => ch_X2_planAnew (Ch.rf H) e)
  unfold f_X2_planAnew
  refine ok_b (x5_grow hG h w h0 h3) ?_
  rintro _ H1 ⟨hC1, hT1, o, hS, ho⟩
  have hG1 := CG_ch hG hC1 rfl
  refine ok_b (x7_lighten hG1 w h0 (fun e he => by rw [hC1.gj _ _ _ rfl]; exact hA e he) hS ho) ?_
  rintro _ H2 ⟨hC2, p, hP, hP2⟩
  refine ok_b x0_clear ?_
  rintro _ H3 ⟨hC3, a1, a2, a3, a4⟩
  unfold f_X4_clear
  simp only [hl, bnd_s]
  have hC4 : Ch TT [(2, 5, some 2), (2, 5, some 3)] H3 (sJ (sI H3 (r + 2) 5 2 0) (r + 2) 5 3 0) := Ch.sJ rfl rfl (Ch.sI rfl rfl (Ch.rf _))
  refine ok_s ⟨?_, ?_, ⟨p, hP, ?_⟩, ?_, ?_, ?_⟩
  · exact Ch.tr (fun _ q => q) rfl (Ch.tr (fun _ q => q) rfl (Ch.tr (fun _ q => q) rfl (Ch.tr (fun _ q => q) rfl (Ch.rf H) hC1) hC2) hC3) hC4
  · obtain ⟨t1, t2, t3, ln, uL, t4, u1, u2, u3, u4⟩ := hT1
    have e1 : ∀ k i, k = 27 ∨ k = 29 ∨ k = 30 ∨ k = 3 → gI (sJ (sI H3 (r + 2) 5 2 0) (r + 2) 5 3 0) (r + 2) k i = gI H1 (r + 2) k i ∧ gJ (sJ (sI H3 (r + 2) 5 2 0) (r + 2) 5 3 0) (r + 2) k i = gJ H1 (r + 2) k i := by
      intro k i hk
      rcases hk with rfl | rfl | rfl | rfl
      · exact ⟨by rw [hC4.gi _ _ _ rfl, hC3.gi _ _ _ rfl, hC2.gi _ _ _ rfl], by rw [hC4.gj _ _ _ rfl, hC3.gj _ _ _ rfl, hC2.gj _ _ _ rfl]⟩
      · exact ⟨by rw [hC4.gi _ _ _ rfl, hC3.gi _ _ _ rfl, hC2.gi _ _ _ rfl], by rw [hC4.gj _ _ _ rfl, hC3.gj _ _ _ rfl, hC2.gj _ _ _ rfl]⟩
      · exact ⟨by rw [hC4.gi _ _ _ rfl, hC3.gi _ _ _ rfl, hC2.gi _ _ _ rfl], by rw [hC4.gj _ _ _ rfl, hC3.gj _ _ _ rfl, hC2.gj _ _ _ rfl]⟩
      · exact ⟨by rw [hC4.gi _ _ _ rfl, hC3.gi _ _ _ rfl, hC2.gi _ _ _ rfl], by rw [hC4.gj _ _ _ rfl, hC3.gj _ _ _ rfl, hC2.gj _ _ _ rfl]⟩
    refine ⟨fun j hj => ?_, ?_, ?_, ln, uL, t4, ?_, fun k hk => ?_, fun k k0 hk => ?_, ?_⟩
    · rw [(e1 27 j (by omega)).1]; exact t1 j hj
    · rw [(e1 3 10 (by omega)).1]; exact t2
    · rw [(e1 3 11 (by omega)).2]; exact t3
    · rw [(e1 3 9 (by omega)).1]; exact u1
    · rw [(e1 30 k (by omega)).1]; exact u2 k hk
    · rw [(e1 29 _ (by omega)).1]; exact u3 k k0 hk
    · rw [(e1 29 _ (by omega)).1]; exact u4
  · refine ⟨fun b hb => ?_, fun e he => ?_⟩
    · rw [hC4.gj _ _ _ rfl, hC3.gj _ _ _ rfl]; exact hP2.1 b hb
    · rw [hC4.gj _ _ _ rfl, hC3.gj _ _ _ rfl]; exact hP2.2 e he
  · refine ⟨fun e he => ?_, fun b hb => ?_, ?_⟩
    · rw [hC4.gj _ _ _ rfl, hC4.gj _ _ _ rfl]; exact a1 e he
    · rw [hC4.gj _ _ _ rfl]; exact a2 b hb
    · rw [hC4.gj _ _ _ rfl]; exact a3
  · rw [hC4.gj _ _ _ rfl]; exact a4
  · refine ⟨?_, fun k hk => absurd hk (Nat.not_lt_zero _), ?_⟩
    · rw [gI_sJ, gI_eq]; rfl
    · rw [gJ_eq]; rfl
/-- one routine's state is another -/
def upR (ρ : Nat → Rt) (r : Nat) (a : Rt) : Nat → Rt := fun q => if q = r then a else ρ q
theorem upR_eq (ρ : Nat → Rt) (r : Nat) (a : Rt) : upR ρ r a r = a := if_pos rfl
theorem upR_ne {ρ : Nat → Rt} {r : Nat} {a : Rt} {q : Nat} (h : q ≠ r) : upR ρ r a q = ρ q := if_neg h
theorem upR_self (ρ : Nat → Rt) (r : Nat) : upR ρ r (ρ r) = ρ := by
  funext q
  by_cases h : q = r
  · rw [h, upR_eq]
  · rw [upR_ne h]
theorem PK_up {nr r : Nat} {ρ : Nat → Rt} {w : Wk} {a : Rt} (h : PK nr ρ w) (ha : rD (ρ r) = true → rD a = true ∧ qB (rG a) = qB (rG (ρ r)) ∧ qK (rG a) = qK (rG (ρ r))) : PK nr (upR ρ r a) w := by
  obtain ⟨h1, h2, h3, h4, h5⟩ := h
  refine ⟨h1, h2, h3, fun f hf => ?_, fun f hf => ?_⟩
  · obtain ⟨a1, a2, a3⟩ := h4 f hf
    refine ⟨a1, ?_⟩
    by_cases q : wR w f = r
    · rw [q, upR_eq]
      rw [q] at a2 a3
      obtain ⟨b1, b2, b3⟩ := ha a2
      exact ⟨b1, by rw [b2]; exact a3⟩
    · rw [upR_ne q]; exact ⟨a2, a3⟩
  · have a2 := (h4 f (by omega)).2.1
    by_cases q : wR w f = r
    · have a5 := h5 f hf
      rw [q, upR_eq]
      rw [q] at a2 a5
      rw [(ha a2).2.2]; exact a5
    · rw [upR_ne q]; exact h5 f hf
def fpCK : List (Nat × Option Nat) := [(0, some 3), (1, none), (2, some 3), (2, some 4), (2, some 5), (2, some 6), (4, none), (5, none), (6, none)]
def fpMK : List (Nat × Option Nat) := [(0, some 0), (0, some 27), (0, some 28), (0, some 29), (0, some 30), (31, none), (32, none), (33, none)]
theorem CK_ch {rs : Nat → Bool} {L : List (Nat × Nat × Option Nat)} {H H' : Hp} {w : Wk} (h : CK w H) (q : Ch rs L H H') (hL : nol L 1 fpCK = true) : CK w H' := by
  obtain ⟨h1, h2, h3, h4, h5⟩ := h
  refine ⟨?_, ?_, ?_, ?_, fun f hf => ?_⟩
  · rw [(q.w hL (k := 2) (o := some 3) (by simp [fpCK]) rfl).1]; exact h1
  · rw [(q.w hL (k := 2) (o := some 4) (by simp [fpCK]) rfl).1]; exact h2
  · rw [(q.w hL (k := 2) (o := some 5) (by simp [fpCK]) rfl).1]; exact h3
  · rw [(q.w hL (k := 2) (o := some 6) (by simp [fpCK]) rfl).1]; exact h4
  · rw [(q.w hL (k := 4) (o := none) (by simp [fpCK]) rfl).2.2, (q.w hL (k := 5) (o := none) (by simp [fpCK]) rfl).1, (q.w hL (k := 6) (o := none) (by simp [fpCK]) rfl).2.1]; exact h5 f hf
theorem MK_ch {rs : Nat → Bool} {L : List (Nat × Nat × Option Nat)} {H H' : Hp} {w : Wk} (h : MK w H) (q : Ch rs L H H') (hL : nol L 0 fpMK = true) : MK w H' := by
  obtain ⟨h1, h2, h3, h4, h5⟩ := h
  refine ⟨?_, ?_, ?_, ?_, fun f hf => ?_⟩
  · rw [(q.m hL (k := 0) (o := some 28) (by simp [fpMK]) rfl).1]; exact h1
  · rw [(q.m hL (k := 0) (o := some 27) (by simp [fpMK]) rfl).1]; exact h2
  · rw [(q.m hL (k := 0) (o := some 29) (by simp [fpMK]) rfl).1]; exact h3
  · rw [(q.m hL (k := 0) (o := some 30) (by simp [fpMK]) rfl).1]; exact h4
  · rw [(q.m hL (k := 31) (o := none) (by simp [fpMK]) rfl).1, (q.m hL (k := 32) (o := none) (by simp [fpMK]) rfl).1, (q.m hL (k := 33) (o := none) (by simp [fpMK]) rfl).2]; exact h5 f hf
theorem nol_sub {L : List (Nat × Nat × Option Nat)} {g : Nat} {fp fp' : List (Nat × Option Nat)} (h : nol L g fp = true) (hs : ∀ x, x ∈ fp' → x ∈ fp) : nol L g fp' = true := by
  unfold nol at h ⊢
  rw [List.all_eq_true] at h ⊢
  intro q hq
  have := h q hq
  rw [List.all_eq_true] at this ⊢
  exact fun x hx => this x (hs x hx)
/-- a call that changes one routine on both sides -/
theorem Rel_up {nr r : Nat} {ρ : Nat → Rt} {w : Wk} {H H1 H2 : Hp} {a : Rt} {L1 L2 : List (Nat × Nat × Option Nat)} (hRR : RR nr H) (h : ∀ r, r < nr → PR (ρ r) ∧ CR r (ρ r) H ∧ MR r (ρ r) H) (hK : PK nr (upR ρ r a) w) (hC : CK w H) (hM : MK w H) (q1 : Ch (fun q => q == r) L1 H H1) (h10 : L1.all (fun x => x.1 != 0) = true) (h11 : nol L1 1 fpCK = true) (q2 : Ch TT L2 H1 H2) (h20 : L2.all (fun x => x.1 == 0) = true) (h21 : nol L2 0 fpMK = true) (hs : Rs r H1 H2) (hP : PR a) (hCa : CR r a H1) (hMa : MR r a H2) : Rel nr H2 := by
  have hRR1 : RR nr H1 := by
    obtain ⟨a1, a2, a3, a4, a5⟩ := hRR
    refine ⟨a1, ?_, ?_, fun i hi => ?_, fun i hi hj => ?_⟩
    · rw [(q1.c0 h10 0 0).1]; exact a2
    · rw [(q1.w h11 (k := 0) (o := some 3) (by simp [fpCK]) rfl).1]; exact a3
    · rw [(q1.w h11 (k := 1) (o := none) (by simp [fpCK]) rfl).2.2]; exact a4 i hi
    · rw [(q1.w h11 (k := 1) (o := none) (by simp [fpCK]) rfl).2.2]; exact a5 i hi hj
  have hRR2 : RR nr H2 := by
    obtain ⟨a1, a2, a3, a4, a5⟩ := hRR1
    refine ⟨a1, ?_, ?_, fun i hi => ?_, fun i hi hj => ?_⟩
    · rw [(q2.m h21 (k := 0) (o := some 0) (by simp [fpMK]) rfl).1]; exact a2
    · rw [(q2.m1 h20 1 0 3 (by decide)).1]; exact a3
    · rw [(q2.m1 h20 1 1 i (by decide)).2.2]; exact a4 i hi
    · rw [(q2.m1 h20 1 1 i (by decide)).2.2]; exact a5 i hi hj
  refine ⟨hRR2, upR ρ r a, w, fun r' hr' => ?_, hK, ?_, ?_⟩
  · by_cases q : r' = r
    · rw [q, upR_eq]
      exact ⟨hP, CR_eq hCa (fun k i => (q2.m1 h20 (r + 2) k i (by omega)).1) (fun k i => (q2.m1 h20 (r + 2) k i (by omega)).2.1), hMa⟩
    · rw [upR_ne q]
      obtain ⟨b1, b2, b3⟩ := h r' hr'
      refine ⟨b1, ?_, ?_⟩
      · have c1 : CR r' (ρ r') H1 := CR_eq b2 (fun k i => (q1.o (by simp [q]) k i).1) (fun k i => (q1.o (by simp [q]) k i).2)
        exact CR_eq c1 (fun k i => (q2.m1 h20 (r' + 2) k i (by omega)).1) (fun k i => (q2.m1 h20 (r' + 2) k i (by omega)).2.1)
      · exact MR_o (MR_eq b3 (fun k i => (q1.c0 h10 k i).1) (fun k i => (q1.c0 h10 k i).2)) b1 hs q
  · exact CK_eq (CK_ch hC q1 h11) (fun k i => (q2.m1 h20 1 k i (by decide)).1) (fun k i => (q2.m1 h20 1 k i (by decide)).2.1) (fun k i => (q2.m1 h20 1 k i (by decide)).2.2)
  · exact MK_ch (MK_eq hM (fun k i => (q1.c0 h10 k i).1) (fun k i => (q1.c0 h10 k i).2)) q2 h21
/-- a call that changes nothing but scratch -/
theorem Rel_q {nr : Nat} {H H1 H2 : Hp} {L1 L2 : List (Nat × Nat × Option Nat)} (h : Rel nr H) (q1 : Ch TT L1 H H1) (h10 : L1.all (fun x => x.1 != 0) = true) (h11 : nol L1 1 fpCK = true) (h12 : nol L1 2 (fpCG ++ fpCF ++ [(0, none), (6, none)]) = true) (q2 : Ch TT L2 H1 H2) (h20 : L2.all (fun x => x.1 == 0) = true) (h21 : nol L2 0 (fpMK ++ fpMG ++ fpMF ++ [(3, none), (10, none)]) = true) : Rel nr H2 := by
  obtain ⟨hRR, ρ, w, hr, hK, hC, hM⟩ := h
  have h21' : nol L2 0 fpMK = true := nol_sub h21 (fun x hx => by simp [hx])
  refine ⟨?_, ρ, w, fun r hrn => ?_, hK, ?_, ?_⟩
  · obtain ⟨a1, a2, a3, a4, a5⟩ := hRR
    refine ⟨a1, ?_, ?_, fun i hi => ?_, fun i hi hj => ?_⟩
    · rw [(q2.m h21' (k := 0) (o := some 0) (by simp [fpMK]) rfl).1, (q1.c0 h10 0 0).1]; exact a2
    · rw [(q2.m1 h20 1 0 3 (by decide)).1, (q1.w h11 (k := 0) (o := some 3) (by simp [fpCK]) rfl).1]; exact a3
    · rw [(q2.m1 h20 1 1 i (by decide)).2.2, (q1.w h11 (k := 1) (o := none) (by simp [fpCK]) rfl).2.2]; exact a4 i hi
    · rw [(q2.m1 h20 1 1 i (by decide)).2.2, (q1.w h11 (k := 1) (o := none) (by simp [fpCK]) rfl).2.2]; exact a5 i hi hj
  · obtain ⟨b1, ⟨c1, c2, c3, c4, c5⟩, b3⟩ := hr r hrn
    refine ⟨b1, ?_, ?_⟩
    · have hc : CR r (ρ r) H1 := by
        refine ⟨?_, CG_ch c2 q1 (nol_sub h12 (fun x hx => by simp [hx])), ?_, fun e he => ?_, fun z => CF_ch (c5 z) q1 (nol_sub h12 (fun x hx => by simp [hx]))⟩
        · rw [(q1.c h12 (k := 0) (o := none) (by simp) rfl).1]; exact c1
        · rw [(q1.c h12 (k := 0) (o := none) (by simp) rfl).1]; exact c3
        · rw [(q1.c h12 (k := 6) (o := none) (by simp) rfl).1]; exact c4 e he
      exact CR_eq hc (fun k i => (q2.m1 h20 (r + 2) k i (by omega)).1) (fun k i => (q2.m1 h20 (r + 2) k i (by omega)).2.1)
    · obtain ⟨d1, d2, d3, d4⟩ := MR_eq b3 (fun k i => (q1.c0 h10 k i).1) (fun k i => (q1.c0 h10 k i).2)
      refine ⟨MG_ch d1 q2 (nol_sub h21 (fun x hx => by simp [hx])), ?_, fun e he => ?_, fun z => MF_ch (d4 z) q2 (nol_sub h21 (fun x hx => by simp [hx]))⟩
      · rw [(q2.m h21 (k := 3) (o := none) (by simp) rfl).1]; exact d2
      · rw [(q2.m h21 (k := 10) (o := none) (by simp) rfl).1]; exact d3 e he
  · exact CK_eq (CK_ch hC q1 h11) (fun k i => (q2.m1 h20 1 k i (by decide)).1) (fun k i => (q2.m1 h20 1 k i (by decide)).2.1) (fun k i => (q2.m1 h20 1 k i (by decide)).2.2)
  · exact MK_ch (MK_eq hM (fun k i => (q1.c0 h10 k i).1) (fun k i => (q1.c0 h10 k i).2)) q2 h21'
