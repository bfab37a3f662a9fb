/-- frames go: what they leave -/
def T8 (nr : Nat) (ρ : Nat → Rt) (w : Wk) (H : Hp) : Prop := RR nr H ∧ (∀ r, r < nr → PR (ρ r) ∧ CR r (ρ r) H) ∧ CK w H
def T9 (nr : Nat) (ρ : Nat → Rt) (w : Wk) (H : Hp) : Prop := RR nr H ∧ (∀ r, r < nr → PR (ρ r) ∧ MR r (ρ r) H) ∧ MK w H
theorem S8.t {nr : Nat} {ρ : Nat → Rt} {w : Wk} {H : Hp} (h : S8 nr ρ w H) : T8 nr ρ w H := ⟨h.1, h.2.1, h.2.2.2⟩
theorem S9.t {nr : Nat} {ρ : Nat → Rt} {w : Wk} {H : Hp} (h : S9 nr ρ w H) : T9 nr ρ w H := ⟨h.1, h.2.1, h.2.2.2⟩
theorem T8.s {nr : Nat} {ρ : Nat → Rt} {w : Wk} {H : Hp} (h : T8 nr ρ w H) (k : PK nr ρ w) : S8 nr ρ w H := ⟨h.1, h.2.1, k, h.2.2⟩
theorem T9.s {nr : Nat} {ρ : Nat → Rt} {w : Wk} {H : Hp} (h : T9 nr ρ w H) (k : PK nr ρ w) : S9 nr ρ w H := ⟨h.1, h.2.1, k, h.2.2⟩
theorem T8_up {nr r : Nat} {ρ : Nat → Rt} {w : Wk} {H H1 : Hp} {a : Rt} {L : List (Nat × Nat × Option Nat)} (h : T8 nr ρ w H) (q : Ch (fun q => q == r) L H H1) (h0 : L.all (fun x => x.1 == 2) = true) (hP : PR a) (hC : CR r a H1) : T8 nr (upR ρ r a) w H1 := by
  obtain ⟨s1, s2, s4⟩ := h
  have n0 : ∀ g, g ≠ 2 → ∀ k i, inL L g k i = false := by
    intro g hg k i
    cases e : inL L g k i with
    | false => rfl
    | true =>
      obtain ⟨x, hx, h1, -⟩ := inL_iff.mp e
      have h2 := List.all_eq_true.mp h0 x hx
      simp only [beq_iff_eq] at h2
      exact absurd (h1.symm.trans h2) hg
  have g0 : ∀ k i, gI H1 0 k i = gI H 0 k i := fun k i => (q 0 k i (by show (true && inL L 0 k i) = false; rw [n0 0 (by decide)]; rfl)).1
  have g1 : ∀ k i, gI H1 1 k i = gI H 1 k i ∧ gJ H1 1 k i = gJ H 1 k i ∧ gR H1 1 k i = gR H 1 k i := fun k i => q 1 k i (by show (true && inL L 1 k i) = false; rw [n0 1 (by decide)]; rfl)
  refine ⟨?_, fun r' hr' => ?_, CK_eq s4 (fun k i => (g1 k i).1) (fun k i => (g1 k i).2.1) (fun k i => (g1 k i).2.2)⟩
  · obtain ⟨a1, a2, a3, a4, a5⟩ := s1
    exact ⟨a1, by rw [g0]; exact a2, by rw [(g1 0 3).1]; exact a3, fun i hi => by rw [(g1 1 i).2.2]; exact a4 i hi, fun i hi hj => by rw [(g1 1 i).2.2]; exact a5 i hi hj⟩
  · by_cases z : r' = r
    · rw [z, upR_eq]; exact ⟨hP, hC⟩
    · rw [upR_ne z]
      exact ⟨(s2 r' hr').1, CR_eq (s2 r' hr').2 (fun k i => (q.o (by simp [z]) k i).1) (fun k i => (q.o (by simp [z]) k i).2)⟩
theorem T9_up {nr r : Nat} {ρ : Nat → Rt} {w : Wk} {H H1 : Hp} {a : Rt} {L : List (Nat × Nat × Option Nat)} (h : T9 nr ρ w H) (q : Cr r L H H1) (h0 : L.all (fun x => x.1 == 0) = true) (h1 : nol L 0 fpMK = true) (hP : PR a) (hM : MR r a H1) : T9 nr (upR ρ r a) w H1 := by
  obtain ⟨s1, s2, s4⟩ := h
  refine ⟨?_, fun r' hr' => ?_, MK_ch s4 q.1 h1⟩
  · obtain ⟨a1, a2, a3, a4, a5⟩ := s1
    exact ⟨a1, by rw [(q.1.m h1 (k := 0) (o := some 0) (by simp [fpMK]) rfl).1]; exact a2, by rw [(q.1.m1 h0 1 0 3 (by decide)).1]; exact a3, fun i hi => by rw [(q.1.m1 h0 1 1 i (by decide)).2.2]; exact a4 i hi, fun i hi hj => by rw [(q.1.m1 h0 1 1 i (by decide)).2.2]; exact a5 i hi hj⟩
  · by_cases z : r' = r
    · rw [z, upR_eq]; exact ⟨hP, hM⟩
    · rw [upR_ne z]
      exact ⟨(s2 r' hr').1, MR_o (s2 r' hr').2 (s2 r' hr').1 q.2 z⟩
abbrev LLG : List (Nat × Nat × Option Nat) := [(2, 4, some 3), (2, 4, some 4), (2, 34, none), (2, 35, none), (2, 36, none)]
abbrev LML : List (Nat × Nat × Option Nat) := [(0, 19, none), (0, 21, none), (0, 22, none), (0, 23, none)]
theorem CR_log {r : Nat} {a : Rt} {l : Lg} {rs : Nat → Bool} {H H' : Hp} (h : CR r a H) (q : Ch rs LLG H H') (hl : CLg r (rG a) l H') (hs : gJ H' (r + 2) 4 4 = sumJ l.2.2.1 (qB (rG a))) : CR r (setLg a l) H' := by
  obtain ⟨c1, c2, c3, c4, c5⟩ := h
  have qc : ∀ {fp : List (Nat × Option Nat)} (_ : nol LLG 2 fp = true) {k : Nat} {o : Option Nat} (_ : (k, o) ∈ fp) {i : Nat} (_ : slo o i = true), gI H' (r + 2) k i = gI H (r + 2) k i ∧ gJ H' (r + 2) k i = gJ H (r + 2) k i := by
    intro fp a k o b i c
    exact q.c a b c
  refine ⟨?_, CG_ch c2 q rfl, ?_, fun e he => ?_, fun z => ?_⟩
  · rw [(qc (fp := [(0, none), (6, none)]) rfl (k := 0) (o := none) (by simp) rfl).1]; exact c1
  · rw [(qc (fp := [(0, none), (6, none)]) rfl (k := 0) (o := none) (by simp) rfl).1]; exact c3
  · rw [(qc (fp := [(0, none), (6, none)]) rfl (k := 6) (o := none) (by simp) rfl).1]; exact c4 e he
  · obtain ⟨f1, f2, f3, f4, f5, f6, f7⟩ := c5 z
    refine ⟨CL_ch f1 q rfl, CW_ch f2 q rfl, ?_, ?_, hl, hs, ?_⟩
    · obtain ⟨t1, t2, t3, ln, uL, t4, u1, u2, u3, u4⟩ := f3
      have fp : nol LLG 2 [(27, none), (3, none), (29, none), (30, none)] = true := rfl
      refine ⟨fun j hj => ?_, ?_, ?_, ln, uL, t4, ?_, fun k hk => ?_, fun k k0 hk => ?_, ?_⟩
      · rw [(qc fp (k := 27) (o := none) (by simp) rfl).1]; exact t1 j hj
      · rw [(qc fp (k := 3) (o := none) (by simp) rfl).1]; exact t2
      · rw [(qc fp (k := 3) (o := none) (by simp) rfl).2]; exact t3
      · rw [(qc fp (k := 3) (o := none) (by simp) rfl).1]; exact u1
      · rw [(qc fp (k := 30) (o := none) (by simp) rfl).1]; exact u2 k hk
      · rw [(qc fp (k := 29) (o := none) (by simp) rfl).1]; exact u3 k k0 hk
      · rw [(qc fp (k := 29) (o := none) (by simp) rfl).1]; exact u4
    · have fp : nol LLG 2 [(20, none), (22, none)] = true := rfl
      exact ⟨fun b hb => by rw [(qc fp (k := 20) (o := none) (by simp) rfl).2]; exact f4.1 b hb, fun e he => by rw [(qc fp (k := 22) (o := none) (by simp) rfl).2]; exact f4.2 e he⟩
    · have fp : nol LLG 2 [(5, none), (37, none), (38, none)] = true := rfl
      exact ⟨by rw [(qc fp (k := 5) (o := none) (by simp) rfl).1]; exact f7.1, fun k hk => by rw [(qc fp (k := 37) (o := none) (by simp) rfl).2, (qc fp (k := 38) (o := none) (by simp) rfl).2]; exact f7.2.1 k hk, by rw [(qc fp (k := 5) (o := none) (by simp) rfl).2]; exact f7.2.2⟩
theorem MR_log {r : Nat} {a : Rt} {l : Lg} {H H' : Hp} (h : MR r a H) (q : Cr r LML H H') (hl : MLg r l H') : MR r (setLg a l) H' := by
  obtain ⟨m1, m2, m3, m4⟩ := h
  refine ⟨MG_ch m1 q.1 rfl, ?_, fun e he => ?_, fun z => ?_⟩
  · rw [q.1.gi _ _ _ rfl]; exact m2
  · rw [q.1.gi _ _ _ rfl]; exact m3 e he
  · obtain ⟨f1, f2, f3, f4⟩ := m4 z
    refine ⟨MW_ch f1 q.1 rfl, ⟨fun e he => ?_, ?_, ?_, fun b hb => ?_⟩, hl, ?_, fun k hk => ?_, ?_⟩
    · rw [q.1.gi _ _ _ rfl]; exact f2.1 e he
    · rw [q.1.gj _ _ _ rfl]; exact f2.2.1
    · rw [q.1.gi _ _ _ rfl]; exact f2.2.2.1
    · rw [q.1.gj _ _ _ rfl]; exact f2.2.2.2 b hb
    · rw [q.1.gi _ _ _ rfl]; exact f4.1
    · rw [q.1.gj _ _ _ rfl, q.1.gj _ _ _ rfl]; exact f4.2.1 k hk
    · rw [q.1.gj _ _ _ rfl]; exact f4.2.2
def stp (l : Lg) (b : Nat) : Lg := (l.1, l.2.1, upJ l.2.2.1 b (l.2.2.1 b + 1), l.2.2.2)
theorem sumJ_s (f : Nat → Int64) (n : Nat) : sumJ f (n + 1) = sumJ f n + f n := rfl
theorem sumJ_congr {f g : Nat → Int64} {n : Nat} (h : ∀ i, i < n → f i = g i) : sumJ f n = sumJ g n := by
  induction n with
  | zero => rfl
  | succ n ih => rw [sumJ_s, sumJ_s, ih (fun i hi => h i (by omega)), h n (by omega)]
theorem sumJ_up {f : Nat → Int64} {b n : Nat} (hb : b < n) : sumJ (upJ f b (f b + 1)) n = sumJ f n + 1 := by
  induction n with
  | zero => exact absurd hb (Nat.not_lt_zero _)
  | succ n ih =>
    rw [sumJ_s, sumJ_s]
    by_cases q : b = n
    · subst q
      rw [upJ_eq, sumJ_congr (g := f) (fun i hi => upJ_ne (by omega))]
      grind
    · rw [ih (by omega), upJ_ne (by omega)]
      grind
theorem x2_stopped {r b : Nat} {a : Rt} {H : Hp} (hP : PR a) (hC : CR r a H) (hd : rD a = true) (hb : b < qB (rG a)) : ok (f_X2_countStopped r (nI b) H) (fun _ H' => Ch (fun q => q == r) LLG H H' ∧ CR r (setLg a (stp (rlg a) b)) H') := by
  have hB := hP.1.1
  obtain ⟨f1, f2, f3, f4, f5, f6, f7⟩ := hC.2.2.2.2 hd
  unfold f_X2_countStopped
  simp (disch := omega) only [gd_nI, nI_clamp, hl, f5.2.1, gJ_ne, f6]
  have q : Ch (fun q => q == r) LLG H (sJ (sJ H (r + 2) 36 b ((rlg a).2.2.1 b + 1)) (r + 2) 4 4 (sumJ (rlg a).2.2.1 (qB (rG a)) + 1)) := Ch.sJ (by simp [rsg]) rfl (Ch.sJ (by simp [rsg]) rfl (Ch.rf H))
  refine ok_s ⟨q, CR_log hC q ⟨fun e he => ?_, fun c hc => ?_, ?_⟩ ?_⟩
  · rw [gJ_ne (by omega), gJ_ne (by omega), gJ_ne (by omega), gJ_ne (by omega)]; exact f5.1 e he
  · rw [gJ_ne (by omega), gJ_sJ]
    show _ = upJ (rlg a).2.2.1 b ((rlg a).2.2.1 b + 1) c
    by_cases z : c = b
    · rw [if_pos ⟨rfl, rfl, z⟩, z, upJ_eq]
    · rw [if_neg (fun u => z u.2.2), upJ_ne z]; exact f5.2.1 c hc
  · rw [gJ_ne (by omega), gJ_ne (by omega)]; exact f5.2.2
  · rw [gJ_eq]; exact (sumJ_up hb).symm
def addS (a : Rt) (c : Nat → Nat) : Rt := setLg a ((rlg a).1, (rlg a).2.1, fun b => (rlg a).2.2.1 b + lN (c b), (rlg a).2.2.2)
theorem lN_s (n : Nat) : lN (n + 1) = lN n + 1 := (lN_1 n).symm
theorem addS_0 (a : Rt) {c : Nat → Nat} (h : ∀ b, c b = 0) : addS a c = a := by
  have : (fun b => (rlg a).2.2.1 b + lN (c b)) = (rlg a).2.2.1 := by
    funext b
    rw [h b]
    show (rlg a).2.2.1 b + 0 = _
    rw [Int64.add_zero]
  unfold addS
  rw [this]; rfl
theorem addS_stp (a : Rt) {c c' : Nat → Nat} {b : Nat} (h1 : c' b = c b + 1) (h2 : ∀ x, x ≠ b → c' x = c x) : setLg (addS a c) (stp (rlg (addS a c)) b) = addS a c' := by
  have : upJ (fun x => (rlg a).2.2.1 x + lN (c x)) b ((rlg a).2.2.1 b + lN (c b) + 1) = fun x => (rlg a).2.2.1 x + lN (c' x) := by
    funext x
    by_cases q : x = b
    · rw [q, upJ_eq, h1, lN_s]; grind
    · rw [upJ_ne q, h2 x q]
  show setLg a ((rlg a).1, (rlg a).2.1, upJ (fun x => (rlg a).2.2.1 x + lN (c x)) b ((rlg a).2.2.1 b + lN (c b) + 1), (rlg a).2.2.2) = addS a c'
  rw [this]; rfl
def pF (w : Wk) (r b f : Nat) : Bool := decide (wR w f = r ∧ wB w f = b)
def dropR (ρ : Nat → Rt) (w : Wk) : Nat → Rt := fun r => addS (ρ r) (fun b => opn w r b)
def noF (w : Wk) (t : Nat) : Wk := (0, wR w, wB w, wS w, t, wN w, wP w)
theorem RR_1 {nr : Nat} {H : Hp} (h : RR nr H) {k i : Nat} {v : Int32} (hk : ¬ (0 = k ∧ 3 = i)) : RR nr (sI H 1 k i v) := RR_sI h (by omega) (by omega)
theorem sub01 : nI 0 - nI 1 = N1 := by decide +kernel
theorem CR_1 {r : Nat} {a : Rt} {H : Hp} (h : CR r a H) {k i : Nat} {v : Int32} : CR r a (sI H 1 k i v) := CR_eq h (fun _ _ => gI_ne (by omega)) (fun _ _ => gJ_sI _ _ _ _ _ _ _ _)
theorem c_drop_7 {nr : Nat} {ρ : Nat → Rt} {w : Wk} {H : Hp} {k : Hp → Option (Unit × Hp)} {Q : Unit → Hp → Prop} (h : T8 nr ρ w H) (hK : wF w ≤ 30 ∧ ∀ f, f < wF w → wR w f < nr ∧ rD (ρ (wR w f)) = true ∧ wB w f < qB (rG (ρ (wR w f)))) (K : ∀ H', T8 nr (dropR ρ w) w H' → ok (k H') Q) : ok (L_X6_dropFrames_7 nr k FU (nI (wF w) - nI 1) H) Q := by
  have h30 := hK.1
  refine ok_w1 (fun d a H' => a = (if d = 0 then N1 else nI (d - 1)) ∧ d ≤ wF w ∧ T8 nr (fun r => addS (ρ r) (fun b => opn w r b - cntP (pF w r b) d)) w H') ?_ (d := wF w) ⟨?_, Nat.le_refl _, ?_⟩ (FUgt (by omega))
  · rintro d n a H1 ⟨rfl, hd, hT⟩ K1
    rw [L_X6_dropFrames_7]
    cases d with
    | zero =>
      rw [if_pos rfl]
      simp (disch := omega) only [l0, N_lt, if_true]
      exact K _ hT
    | succ d =>
      obtain ⟨k1, k2, k3⟩ := hK.2 d (by omega)
      obtain ⟨g1, g2, g3⟩ := hT.2.2.2.2.2.2 d (by omega)
      have hB := (hT.2.1 _ k1).1.1.1
      have hB' : qB (rG (ρ (wR w d))) ≤ 20 := hB
      rw [if_neg (show ¬ d + 1 = 0 by omega)]
      simp (disch := omega) only [Nat.add_sub_cancel, l0, nI_lt_iff, if_neg, gd_nI, nI_clamp, g1, vl, nz_s k1, nn_s k1, g2, l1, n_neg]
      refine ok_b (x2_stopped (hT.2.1 _ k1).1 (hT.2.1 _ k1).2 k2 k3) ?_
      rintro _ H2 ⟨q2, c2⟩
      refine K1 d _ _ (by omega) ⟨?_, by omega, ?_⟩
      · cases d with
        | zero => rfl
        | succ d => rw [if_neg (by omega), nI_dec]; rfl
      · have hT2 := T8_up hT q2 rfl (PR_L (hT.2.1 _ k1).1) c2
        have hmono : ∀ r b, cntP (pF w r b) (d + 1) ≤ opn w r b := fun r b => cntP_mono _ (by omega)
        have e : upR (fun r => addS (ρ r) (fun b => opn w r b - cntP (pF w r b) (d + 1))) (wR w d) (setLg (addS (ρ (wR w d)) (fun b => opn w (wR w d) b - cntP (pF w (wR w d) b) (d + 1))) (stp (rlg (addS (ρ (wR w d)) (fun b => opn w (wR w d) b - cntP (pF w (wR w d) b) (d + 1)))) (wB w d))) = fun r => addS (ρ r) (fun b => opn w r b - cntP (pF w r b) d) := by
          funext r
          by_cases q : r = wR w d
          · rw [q, upR_eq]
            refine addS_stp _ ?_ (fun x hx => ?_)
            · have := hmono (wR w d) (wB w d)
              rw [cntP_s, if_pos (show pF w (wR w d) (wB w d) d = true from decide_eq_true ⟨rfl, rfl⟩)] at this ⊢
              omega
            · rw [cntP_s, if_neg (fun z => hx (of_decide_eq_true z).2.symm)]; rfl
          · rw [upR_ne q]
            congr 1
            funext b
            rw [cntP_s, if_neg (fun z => q (of_decide_eq_true z).1.symm)]; rfl
        rw [e] at hT2
        exact hT2
  · cases hF : wF w with
    | zero => exact sub01
    | succ m => rw [if_neg (by omega), nI_sub (by omega)]
  · have e : (fun r => addS (ρ r) (fun b => opn w r b - cntP (pF w r b) (wF w))) = ρ := by
      funext r
      exact addS_0 _ (fun b => Nat.sub_self _)
    rw [e]; exact h
theorem c_drop {nr : Nat} {ρ : Nat → Rt} {w : Wk} {H : Hp} (h : T8 nr ρ w H) (hK : wF w ≤ 30 ∧ ∀ f, f < wF w → wR w f < nr ∧ rD (ρ (wR w f)) = true ∧ wB w f < qB (rG (ρ (wR w f)))) : ok (f_X6_dropFrames nr H) (fun _ H' => T8 nr (dropR ρ w) (noF w (wT w)) H') := by
  unfold f_X6_dropFrames
  simp only [h.2.2.1, vl, l1]
  refine c_drop_7 h hK (fun H1 hT => ?_)
  simp only [hl]
  refine ok_s ⟨RR_1 hT.1 (by omega), fun r hr => ⟨(hT.2.1 r hr).1, CR_1 (hT.2.1 r hr).2⟩, ?_, ?_, ?_, ?_, fun f hf => absurd hf (Nat.not_lt_zero _)⟩
  · rw [gI_eq]; rfl
  · rw [gI_ne (by omega)]; exact hT.2.2.2.1
  · rw [gI_ne (by omega)]; exact hT.2.2.2.2.1
  · rw [gI_ne (by omega)]; exact hT.2.2.2.2.2.1
theorem MR_st {r b : Nat} {a : Rt} {H : Hp} (hP : PR a) (hM : MR r a H) (hd : rD a = true) (hb : b < qB (rG a)) : Cr r LML H (sJ H 0 21 (20 * r + b) ((rlg a).2.2.1 b + 1)) ∧ MR r (setLg a (stp (rlg a) b)) (sJ H 0 21 (20 * r + b) ((rlg a).2.2.1 b + 1)) := by
  have hB := hP.1.1
  obtain ⟨f1, f2, f3, f4⟩ := hM.2.2.2 hd
  have q : Cr r LML H (sJ H 0 21 (20 * r + b) ((rlg a).2.2.1 b + 1)) := Cr.sJ rfl (o20 (by omega)) (Cr.rf H)
  refine ⟨q, MR_log hM q ⟨fun e he => ?_, fun c hc => ?_, ?_⟩⟩
  · rw [gJ_ne (by omega), gJ_ne (by omega)]; exact f3.1 e he
  · rw [gJ_sJ]
    show _ = upJ (rlg a).2.2.1 b ((rlg a).2.2.1 b + 1) c
    by_cases z : c = b
    · rw [if_pos ⟨rfl, rfl, by omega⟩, z, upJ_eq]
    · rw [if_neg (by omega), upJ_ne z]; exact f3.2.1 c hc
  · rw [gJ_ne (by omega)]; exact f3.2.2
theorem m_allGo {nr : Nat} {ρ : Nat → Rt} {w : Wk} {H : Hp} (h : T9 nr ρ w H) (hK : wF w ≤ 30 ∧ ∀ f, f < wF w → wR w f < nr ∧ rD (ρ (wR w f)) = true ∧ wB w f < qB (rG (ρ (wR w f)))) : ok (f_X9_allGo H) (fun _ H' => T9 nr (dropR ρ w) (noF w (wT w)) H') := by
  have h30 := hK.1
  have h8 := h.1.1
  unfold f_X9_allGo
  refine ok_g1 (wF w) (fun i H' => T9 nr (fun r => addS (ρ r) (fun b => cntP (pF w r b) i)) w H') ?_ ?_ rfl ?_ (FUgt (by omega))
  · rintro d n H1 hd hT K1
    obtain ⟨k1, k2, k3⟩ := hK.2 d hd
    obtain ⟨g1, g2, g3⟩ := hT.2.2.2.2.2.2 d hd
    have hP1 := (hT.2.1 _ k1).1
    have hM1 := (hT.2.1 _ k1).2
    have hB' : qB (rG (ρ (wR w d))) ≤ 20 := hP1.1.1
    obtain ⟨f1, f2, f3, f4⟩ := hM1.2.2.2 k2
    have s21 := f3.2.1 (wB w d) (by omega)
    rw [L_X9_allGo_2]
    simp (disch := omega) only [hT.2.2.1, nI_le_iff, if_neg, gd_nI, nI_clamp, g1, g2, l20, nImul, nIadd, s21, hl, vl, l1]
    obtain ⟨q2, m2⟩ := MR_st hP1 hM1 k2 k3
    have hT2 := T9_up hT q2 rfl rfl (PR_L hP1) m2
    have e : upR (fun r => addS (ρ r) (fun b => cntP (pF w r b) d)) (wR w d) (setLg (addS (ρ (wR w d)) (fun b => cntP (pF w (wR w d) b) d)) (stp (rlg (addS (ρ (wR w d)) (fun b => cntP (pF w (wR w d) b) d))) (wB w d))) = fun r => addS (ρ r) (fun b => cntP (pF w r b) (d + 1)) := by
      funext r
      by_cases q : r = wR w d
      · rw [q, upR_eq]
        refine addS_stp _ ?_ (fun x hx => ?_)
        · rw [cntP_s, if_pos (show pF w (wR w d) (wB w d) d = true from decide_eq_true ⟨rfl, rfl⟩)]
        · rw [cntP_s, if_neg (fun z => hx (of_decide_eq_true z).2.symm)]; rfl
      · rw [upR_ne q]
        congr 1
        funext b
        rw [cntP_s, if_neg (fun z => q (of_decide_eq_true z).1.symm)]; rfl
    rw [e] at hT2
    exact K1 _ hT2
  · rintro n H1 hT
    rw [L_X9_allGo_2]
    simp (disch := omega) only [hT.2.2.1, nI_le_iff, if_pos, hl]
    have q0 : Ch TT [(0, 0, some 28)] H1 (sI H1 0 0 28 0) := Ch.sI rfl rfl (Ch.rf _)
    have qs : ∀ r, Rs r H1 (sI H1 0 0 28 0) := fun r => Rs.sI trivial (Rs.rf _)
    refine ok_s ⟨RR_sI hT.1 (by omega) (by omega), fun r hr => ⟨(hT.2.1 r hr).1, ?_⟩, ?_, ?_, ?_, ?_, fun f hf => absurd hf (Nat.not_lt_zero _)⟩
    · exact MR_o (r := r + 1) (hT.2.1 r hr).2 (hT.2.1 r hr).1 (qs (r + 1)) (by omega)
    · rw [gI_eq]; rfl
    · rw [gI_ne (by omega)]; exact hT.2.2.2.1
    · rw [gI_ne (by omega)]; exact hT.2.2.2.2.1
    · rw [gI_ne (by omega)]; exact hT.2.2.2.2.2.1
  · have e : (fun r => addS (ρ r) (fun b => cntP (pF w r b) 0)) = ρ := by
      funext r
      exact addS_0 _ (fun b => rfl)
    rw [e]; exact h
