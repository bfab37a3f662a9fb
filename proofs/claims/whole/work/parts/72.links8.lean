/-- the class's links -/
def nd (G : Gr) (x : Nat) : Nat := if x = 20 then qB G else x
def un (G : Gr) (c : Nat) : Nat := if c = qB G then 20 else c
theorem nd_le {G : Gr} (w : WG G) {x : Nat} (h : nod G x) : nd G x ≤ qB G := by
  have := w.1
  unfold nd
  split
  · exact Nat.le_refl _
  · rcases h with h | h <;> omega
theorem un_nd {G : Gr} (w : WG G) {x : Nat} (h : nod G x) : un G (nd G x) = x := by
  have := w.1
  unfold un nd
  rcases h with h | h
  · rw [if_neg (show ¬ x = 20 by omega), if_neg (show ¬ x = qB G by omega)]
  · rw [h, if_pos rfl, if_pos rfl]
theorem nd_un {G : Gr} (w : WG G) {c : Nat} (h : c ≤ qB G) : nd G (un G c) = c ∧ nod G (un G c) := by
  have := w.1
  unfold un nd nod
  by_cases q : c = qB G
  · rw [if_pos q, if_pos rfl]; exact ⟨q.symm, Or.inr rfl⟩
  · rw [if_neg q, if_neg (by omega)]; exact ⟨rfl, Or.inl (by omega)⟩
theorem nd_b {G : Gr} (w : WG G) {x : Nat} (h : x < qB G) : nd G x = x := by
  have := w.1
  unfold nd
  rw [if_neg (by omega)]
theorem nd_inj {G : Gr} (w : WG G) {x y : Nat} (hx : nod G x) (hy : nod G y) : nd G x = nd G y ↔ x = y := by
  constructor
  · intro h
    rw [← un_nd w hx, ← un_nd w hy, h]
  · intro h; rw [h]
theorem CG_sI {r : Nat} {G : Gr} {H : Hp} {k i : Nat} {v : Int32} (h : CG r G H) (hk : (k = 1 ∧ i ≠ 10 ∧ i ≠ 11) ∨ (k ≠ 1 ∧ (k < 8 ∨ 16 < k)) ∨ ((k = 13 ∨ k = 14) ∧ qE G ≤ i)) : CG r G (sI H (r + 2) k i v) := by
  obtain ⟨h1, h2, h3, h4, h5, h6, h7, h8, h9, h10, h11⟩ := h
  refine ⟨?_, ?_, fun b hb => ?_, fun b hb => ?_, fun b hb => ?_, fun b hb => ?_, fun e he => ?_, fun e he => ?_, fun e he => ?_, fun e he => ?_, fun e he => ?_⟩
  · rw [gI_ne (by omega)]; exact h1
  · rw [gI_ne (by omega)]; exact h2
  · rw [gI_ne (by omega)]; exact h3 b hb
  · rw [gI_ne (by omega)]; exact h4 b hb
  · rw [gI_ne (by omega)]; exact h5 b hb
  · rw [gI_ne (by omega)]; exact h6 b hb
  · rw [gI_ne (by omega)]; exact h7 e he
  · rw [gI_ne (by omega)]; exact h8 e he
  · rw [gI_ne (by omega)]; exact h9 e he
  · rw [gI_ne (by omega)]; exact h10 e he
  · rw [gI_ne (by omega)]; exact h11 e he
def CL (r : Nat) (G : Gr) (H : Hp) : Prop := gI H (r + 2) 1 12 = nI (lk G) ∧ (∀ j, j < lk G → gI H (r + 2) 13 j = nI (nd G (lF G j))) ∧ (∀ j, j < lk G → gI H (r + 2) 14 j = nI (nd G (lT G j)))
def fpCL : List (Nat × Option Nat) := [(1, some 12), (13, none), (14, none)]
theorem CL_ch {rs : Nat → Bool} {L : List (Nat × Nat × Option Nat)} {H H' : Hp} {r : Nat} {G : Gr} (h : CL r G H) (q : Ch rs L H H') (hL : nol L 2 fpCL = true) : CL r G H' := by
  obtain ⟨h1, h2, h3⟩ := h
  refine ⟨?_, fun b hb => ?_, fun b hb => ?_⟩
  · rw [(q.c hL (k := 1) (o := some 12) (by simp [fpCL]) rfl).1]; exact h1
  · rw [(q.c hL (k := 13) (o := none) (by simp [fpCL]) rfl).1]; exact h2 b hb
  · rw [(q.c hL (k := 14) (o := none) (by simp [fpCL]) rfl).1]; exact h3 b hb
theorem CL_o {rs : Nat → Bool} {L : List (Nat × Nat × Option Nat)} {H H' : Hp} {r : Nat} {G : Gr} (h : CL r G H) (q : Ch rs L H H') (hr : rs r = false) : CL r G H' := by
  obtain ⟨h1, h2, h3⟩ := h
  refine ⟨?_, fun b hb => ?_, fun b hb => ?_⟩
  · rw [(q.o hr _ _).1]; exact h1
  · rw [(q.o hr _ _).1]; exact h2 b hb
  · rw [(q.o hr _ _).1]; exact h3 b hb
theorem x3_addLink {r j : Nat} {H : Hp} (a b : Int32) (hj : gI H (r + 2) 1 12 = nI j) (hj2 : j < 61) : f_X3_addLink r a b H = some ((), sI (sI (sI H (r + 2) 13 j a) (r + 2) 14 j b) (r + 2) 1 12 (nI (j + 1))) := by
  unfold f_X3_addLink
  have e1 : gI (sI H (r + 2) 13 j a) (r + 2) 1 12 = nI j := by rw [gI_ne (by omega)]; exact hj
  have e2 : gI (sI (sI H (r + 2) 13 j a) (r + 2) 14 j b) (r + 2) 1 12 = nI j := by rw [gI_ne (by omega)]; exact e1
  simp (disch := omega) only [hj, gd_nI, nI_clamp, hl, e1, e2, l1, nIadd]
theorem x3_linkEnd {r : Nat} {G : Gr} {H : Hp} (h : CG r G H) (w : WG G) : ok (f_X3_linkEnd r H) (fun _ H' => Ch TT [(2, 1, some 12), (2, 13, none), (2, 14, none)] H H' ∧ CG r G H' ∧ CL r G H') := by
  have hB := w.1
  have hE := w.2.1
  unfold f_X3_linkEnd
  simp only [h.2.1, hl]
  refine ok_g1 (qB G) (fun b H' => Ch TT [(2, 1, some 12), (2, 13, none), (2, 14, none)] H H' ∧ CG r G H' ∧ gI H' (r + 2) 1 12 = nI (qE G + cntP (lvP G) b) ∧ ∀ j, qE G ≤ j → j < qE G + cntP (lvP G) b → gI H' (r + 2) 13 j = nI (lfB G (j - qE G)) ∧ gI H' (r + 2) 14 j = nI (qB G)) ?_ ?_ rfl ⟨?_, ?_, gI_eq _ _ _ _ _, fun j j1 j2 => absurd j2 (by show ¬ j < qE G + 0; omega)⟩ (FUgt (by omega))
  · rintro b n H1 hb ⟨hC, hG, hS, hI⟩ K1
    obtain ⟨a1, a2, a3, -⟩ := id hG
    have hk := w.2.2.1 b hb
    have hcl := cntP_le (lvP G) b
    rw [L_X3_linkEnd_10]
    simp (disch := omega) only [a1, nI_le_iff, if_neg, gd_nI, nI_clamp, a3, l3, nI_inj, x3_addLink _ _ hS (show qE G + cntP (lvP G) b < 61 by omega), bnd_s, vl, l1, nIadd]
    refine ok_if (fun hc => K1 _ ⟨?_, ?_, ?_, fun j j1 j2 => ?_⟩) (fun hc => K1 _ ⟨hC, hG, ?_, fun j j1 j2 => ?_⟩)
    · exact Ch.sI rfl rfl (Ch.sI rfl rfl (Ch.sI rfl rfl hC))
    · exact CG_sI (CG_sI (CG_sI hG (by omega)) (by omega)) (by omega)
    · rw [gI_eq, cntP_s, if_pos (show lvP G b = true from decide_eq_true hc)]; rfl
    · rw [cntP_s, if_pos (show lvP G b = true from decide_eq_true hc)] at j2
      by_cases q : j = qE G + cntP (lvP G) b
      · rw [q, gI_ne (by omega), gI_ne (by omega), gI_eq, gI_ne (by omega), gI_eq, Nat.add_sub_cancel_left, lfB_eq hb hc]
        exact ⟨rfl, rfl⟩
      · rw [gI_ne (by omega), gI_ne (by omega), gI_ne (by omega), gI_ne (by omega), gI_ne (by omega), gI_ne (by omega)]
        exact hI j j1 (by omega)
    · rw [hS, cntP_s, if_neg (show ¬ lvP G b = true from fun z => hc (of_decide_eq_true z))]; rfl
    · rw [cntP_s, if_neg (show ¬ lvP G b = true from fun z => hc (of_decide_eq_true z))] at j2
      exact hI j j1 j2
  · rintro n H1 ⟨hC, hG, hS, hI⟩
    obtain ⟨a1, a2, a3, -, -, -, -, a8, a9, -⟩ := id hG
    have hcl := cntP_le (lvP G) (qB G)
    rw [L_X3_linkEnd_10]
    simp (disch := omega) only [a1, nI_le_iff, if_pos, x3_addLink _ _ hS (show qE G + cntP (lvP G) (qB G) < 61 by omega), bnd_s]
    have hG2 := CG_sI (k := 1) (i := 12) (v := nI (qE G + cntP (lvP G) (qB G) + 1)) (CG_sI (k := 14) (i := qE G + cntP (lvP G) (qB G)) (v := 0) (CG_sI (k := 13) (i := qE G + cntP (lvP G) (qB G)) (v := nI (qB G)) hG (by omega)) (by omega)) (by omega)
    obtain ⟨-, -, -, -, -, -, -, c8, c9, -⟩ := id hG2
    refine ok_s ⟨?_, hG2, gI_eq _ _ _ _ _, fun j hj => ?_, fun j hj => ?_⟩
    · exact Ch.sI rfl rfl (Ch.sI rfl rfl (Ch.sI rfl rfl hC))
    · unfold lk nL at hj
      unfold lF nL
      by_cases q1 : j < qE G
      · rw [if_pos q1, nd_b w (w.2.2.2.1 j q1).1]; exact c8 j q1
      · rw [if_neg q1]
        by_cases q2 : j < qE G + cntP (lvP G) (qB G)
        · rw [if_pos q2, nd_b w (lfB_ok (show j - qE G < nL G by unfold nL; omega)).1, gI_ne (by omega), gI_ne (by omega), gI_ne (by omega)]
          exact (hI j (by omega) q2).1
        · rw [if_neg q2, show j = qE G + cntP (lvP G) (qB G) by omega, gI_ne (by omega), gI_ne (by omega), gI_eq]
          unfold nd; rw [if_pos rfl]
    · unfold lk nL at hj
      unfold lT nL
      by_cases q1 : j < qE G
      · rw [if_pos q1, nd_b w (w.2.2.2.1 j q1).2.1]; exact c9 j q1
      · rw [if_neg q1]
        by_cases q2 : j < qE G + cntP (lvP G) (qB G)
        · rw [if_pos q2, gI_ne (by omega), gI_ne (by omega), gI_ne (by omega), (hI j (by omega) q2).2]
          unfold nd; rw [if_pos rfl]
        · rw [if_neg q2, show j = qE G + cntP (lvP G) (qB G) by omega, gI_ne (by omega), gI_eq]
          unfold nd; rw [if_neg (by decide)]; rfl
  · exact Ch.sI rfl rfl (Ch.rf H)
  · exact CG_sI h (by omega)
/-- edges in order -/
def Srt (G : Gr) (n : Nat) (o : Nat → Nat) : Prop := (∀ i, i < n → o i < n) ∧ (∀ f, f < n → ∃ i, i < n ∧ o i = f) ∧ (∀ i j, i < j → j < n → ky G (o i) < ky G (o j)) ∧ (∀ g : Nat → Nat, sumF (fun i => g (o i)) n = sumF g n)
def ins (o : Nat → Nat) (p e : Nat) : Nat → Nat := fun i => if i < p then o i else if i = p then e else o (i - 1)
theorem ins_sum {o : Nat → Nat} {p e m : Nat} (g : Nat → Nat) (h : p ≤ m) : sumF (fun i => g (ins o p e i)) (m + 1) = sumF (fun i => g (o i)) m + g e := by
  induction m with
  | zero =>
    have : p = 0 := by omega
    subst this
    show 0 + g (ins o 0 e 0) = 0 + g e
    unfold ins
    rw [if_neg (by omega), if_pos rfl]
  | succ m ih =>
    by_cases q : p = m + 1
    · subst q
      rw [sumF_s, sumF_congr (g := fun i => g (o i)) (fun i hi => by show g (ins o (m + 1) e i) = g (o i); unfold ins; rw [if_pos hi])]
      show _ + g (ins o (m + 1) e (m + 1)) = _
      unfold ins
      rw [if_neg (by omega), if_pos rfl]
    · rw [sumF_s, ih (by omega), sumF_s]
      show _ + g (ins o p e (m + 1)) = _
      have : ins o p e (m + 1) = o m := by unfold ins; rw [if_neg (by omega), if_neg (by omega)]; rfl
      rw [this]; omega
theorem Srt_ins {G : Gr} (w : WG G) {e p : Nat} {o : Nat → Nat} (he : e < qE G) (h : Srt G e o) (hp : p ≤ e) (h1 : p = 0 ∨ qG G e ≤ qG G (o (p - 1))) (h2 : ∀ i, p ≤ i → i < e → qG G (o i) < qG G e) : Srt G (e + 1) (ins o p e) := by
  obtain ⟨a, b, c, d⟩ := h
  have lo : ∀ i, i < p → ky G (o i) < ky G e := by
    intro i hi
    have ai := a i (by omega)
    rcases h1 with h1 | h1
    · omega
    · by_cases q : i = p - 1
      · rw [ky_lt w (by omega) he, q]; rw [q] at ai; omega
      · have c1 := c i (p - 1) (by omega) (by omega)
        have ap := a (p - 1) (by omega)
        rw [ky_lt w (by omega) (by omega)] at c1
        rw [ky_lt w (by omega) he]
        omega
  have hi' : ∀ i, p ≤ i → i < e → ky G e < ky G (o i) := by
    intro i i1 i2
    have ai := a i i2
    rw [ky_lt w he (by omega)]
    exact Or.inl (h2 i i1 i2)
  refine ⟨fun i hi => ?_, fun f hf => ?_, fun i j hij hj => ?_, fun g => ?_⟩
  · unfold ins
    by_cases q1 : i < p
    · rw [if_pos q1]; have := a i (by omega); omega
    · rw [if_neg q1]
      by_cases q2 : i = p
      · rw [if_pos q2]; omega
      · rw [if_neg q2]; have := a (i - 1) (by omega); omega
  · by_cases q : f = e
    · refine ⟨p, by omega, ?_⟩
      unfold ins
      rw [if_neg (by omega), if_pos rfl, q]
    · obtain ⟨i, i1, i2⟩ := b f (by omega)
      by_cases q1 : i < p
      · refine ⟨i, by omega, ?_⟩
        unfold ins
        rw [if_pos q1, i2]
      · refine ⟨i + 1, by omega, ?_⟩
        unfold ins
        rw [if_neg (by omega), if_neg (by omega), Nat.add_sub_cancel, i2]
  · unfold ins
    by_cases i1 : i < p
    · rw [if_pos i1]
      by_cases j1 : j < p
      · rw [if_pos j1]; exact c i j hij (by omega)
      · rw [if_neg j1]
        by_cases j2 : j = p
        · rw [if_pos j2]; exact lo i i1
        · rw [if_neg j2]; exact c i (j - 1) (by omega) (by omega)
    · rw [if_neg i1, if_neg (by omega : ¬ j < p)]
      by_cases i2 : i = p
      · rw [if_pos i2, if_neg (by omega : ¬ j = p)]
        exact hi' (j - 1) (by omega) (by omega)
      · rw [if_neg i2, if_neg (by omega : ¬ j = p)]
        exact c (i - 1) (j - 1) (by omega) (by omega)
  · rw [ins_sum g hp, d g]; rfl
theorem nI_dec {d : Nat} : nI (d + 1) + N1 = nI d := by
  have : N1 = -(1 : Int32) := rfl
  rw [this, ← Int32.sub_eq_add_neg]
  exact nI_pred d
theorem x5_sort_15 {r e : Nat} {G : Gr} {H : Hp} {o : Nat → Nat} {k : Int32 → Hp → Option (Unit × Hp)} {Q : Unit → Hp → Prop} (h : CG r G H) (w : WG G) (he : e < qE G) (hS : Srt G e o) (ho : ∀ i, i < e → gI H (r + 2) 26 i = nI (o i)) (K : ∀ p H', Ch TT [(2, 26, none)] H H' → p ≤ e → Srt G (e + 1) (ins o p e) → (∀ i, i < e + 1 → i ≠ p → gI H' (r + 2) 26 i = nI (ins o p e i)) → ok (k (nI p) H') Q) : ok (L_X5_sortByGuess_15 r (nI e) k FU (nI e) H) Q := by
  have hE := w.2.1
  refine ok_w1 (fun p a H' => a = nI p ∧ p ≤ e ∧ Ch TT [(2, 26, none)] H H' ∧ (∀ i, p ≤ i → i < e → qG G (o i) < qG G e) ∧ (∀ i, i < e + 1 → i ≠ p → gI H' (r + 2) 26 i = nI (ins o p e i))) ?_ (d := e) ⟨rfl, Nat.le_refl _, Ch.rf H, fun i i1 i2 => by omega, fun i i1 i2 => ?_⟩ (FUgt (by omega))
  · rintro p n a H1 ⟨rfl, hp, hC, h2, hI⟩ K1
    obtain ⟨a1, a2, -, -, -, -, -, -, -, a10, -⟩ := CG_ch h hC rfl
    rw [L_X5_sortByGuess_15]
    cases p with
    | zero =>
      simp (disch := omega) only [l0, nI_le_iff, if_pos]
      exact K 0 _ hC hp (Srt_ins w he hS hp (Or.inl rfl) h2) hI
    | succ p =>
      have op := hS.1 p (by omega)
      have hIp : gI H1 (r + 2) 26 p = nI (o p) := by rw [hI p (by omega) (by omega)]; unfold ins; rw [if_pos (by omega)]
      have ge := (w.2.2.2.1 e he).2.2
      have go := (w.2.2.2.1 (o p) (by omega)).2.2
      simp (disch := omega) only [l0, l1, nI_le_iff, if_neg, nI_sub, Nat.add_sub_cancel, gd_nI, nI_clamp, hIp, a10, hl, vl, n_neg, nI_dec]
      refine ok_if (fun hc => K (p + 1) _ hC hp (Srt_ins w he hS hp (Or.inr hc) h2) hI) (fun hc => K1 p _ _ (by omega) ⟨rfl, by omega, ?_, fun i i1 i2 => ?_, fun i i1 i2 => ?_⟩)
      · exact Ch.sI rfl rfl hC
      · by_cases q : i = p
        · rw [q]; omega
        · exact h2 i (by omega) i2
      · rw [gI_sI]
        by_cases q : i = p + 1
        · rw [if_pos ⟨rfl, rfl, q⟩, q]
          unfold ins
          rw [if_neg (by omega), if_neg (by omega), Nat.add_sub_cancel]
        · rw [if_neg (fun z => q z.2.2), hI i i1 q]
          unfold ins
          by_cases q1 : i < p
          · rw [if_pos (by omega), if_pos q1]
          · rw [if_neg (by omega), if_neg q, if_neg q1, if_neg (by omega)]
  · rw [ho i (by omega)]
    unfold ins
    rw [if_pos (by omega)]
theorem x5_sort {r : Nat} {G : Gr} {H : Hp} (h : CG r G H) (w : WG G) : ok (f_X5_sortByGuess r H) (fun _ H' => Ch TT [(2, 26, none)] H H' ∧ ∃ o, Srt G (qE G) o ∧ ∀ i, i < qE G → gI H' (r + 2) 26 i = nI (o i)) := by
  have hE := w.2.1
  unfold f_X5_sortByGuess
  refine ok_g1 (qE G) (fun e H' => Ch TT [(2, 26, none)] H H' ∧ ∃ o, Srt G e o ∧ ∀ i, i < e → gI H' (r + 2) 26 i = nI (o i)) ?_ ?_ rfl ⟨Ch.rf H, fun i => i, ⟨fun i hi => hi, fun f hf => absurd hf (Nat.not_lt_zero _), fun i j _ hj => absurd hj (Nat.not_lt_zero _), fun g => rfl⟩, fun i hi => absurd hi (Nat.not_lt_zero _)⟩ (FUgt (by omega))
  · rintro e n H1 he ⟨hC, o, hS, ho⟩ K1
    have hG := CG_ch h hC rfl
    obtain ⟨a1, a2, -⟩ := id hG
    rw [L_X5_sortByGuess_2]
    simp (disch := omega) only [a2, nI_le_iff, if_neg]
    refine x5_sort_15 hG w he hS ho (fun p H2 hC2 hp hS2 hI2 => ?_)
    simp (disch := omega) only [gd_nI, nI_clamp, hl, vl, l1, nIadd]
    refine K1 _ ⟨?_, ins o p e, hS2, fun i hi => ?_⟩
    · exact Ch.sI rfl rfl (Ch.tr (fun _ q => q) rfl hC hC2)
    · rw [gI_sI]
      by_cases q : i = p
      · rw [if_pos ⟨rfl, rfl, q⟩, q]
        unfold ins
        rw [if_neg (by omega), if_pos rfl]
      · rw [if_neg (fun z => q z.2.2)]; exact hI2 i hi q
  · rintro n H1 ⟨hC, o, hS, ho⟩
    obtain ⟨a1, a2, -⟩ := CG_ch h hC rfl
    rw [L_X5_sortByGuess_2]
    simp (disch := omega) only [a2, nI_le_iff, if_pos]
    exact ok_s ⟨hC, o, hS, ho⟩
