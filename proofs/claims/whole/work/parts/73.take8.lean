/-- the tree of the class -/
noncomputable def tb (G : Gr) (l : Nat) : Bool := @decide (qE G ≤ l ∨ tW G l) (Classical.propDecidable _)
theorem tb_iff {G : Gr} {l : Nat} : tb G l = true ↔ (qE G ≤ l ∨ tW G l) := by
  unfold tb
  exact @decide_eq_true_iff _ (Classical.propDecidable _)
theorem tb_e {G : Gr} {e : Nat} (he : e < qE G) : tb G e = true ↔ tW G e := by
  rw [tb_iff]
  exact ⟨fun h => h.elim (fun q => by omega) id, Or.inr⟩
theorem tT_iff {G : Gr} {l : Nat} : tT G l ↔ l < lk G ∧ tb G l = true := by
  rw [tb_iff]; rfl
noncomputable def cnN (G : Gr) : Nat := sumF (fun e => if tb G e = true then 0 else 1) (qE G)
noncomputable def gsN (G : Gr) : Nat := sumF (fun e => if tb G e = true then 0 else qG G e) (qE G)
theorem x5_join {r l : Nat} {G : Gr} {H : Hp} {S : Nat → Nat} (h : CL r G H) (hb : gI H (r + 2) 1 10 = nI (qB G)) (w : WG G) (h0 : 0 < qB G) (hl : l < lk G) (hS : ∀ c, c ≤ qB G → gI H (r + 2) 28 c = nI (S (un G c))) (hS2 : ∀ x, nod G x → S x ≤ 20) : ok (f_X5_joinParts r (nI l) H) (fun v H' => v = bI (!(decide (S (lF G l) = S (lT G l)))) ∧ Ch TT [(2, 28, none)] H H' ∧ ∀ c, c ≤ qB G → gI H' (r + 2) 28 c = nI (if S (un G c) = S (lT G l) then S (lF G l) else S (un G c))) := by
  have hB := w.1
  have hE := w.2.1
  have hlk := lk_le w
  have nf := lF_nod w l
  have nt := lT_nod w h0 l
  have ndf := nd_le w nf
  have ndt := nd_le w nt
  have sf := hS _ ndf
  have st := hS _ ndt
  rw [un_nd w nf] at sf
  rw [un_nd w nt] at st
  have bf := hS2 _ nf
  have bt := hS2 _ nt
  unfold f_X5_joinParts
  simp (disch := omega) only [gd_nI, nI_clamp, h.2.1, h.2.2, vl, sf, st, nI_inj]
  refine ok_if (fun hc => ok_s ⟨?_, Ch.rf H, fun c hcb => ?_⟩) (fun hc => ?_)
  · rw [decide_eq_true hc]; rfl
  · rw [hS c hcb]
    by_cases q : S (un G c) = S (lT G l)
    · rw [if_pos q, hc, q]
    · rw [if_neg q]
  · refine ok_g1 (qB G + 1) (fun i H' => Ch TT [(2, 28, none)] H H' ∧ ∀ c, c ≤ qB G → gI H' (r + 2) 28 c = nI (if c < i ∧ S (un G c) = S (lT G l) then S (lF G l) else S (un G c))) ?_ ?_ rfl ⟨Ch.rf H, fun c hcb => by rw [hS c hcb, if_neg (by omega)]⟩ (FUgt (by omega))
    · rintro i n H1 hi ⟨hC, hI⟩ K1
      have a1 : gI H1 (r + 2) 1 10 = nI (qB G) := by rw [hC.gi _ _ _ rfl]; exact hb
      have hi2 : i ≤ qB G := by omega
      have si := hI i hi2
      rw [if_neg (by omega)] at si
      have bi := hS2 _ (nd_un w hi2).2
      rw [L_X5_joinParts_40]
      simp (disch := omega) only [a1, nI_lt_iff, if_neg, gd_nI, nI_clamp, si, nI_inj, hl, vl, l1, nIadd]
      refine ok_if (fun hd => K1 _ ⟨?_, fun c hcb => ?_⟩) (fun hd => K1 _ ⟨hC, fun c hcb => ?_⟩)
      · exact Ch.sI rfl rfl hC
      · rw [gI_sI]
        by_cases q : c = i
        · rw [if_pos ⟨rfl, rfl, q⟩, q, if_pos ⟨by omega, hd⟩]
        · rw [if_neg (fun z => q z.2.2), hI c hcb]
          have : (c < i ∧ S (un G c) = S (lT G l)) ↔ (c < i + 1 ∧ S (un G c) = S (lT G l)) := by constructor <;> (rintro ⟨u1, u2⟩; exact ⟨by omega, u2⟩)
          simp only [this]
      · rw [hI c hcb]
        have : (c < i ∧ S (un G c) = S (lT G l)) ↔ (c < i + 1 ∧ S (un G c) = S (lT G l)) := by
          constructor
          · rintro ⟨u1, u2⟩; exact ⟨by omega, u2⟩
          · rintro ⟨u1, u2⟩
            refine ⟨?_, u2⟩
            by_cases z : c = i
            · rw [z] at u2; exact absurd u2 hd
            · omega
        simp only [this]
    · rintro n H1 ⟨hC, hI⟩
      have a1 : gI H1 (r + 2) 1 10 = nI (qB G) := by rw [hC.gi _ _ _ rfl]; exact hb
      rw [L_X5_joinParts_40]
      simp (disch := omega) only [a1, nI_lt_iff, if_pos]
      refine ok_s ⟨?_, hC, fun c hcb => ?_⟩
      · rw [decide_eq_false hc]; rfl
      · rw [hI c hcb]
        have : (c < qB G + 1 ∧ S (un G c) = S (lT G l)) ↔ (S (un G c) = S (lT G l)) := ⟨fun z => z.2, fun z => ⟨by omega, z⟩⟩
        simp only [this]
/-- labels in the heap, for links P -/
def Lab (r : Nat) (G : Gr) (P : Nat → Prop) (H : Hp) : Prop := ∃ S : Nat → Nat, (∀ c, c ≤ qB G → gI H (r + 2) 28 c = nI (S (un G c))) ∧ (∀ x, nod G x → S x ≤ 20) ∧ (∀ x y, nod G x → nod G y → (S x = S y ↔ Cn P (lF G) (lT G) x y))
theorem Lab_ch {r : Nat} {G : Gr} {P : Nat → Prop} {L : List (Nat × Nat × Option Nat)} {H H' : Hp} (h : Lab r G P H) (q : Ch TT L H H') (hL : nol L 2 [(28, none)] = true) : Lab r G P H' := by
  obtain ⟨S, h1, h2, h3⟩ := h
  exact ⟨S, fun c hc => by rw [(q.c hL (k := 28) (o := none) (by simp) rfl).1]; exact h1 c hc, h2, h3⟩
theorem Lab_join {r l : Nat} {G : Gr} {H : Hp} {P P' : Nat → Prop} (h : CL r G H) (hb : gI H (r + 2) 1 10 = nI (qB G)) (w : WG G) (h0 : 0 < qB G) (hl : l < lk G) (hS : Lab r G P H) (hP : ∀ j, P' j ↔ (P j ∨ j = l)) : ok (f_X5_joinParts r (nI l) H) (fun v H' => (∃ b : Bool, v = bI b ∧ (b = true ↔ ¬ Cn P (lF G) (lT G) (lF G l) (lT G l))) ∧ Ch TT [(2, 28, none)] H H' ∧ Lab r G P' H') := by
  obtain ⟨S, h1, h2, h3⟩ := hS
  have nf := lF_nod w l
  have nt := lT_nod w h0 l
  refine ok_m (x5_join h hb w h0 hl h1 h2) ?_
  rintro v H' ⟨rfl, hC, hI⟩
  refine ⟨⟨_, rfl, ?_⟩, hC, fun x => if S x = S (lT G l) then S (lF G l) else S x, hI, fun x hx => ?_, fun x y hx hy => ?_⟩
  · rw [← h3 _ _ nf nt]
    by_cases q : S (lF G l) = S (lT G l)
    · simp [q]
    · simp [q]
  · show (if S x = S (lT G l) then S (lF G l) else S x) ≤ 20
    split
    · exact h2 _ nf
    · exact h2 x hx
  · rw [Cn.iff hP]
    exact lab_add (N := nod G) nf nt h3 (fun z _ => rfl) x y hx hy
theorem x5_take_2 {r : Nat} {G : Gr} {H : Hp} {k : Hp → Option (Unit × Hp)} {Q : Unit → Hp → Prop} (hb : gI H (r + 2) 1 10 = nI (qB G)) (w : WG G) (K : ∀ H', Ch TT [(2, 28, none)] H H' → Lab r G (fun _ => False) H' → ok (k H') Q) : ok (L_X5_takeLinks_2 r k FU 0 H) Q := by
  have hB := w.1
  refine ok_g1 (qB G + 1) (fun i H' => Ch TT [(2, 28, none)] H H' ∧ ∀ c, c < i → gI H' (r + 2) 28 c = nI c) ?_ ?_ rfl ⟨Ch.rf H, fun c hc => absurd hc (Nat.not_lt_zero _)⟩ (FUgt (by omega))
  · rintro i n H1 hi ⟨hC, hI⟩ K1
    have a1 : gI H1 (r + 2) 1 10 = nI (qB G) := by rw [hC.gi _ _ _ rfl]; exact hb
    rw [L_X5_takeLinks_2]
    simp (disch := omega) only [a1, nI_lt_iff, if_neg, gd_nI, nI_clamp, hl, vl, l1, nIadd]
    refine K1 _ ⟨?_, fun c hc => ?_⟩
    · exact Ch.sI rfl rfl hC
    · rw [gI_sI]
      by_cases q : c = i
      · rw [if_pos ⟨rfl, rfl, q⟩, q]
      · rw [if_neg (fun z => q z.2.2)]; exact hI c (by omega)
  · rintro n H1 ⟨hC, hI⟩
    have a1 : gI H1 (r + 2) 1 10 = nI (qB G) := by rw [hC.gi _ _ _ rfl]; exact hb
    rw [L_X5_takeLinks_2]
    simp (disch := omega) only [a1, nI_lt_iff, if_pos]
    refine K _ hC ⟨nd G, fun c hc => ?_, fun x hx => ?_, fun x y hx hy => ?_⟩
    · rw [hI c (by omega), (nd_un w hc).1]
    · have := nd_le w hx; omega
    · rw [nd_inj w hx hy]
      constructor
      · intro z; rw [z]; exact Cn.rf _
      · intro z
        exact z (fun a b => a = b) (fun _ => rfl) (fun _ _ q => q.symm) (fun _ _ _ q q' => q.trans q') (fun j hj => hj.elim)
theorem x5_take_34 {r : Nat} {G : Gr} {H : Hp} {k : Hp → Option (Unit × Hp)} {Q : Unit → Hp → Prop} (h : CL r G H) (hb : gI H (r + 2) 1 10 = nI (qB G)) (w : WG G) (h0 : 0 < qB G) (hS : Lab r G (fun _ => False) H) (K : ∀ H', Ch TT [(2, 27, none), (2, 28, none)] H H' → Lab r G (fun j => qE G ≤ j ∧ j < lk G) H' → (∀ j, qE G ≤ j → j < lk G → gI H' (r + 2) 27 j = bI true) → ok (k H') Q) : ok (L_X5_takeLinks_34 r k FU (nI (qE G)) H) Q := by
  have hB := w.1
  have hE := w.2.1
  have hlk := lk_le w
  have hle : lk G = qE G + (nL G + 1) := by unfold lk; omega
  refine ok_f1 (qE G) (nL G + 1) (fun i H' => Ch TT [(2, 27, none), (2, 28, none)] H H' ∧ Lab r G (fun j => qE G ≤ j ∧ j < qE G + i) H' ∧ ∀ j, qE G ≤ j → j < qE G + i → gI H' (r + 2) 27 j = bI true) ?_ ?_ rfl ⟨Ch.rf H, ?_, fun j j1 j2 => by omega⟩ (FUgt (by omega))
  · rintro i n H1 hi ⟨hC, hL, hI⟩ K1
    have a1 : gI H1 (r + 2) 1 10 = nI (qB G) := by rw [hC.gi _ _ _ rfl]; exact hb
    have hc1 := CL_ch h hC rfl
    rw [L_X5_takeLinks_34]
    simp (disch := omega) only [hc1.1, nI_le_iff, if_neg]
    refine ok_b (Lab_join (l := qE G + i) hc1 a1 w h0 (by omega) hL (P' := fun j => qE G ≤ j ∧ j < qE G + (i + 1)) (fun j => by omega)) ?_
    rintro v H2 ⟨-, hC2, hL2⟩
    simp (disch := omega) only [gd_nI, nI_clamp, hl, vl, l1, nIadd, b_nar1]
    have hC3 : Ch TT [(2, 27, none)] H2 (sI H2 (r + 2) 27 (qE G + i) (bI true)) := Ch.sI rfl rfl (Ch.rf _)
    refine K1 _ ⟨Ch.tr (fun _ q => q) rfl (Ch.tr (fun _ q => q) rfl hC hC2) hC3, Lab_ch hL2 hC3 rfl, fun j j1 j2 => ?_⟩
    rw [gI_sI]
    by_cases q : j = qE G + i
    · rw [if_pos ⟨rfl, rfl, q⟩]
    · rw [if_neg (fun z => q z.2.2), hC2.gi _ _ _ rfl]; exact hI j j1 (by omega)
  · rintro n H1 ⟨hC, hL, hI⟩
    have hc1 := CL_ch h hC rfl
    rw [L_X5_takeLinks_34]
    simp (disch := omega) only [hc1.1, nI_le_iff, if_pos]
    rw [← hle] at hL hI
    exact K _ hC hL hI
  · obtain ⟨S, q1, q2, q3⟩ := hS
    exact ⟨S, q1, q2, fun x y hx hy => by rw [q3 x y hx hy]; exact Cn.iff (fun j => ⟨fun z => z.elim, fun z => by omega⟩)⟩
theorem Srt_bf {G : Gr} (w : WG G) {o : Nat → Nat} (hS : Srt G (qE G) o) {i : Nat} (hi : i < qE G) (j : Nat) : Bf G (o i) j ↔ ((qE G ≤ j ∧ j < lk G) ∨ ∃ i', i' < i ∧ j = o i') := by
  have hB := w.1
  have hlk := lk_le w
  have oi := hS.1 i hi
  have hkl : qE G < lk G := by unfold lk; omega
  constructor
  · rintro ⟨h1, h2⟩
    by_cases q : qE G ≤ j
    · exact Or.inl ⟨q, h1⟩
    · obtain ⟨i', u1, u2⟩ := hS.2.1 j (by omega)
      refine Or.inr ⟨i', ?_, u2.symm⟩
      rcases Nat.lt_trichotomy i' i with z | z | z
      · exact z
      · rw [← u2, z] at h2; omega
      · have := hS.2.2.1 i i' z u1
        rw [u2] at this; omega
  · rintro (⟨h1, h2⟩ | ⟨i', u1, rfl⟩)
    · refine ⟨h2, ?_⟩
      unfold ky
      rw [if_neg (by omega), if_pos oi]
      omega
    · exact ⟨by have := hS.1 i' (by omega); omega, hS.2.2.1 i' i u1 hi⟩
theorem x5_take_76 {r : Nat} {G : Gr} {H : Hp} {o : Nat → Nat} {k : Hp → Option (Unit × Hp)} {Q : Unit → Hp → Prop} (hG : CG r G H) (h : CL r G H) (w : WG G) (h0 : 0 < qB G) (hS : Srt G (qE G) o) (ho : ∀ i, i < qE G → gI H (r + 2) 26 i = nI (o i)) (hL : Lab r G (fun j => qE G ≤ j ∧ j < lk G) H) (hI : ∀ j, qE G ≤ j → j < lk G → gI H (r + 2) 27 j = bI true) (hc : gI H (r + 2) 3 10 = nI 0) (hg : gJ H (r + 2) 3 11 = lN 0) (K : ∀ H', Ch TT [(2, 3, some 10), (2, 3, some 11), (2, 27, none), (2, 28, none)] H H' → (∀ j, j < lk G → gI H' (r + 2) 27 j = bI (tb G j)) → gI H' (r + 2) 3 10 = nI (cnN G) → gJ H' (r + 2) 3 11 = lN (gsN G) → ok (k H') Q) : ok (L_X5_takeLinks_76 r k FU 0 H) Q := by
  have hB := w.1
  have hE := w.2.1
  have hlk := lk_le w
  have hkl : qE G < lk G := by unfold lk; omega
  refine ok_g1 (qE G) (fun i H' => Ch TT [(2, 3, some 10), (2, 3, some 11), (2, 27, none), (2, 28, none)] H H' ∧ Lab r G (fun j => (qE G ≤ j ∧ j < lk G) ∨ ∃ i', i' < i ∧ j = o i') H' ∧ (∀ j, qE G ≤ j → j < lk G → gI H' (r + 2) 27 j = bI true) ∧ (∀ i', i' < i → gI H' (r + 2) 27 (o i') = bI (tb G (o i'))) ∧ gI H' (r + 2) 3 10 = nI (sumF (fun i => if tb G (o i) = true then 0 else 1) i) ∧ gJ H' (r + 2) 3 11 = lN (sumF (fun i => if tb G (o i) = true then 0 else qG G (o i)) i)) ?_ ?_ rfl ⟨Ch.rf H, ?_, hI, fun i' hi' => absurd hi' (Nat.not_lt_zero _), hc, hg⟩ (FUgt (by omega))
  · rintro i n H1 hi ⟨hC, hL1, hI1, hW1, hc1, hg1⟩ K1
    have hG1 := CG_ch hG hC rfl
    have hk1 := CL_ch h hC rfl
    obtain ⟨a1, a2, -⟩ := id hG1
    have oi := hS.1 i hi
    have ho1 : gI H1 (r + 2) 26 i = nI (o i) := by rw [hC.gi _ _ _ rfl]; exact ho i hi
    rw [L_X5_takeLinks_76]
    simp (disch := omega) only [a2, nI_le_iff, if_neg, gd_nI, nI_clamp, ho1, vl]
    refine ok_b (Lab_join (l := o i) hk1 a1 w h0 (by omega) hL1 (P' := fun j => (qE G ≤ j ∧ j < lk G) ∨ ∃ i', i' < i + 1 ∧ j = o i') (fun j => ?_)) ?_
    · constructor
      · rintro (z | ⟨i', z1, z2⟩)
        · exact Or.inl (Or.inl z)
        · by_cases q : i' = i
          · rw [q] at z2; exact Or.inr z2
          · exact Or.inl (Or.inr ⟨i', by omega, z2⟩)
      · rintro ((z | ⟨i', z1, z2⟩) | z)
        · exact Or.inl z
        · exact Or.inr ⟨i', by omega, z2⟩
        · exact Or.inr ⟨i, by omega, z⟩
    rintro v H2 ⟨⟨b, rfl, hbt⟩, hC2, hL2⟩
    have hbe : b = tb G (o i) := by
      have : b = true ↔ tb G (o i) = true := by
        rw [hbt, tb_e oi]
        unfold tW
        rw [Cn.iff (Srt_bf w hS hi)]
      cases b with
      | true => exact (this.mp rfl).symm
      | false =>
        cases z : tb G (o i) with
        | false => rfl
        | true => exact absurd (this.mpr z) (by decide)
    have hC3 : Ch TT [(2, 27, none)] H2 (sI H2 (r + 2) 27 (o i) (bI b)) := Ch.sI rfl rfl (Ch.rf _)
    have hCC : Ch TT [(2, 3, some 10), (2, 3, some 11), (2, 27, none), (2, 28, none)] H (sI H2 (r + 2) 27 (o i) (bI b)) := Ch.tr (fun _ q => q) rfl (Ch.tr (fun _ q => q) rfl hC hC2) hC3
    have hG3 := CG_ch hG hCC rfl
    have e1 : gI (sI H2 (r + 2) 27 (o i) (bI b)) (r + 2) 27 (o i) = bI b := gI_eq _ _ _ _ _
    have e2 : gI (sI H2 (r + 2) 27 (o i) (bI b)) (r + 2) 3 10 = nI (sumF (fun i => if tb G (o i) = true then 0 else 1) i) := by rw [gI_ne (by omega), hC2.gi _ _ _ rfl]; exact hc1
    have e3 : gJ (sI H2 (r + 2) 27 (o i) (bI b)) (r + 2) 3 11 = lN (sumF (fun i => if tb G (o i) = true then 0 else qG G (o i)) i) := by rw [gJ_sI, hC2.gj _ _ _ rfl]; exact hg1
    have hW3 : ∀ i', i' < i + 1 → gI (sI H2 (r + 2) 27 (o i) (bI b)) (r + 2) 27 (o i') = bI (tb G (o i')) := by
      intro i' hi'
      rw [gI_sI]
      by_cases q : i' = i
      · rw [q, if_pos ⟨rfl, rfl, rfl⟩, hbe]
      · have hne : o i' ≠ o i := by
          intro z
          have := hS.2.2.1 i' i (by omega) hi
          rw [z] at this; omega
        rw [if_neg (fun z => hne z.2.2), hC2.gi _ _ _ rfl]
        exact hW1 i' (by omega)
    have hI3 : ∀ j, qE G ≤ j → j < lk G → gI (sI H2 (r + 2) 27 (o i) (bI b)) (r + 2) 27 j = bI true := by
      intro j j1 j2
      rw [gI_ne (by omega), hC2.gi _ _ _ rfl]
      exact hI1 j j1 j2
    have gi := (w.2.2.2.1 (o i) oi).2.2
    simp (disch := omega) only [gd_nI, nI_clamp, hl, vl, b_nar, e1, e2, l0, b_eq0, l1, nIadd, gJ_sI, gI_ne, hG3.2.2.2.2.2.2.2.2.2.1, nI_l]
    have e3' : gJ H2 (r + 2) 3 11 = lN (sumF (fun i => if tb G (o i) = true then 0 else qG G (o i)) i) := by rw [hC2.gj _ _ _ rfl]; exact hg1
    have e15 : gI H2 (r + 2) 15 (o i) = nI (qG G (o i)) := by have := hG3.2.2.2.2.2.2.2.2.2.1 (o i) oi; rwa [gI_ne (by omega)] at this
    simp (disch := omega) only [e3', e15, nI_l, lN_add]
    refine ok_if (fun hd => K1 _ ⟨?_, ?_, fun j j1 j2 => ?_, fun i' hi' => ?_, ?_, ?_⟩) (fun hd => K1 _ ⟨hCC, Lab_ch hL2 hC3 rfl, hI3, hW3, ?_, ?_⟩)
    · exact Ch.sJ rfl rfl (Ch.sI rfl rfl hCC)
    · exact Lab_ch (L := [(2, 27, none), (2, 3, some 10), (2, 3, some 11)]) hL2 (Ch.sJ rfl rfl (Ch.sI rfl rfl (Ch.sI rfl rfl (Ch.rf _)))) rfl
    · rw [gI_sJ, gI_ne (by omega)]; exact hI3 j j1 j2
    · rw [gI_sJ, gI_ne (by omega)]; exact hW3 i' hi'
    · rw [gI_sJ, gI_eq, sumF_s, if_neg (by rw [← hbe, hd]; decide)]
    · rw [gJ_eq, sumF_s, if_neg (by rw [← hbe, hd]; decide)]
    · rw [e2, sumF_s, if_pos (by rw [← hbe]; exact bt_of hd)]; rfl
    · rw [gJ_sI, e3', sumF_s, if_pos (by rw [← hbe]; exact bt_of hd)]; rfl
  · rintro n H1 ⟨hC, hL1, hI1, hW1, hc1, hg1⟩
    obtain ⟨a1, a2, -⟩ := CG_ch hG hC rfl
    rw [L_X5_takeLinks_76]
    simp (disch := omega) only [a2, nI_le_iff, if_pos]
    refine K _ hC (fun j hj => ?_) ?_ ?_
    · by_cases q : j < qE G
      · obtain ⟨i, i1, i2⟩ := hS.2.1 j q
        rw [← i2]; exact hW1 i i1
      · rw [hI1 j (by omega) hj, tb_iff.mpr (Or.inl (by omega))]
    · rw [hc1, hS.2.2.2 (fun e => if tb G e = true then 0 else 1)]; rfl
    · rw [hg1, hS.2.2.2 (fun e => if tb G e = true then 0 else qG G e)]; rfl
  · obtain ⟨S, q1, q2, q3⟩ := hL
    exact ⟨S, q1, q2, fun x y hx hy => by rw [q3 x y hx hy]; exact Cn.iff (fun j => ⟨Or.inl, fun z => z.elim id (fun ⟨i', u, _⟩ => absurd u (Nat.not_lt_zero _))⟩)⟩
theorem x5_takeLinks {r : Nat} {G : Gr} {H : Hp} {o : Nat → Nat} (hG : CG r G H) (h : CL r G H) (w : WG G) (h0 : 0 < qB G) (hS : Srt G (qE G) o) (ho : ∀ i, i < qE G → gI H (r + 2) 26 i = nI (o i)) : ok (f_X5_takeLinks r H) (fun _ H' => Ch TT [(2, 3, some 10), (2, 3, some 11), (2, 27, none), (2, 28, none)] H H' ∧ (∀ j, j < lk G → gI H' (r + 2) 27 j = bI (tb G j)) ∧ gI H' (r + 2) 3 10 = nI (cnN G) ∧ gJ H' (r + 2) 3 11 = lN (gsN G)) := by
  unfold f_X5_takeLinks
  refine x5_take_2 hG.1 w (fun H1 hC1 hL1 => ?_)
  have hG1 := CG_ch hG hC1 rfl
  have hk1 := CL_ch h hC1 rfl
  simp only [hG1.2.1, vl]
  refine x5_take_34 hk1 hG1.1 w h0 hL1 (fun H2 hC2 hL2 hI2 => ?_)
  have hC2' : Ch TT [(2, 3, some 10), (2, 3, some 11), (2, 27, none), (2, 28, none)] H H2 := Ch.tr (fun _ q => q) rfl (Ch.tr (fun _ q => q) rfl (Ch.rf H) hC1) hC2
  have hC3 : Ch TT [(2, 3, some 10), (2, 3, some 11)] H2 (sJ (sI H2 (r + 2) 3 10 0) (r + 2) 3 11 0) := Ch.sJ rfl rfl (Ch.sI rfl rfl (Ch.rf _))
  have hC3' := Ch.tr (fun _ q => q) rfl hC2' hC3
  simp only [hl]
  refine x5_take_76 (CG_ch hG hC3' rfl) (CL_ch h hC3' rfl) w h0 hS (fun i hi => by rw [hC3'.gi _ _ _ rfl]; exact ho i hi) (Lab_ch hL2 hC3 rfl) (fun j j1 j2 => by rw [hC3.gi _ _ _ rfl]; exact hI2 j j1 j2) ?_ ?_ (fun H4 hC4 hW4 hc4 hg4 => ok_s ⟨Ch.tr (fun _ q => q) rfl hC3' hC4, hW4, hc4, hg4⟩)
  · rw [gI_sJ, gI_eq]; rfl
  · rw [gJ_eq]; rfl
