/-- nodes lined up from END on -/
def upN (f : Nat → Nat) (x v : Nat) : Nat → Nat := fun y => if y = x then v else f y
def upB (f : Nat → Bool) (x : Nat) (v : Bool) : Nat → Bool := fun y => if y = x then v else f y
theorem upN_eq (f : Nat → Nat) (x v : Nat) : upN f x v x = v := if_pos rfl
theorem upN_ne {f : Nat → Nat} {x v y : Nat} (h : y ≠ x) : upN f x v y = f y := if_neg h
theorem upB_eq (f : Nat → Bool) (x : Nat) (v : Bool) : upB f x v x = v := if_pos rfl
theorem upB_ne {f : Nat → Bool} {x : Nat} {v : Bool} {y : Nat} (h : y ≠ x) : upB f x v y = f y := if_neg h
def ends2 (G : Gr) (l x y : Nat) : Prop := (lF G l = x ∧ lT G l = y) ∨ (lT G l = x ∧ lF G l = y)
def LU (r : Nat) (G : Gr) (m : Nat) (ln uL : Nat → Nat) (ld : Nat → Bool) (H : Hp) : Prop := gI H (r + 2) 3 9 = nI m ∧ 0 < m ∧ ln 0 = 20 ∧ (∀ k, k < m → nod G (ln k) ∧ gI H (r + 2) 30 k = nI (nd G (ln k))) ∧ (∀ j k, j < m → k < m → ln j = ln k → j = k) ∧ (∀ c, c ≤ qB G → gI H (r + 2) 31 c = bI (ld (un G c))) ∧ (∀ x, nod G x → (ld x = true ↔ ∃ k, k < m ∧ ln k = x)) ∧ m = cntP (fun c => ld (un G c)) (qB G + 1) ∧ (∀ k, 0 < k → k < m → gI H (r + 2) 29 (nd G (ln k)) = nI (uL (ln k)) ∧ tT G (uL (ln k)) ∧ ∃ j, j < k ∧ ends2 G (uL (ln k)) (ln k) (ln j)) ∧ gI H (r + 2) 29 (qB G) = N1
theorem x5_lineUp {r m c : Nat} {v : Int32} {H : Hp} (hs : gI H (r + 2) 3 9 = nI m) (hm : m < 21) (hc : c < 21) : f_X5_lineUp r (nI c) v H = some ((), sI (sI (sI (sI H (r + 2) 30 m (nI c)) (r + 2) 3 9 (nI (m + 1))) (r + 2) 31 c (bI true)) (r + 2) 29 c v) := by
  unfold f_X5_lineUp
  have e1 : gI (sI H (r + 2) 30 m (nI c)) (r + 2) 3 9 = nI m := by rw [gI_ne (by omega)]; exact hs
  simp (disch := omega) only [hs, l21, nI_le_iff, if_neg, gd_nI, nI_clamp, hl, e1, l1, nIadd, b_nar1]
theorem x5_other {r l c : Nat} {G : Gr} {H : Hp} (h : CL r G H) (w : WG G) (h0 : 0 < qB G) (hl : l < lk G) (hc : c ≤ qB G) : f_X5_otherEnd r (nI l) (nI c) H = some (if nd G (lF G l) = c then nI (nd G (lT G l)) else if nd G (lT G l) = c then nI (nd G (lF G l)) else N1, H) := by
  have hB := w.1
  have hE := w.2.1
  have hlk := lk_le w
  have ndf := nd_le w (lF_nod w l)
  have ndt := nd_le w (lT_nod w h0 l)
  unfold f_X5_otherEnd
  simp (disch := omega) only [gd_nI, nI_clamp, h.2.1, h.2.2, nI_inj, l1, n_neg]
  by_cases q : nd G (lF G l) = c
  · rw [if_pos q, if_pos q]
  · rw [if_neg q, if_neg q]
    by_cases q1 : nd G (lT G l) = c
    · rw [if_pos q1, if_pos q1]
    · rw [if_neg q1, if_neg q1]
theorem LU_m {r m : Nat} {G : Gr} {ln uL : Nat → Nat} {ld : Nat → Bool} {H : Hp} (w : WG G) (h : LU r G m ln uL ld H) : m ≤ qB G + 1 := by
  rw [h.2.2.2.2.2.2.2.1]; exact cntP_le _ _
theorem LU_add {r m l x j : Nat} {G : Gr} {ln uL : Nat → Nat} {ld : Nat → Bool} {H : Hp} (w : WG G) (h : LU r G m ln uL ld H) (hx : nod G x) (hd : ld x = false) (hl : tT G l) (hj : j < m) (he : ends2 G l x (ln j)) : m < 21 ∧ LU r G (m + 1) (upN ln m x) (upN uL x l) (upB ld x true) (sI (sI (sI (sI H (r + 2) 30 m (nI (nd G x))) (r + 2) 3 9 (nI (m + 1))) (r + 2) 31 (nd G x) (bI true)) (r + 2) 29 (nd G x) (nI l)) := by
  have hB := w.1
  obtain ⟨a1, a2, a3, a4, a5, a6, a7, a8, a9, a10⟩ := h
  have hnx := nd_le w hx
  have hold : ∀ k, k < m → ln k ≠ x := by
    intro k hk z
    have := (a7 x hx).mpr ⟨k, hk, z⟩
    rw [hd] at this; cases this
  have hcnt : m + 1 = cntP (fun c => upB ld x true (un G c)) (qB G + 1) := by
    rw [a8]
    refine cntP_one (x := nd G x) (by omega) ?_ ?_ (fun c hc q => ?_)
    · show ld (un G (nd G x)) = false
      rw [un_nd w hx]; exact hd
    · show upB ld x true (un G (nd G x)) = true
      rw [un_nd w hx, upB_eq]
    · show ld (un G c) = upB ld x true (un G c)
      rw [upB_ne]
      intro z
      apply q
      rw [← z, (nd_un w (by omega)).1]
  have hm : m + 1 ≤ qB G + 1 := by rw [hcnt]; exact cntP_le _ _
  have hx20 : nd G x ≠ qB G := by
    intro z
    have : x = 20 := by
      rcases hx with q | q
      · rw [nd_b w q] at z; omega
      · exact q
    exact hold 0 a2 (by rw [a3, this])
  refine ⟨by omega, ?_, by omega, ?_, fun k hk => ?_, fun j k hj hk z => ?_, fun c hc => ?_, fun y hy => ?_, hcnt, fun k k0 hk => ?_, ?_⟩
  · rw [gI_ne (by omega), gI_ne (by omega), gI_eq]
  · rw [upN_ne (by omega)]; exact a3
  · by_cases q : k = m
    · rw [q, upN_eq, gI_ne (by omega), gI_ne (by omega), gI_ne (by omega), gI_eq]
      exact ⟨hx, rfl⟩
    · rw [upN_ne q, gI_ne (by omega), gI_ne (by omega), gI_ne (by omega), gI_ne (by omega)]
      exact a4 k (by omega)
  · by_cases q : j = m
    · by_cases q1 : k = m
      · omega
      · rw [q, upN_eq, upN_ne q1] at z
        exact absurd z.symm (hold k (by omega))
    · by_cases q1 : k = m
      · rw [q1, upN_eq, upN_ne q] at z
        exact absurd z (hold j (by omega))
      · rw [upN_ne q, upN_ne q1] at z
        exact a5 j k (by omega) (by omega) z
  · rw [gI_ne (by omega), gI_sI]
    by_cases q : c = nd G x
    · rw [if_pos ⟨rfl, rfl, q⟩, q, un_nd w hx, upB_eq]
    · rw [if_neg (fun z => q z.2.2), gI_ne (by omega), gI_ne (by omega), a6 c hc, upB_ne]
      intro z
      apply q
      rw [← z, (nd_un w hc).1]
  · by_cases q : y = x
    · rw [q, upB_eq]
      exact ⟨fun _ => ⟨m, by omega, upN_eq _ _ _⟩, fun _ => rfl⟩
    · rw [upB_ne q, a7 y hy]
      constructor
      · rintro ⟨k, k1, k2⟩
        exact ⟨k, by omega, by rw [upN_ne (by omega)]; exact k2⟩
      · rintro ⟨k, k1, k2⟩
        by_cases z : k = m
        · rw [z, upN_eq] at k2; exact absurd k2.symm q
        · rw [upN_ne z] at k2; exact ⟨k, by omega, k2⟩
  · by_cases q : k = m
    · rw [q, upN_eq, upN_eq, gI_eq]
      exact ⟨rfl, hl, j, hj, by rw [upN_ne (by omega)]; exact he⟩
    · rw [upN_ne q, upN_ne (hold k (by omega))]
      obtain ⟨b1, b2, j', b3, b4⟩ := a9 k k0 (by omega)
      refine ⟨?_, b2, j', b3, by rw [upN_ne (by omega)]; exact b4⟩
      rw [gI_sI, if_neg, gI_ne (by omega), gI_ne (by omega), gI_ne (by omega)]
      · exact b1
      · intro z
        exact hold k (by omega) ((nd_inj w (a4 k (by omega)).1 hx).mp z.2.2)
  · rw [gI_ne (by omega), gI_ne (by omega), gI_ne (by omega), gI_ne (by omega)]
    exact a10
def doneF (G : Gr) (ld : Nat → Bool) (x j : Nat) : Prop := (lF G j = x → ld (lT G j) = true) ∧ (lT G j = x → ld (lF G j) = true)
theorem doneF_up {G : Gr} {ld : Nat → Bool} {x j y : Nat} (h : doneF G ld x j) : doneF G (upB ld y true) x j := by
  have key : ∀ z, ld z = true → upB ld y true z = true := by
    intro z hz
    by_cases q : z = y
    · rw [q, upB_eq]
    · rw [upB_ne q]; exact hz
  exact ⟨fun q => key _ (h.1 q), fun q => key _ (h.2 q)⟩
abbrev LLN : List (Nat × Nat × Option Nat) := [(2, 3, some 9), (2, 29, none), (2, 30, none), (2, 31, none)]
theorem end_ne {G : Gr} (w : WG G) {l : Nat} (h1 : qE G ≤ l) (h2 : l < lk G) : lF G l ≠ lT G l := by
  have hB := w.1
  unfold lF lT
  have h' : ¬ l < qE G := by omega
  rw [if_neg h', if_neg h']
  by_cases q : l < qE G + nL G
  · rw [if_pos q, if_pos q]
    have := (lfB_ok (show l - qE G < nL G by omega)).1
    omega
  · rw [if_neg q, if_neg q]; decide
theorem x5_line_68 {r i m : Nat} {G : Gr} {ln uL : Nat → Nat} {ld : Nat → Bool} {H : Hp} {k : Hp → Option (Unit × Hp)} {Q : Unit → Hp → Prop} (h : CL r G H) (w : WG G) (h0 : 0 < qB G) (hW : ∀ j, j < lk G → gI H (r + 2) 27 j = bI (tb G j)) (hU : LU r G m ln uL ld H) (hi : i < m) (K : ∀ m' ln' uL' ld' H', Ch TT LLN H H' → LU r G m' ln' uL' ld' H' → m ≤ m' → (∀ k, k < m → ln' k = ln k) → (∀ x, ld x = true → ld' x = true) → (∀ j, j < lk G → tb G j = true → doneF G ld' (ln i) j) → ok (k H') Q) : ok (L_X5_lineUpFromEnd_68 r (nI i) k FU 0 H) Q := by
  have hB := w.1
  have hE := w.2.1
  have hlk := lk_le w
  refine ok_g1 (lk G) (fun x H' => ∃ m' ln' uL' ld', Ch TT LLN H H' ∧ LU r G m' ln' uL' ld' H' ∧ m ≤ m' ∧ (∀ k, k < m → ln' k = ln k) ∧ (∀ x, ld x = true → ld' x = true) ∧ (∀ j, j < x → tb G j = true → doneF G ld' (ln i) j)) ?_ ?_ rfl ⟨m, ln, uL, ld, Ch.rf H, hU, Nat.le_refl _, fun _ _ => rfl, fun _ q => q, fun j hj => absurd hj (Nat.not_lt_zero _)⟩ (FUgt (by omega))
  · rintro x n H1 hx ⟨m', ln', uL', ld', hC, hU1, hm, hln, hld, hdn⟩ K1
    have hk1 := CL_ch h hC rfl
    have hW1 : ∀ j, j < lk G → gI H1 (r + 2) 27 j = bI (tb G j) := fun j hj => by rw [hC.gi _ _ _ rfl]; exact hW j hj
    have hm' := LU_m w hU1
    obtain ⟨a1, a2, a3, a4, a5, a6, a7, a8, a9, a10⟩ := id hU1
    have nf := lF_nod w x
    have nt := lT_nod w h0 x
    have ndf := nd_le w nf
    have ndt := nd_le w nt
    have ni := a4 i (by omega)
    have lni := hln i hi
    rw [lni] at ni
    have ndi := nd_le w ni.1
    have adv : (tb G x = true → doneF G ld' (ln i) x) → ok (L_X5_lineUpFromEnd_68 r (nI i) k n (nI (x + 1)) H1) Q := by
      intro q
      refine K1 _ ⟨m', ln', uL', ld', hC, hU1, hm, hln, hld, fun j hj ht => ?_⟩
      by_cases z : j = x
      · rw [z] at ht ⊢; exact q ht
      · exact hdn j (by omega) ht
    rw [L_X5_lineUpFromEnd_68]
    simp (disch := omega) only [hk1.1, nI_le_iff, if_neg, gd_nI, nI_clamp, jn, hW1, l0, b_eq0, ni.2, x5_other hk1 w h0 hx ndi, bnd_s, l1, n_neg]
    by_cases ht : tb G x = true
    · have tx : tT G x := tT_iff.mpr ⟨hx, ht⟩
      have hne : lF G x ≠ lT G x := by
        intro z
        rcases tx.2 with q | q
        · exact absurd z (end_ne w q hx)
        · apply q; rw [z]; exact Cn.rf _
      have go : ∀ y, nod G y → ends2 G x y (ln i) → (ld' y = true → doneF G ld' (ln i) x) → (∀ ld2 : Nat → Bool, ld2 y = true → doneF G ld2 (ln i) x) → ok (if nI (nd G y) = N1 then vl (nI x + nI 1) (fun v16 => L_X5_lineUpFromEnd_68 r (nI i) k n v16 H1) else gd (nI (nd G y)) 21 (if gI H1 (r + 2) 31 (nI (nd G y)).toNatClampNeg = nI 0 then bnd (f_X5_lineUp r (nI (nd G y)) (nI x) H1) (fun _ H19 => vl (nI x + nI 1) (fun v21 => L_X5_lineUpFromEnd_68 r (nI i) k n v21 H19)) else vl (nI x + nI 1) (fun v18 => L_X5_lineUpFromEnd_68 r (nI i) k n v18 H1))) Q := by
        intro y hy hen hyd hyn
        have ndy := nd_le w hy
        have l31 := a6 _ ndy
        rw [un_nd w hy] at l31
        simp (disch := omega) only [n_eqN, if_false, gd_nI, nI_clamp, l31, b_eq0, vl, nIadd]
        refine ok_if (fun hd => ?_) (fun hd => adv (fun _ => hyd (bt_of hd)))
        obtain ⟨m21, hU2⟩ := LU_add w hU1 hy hd tx (show i < m' by omega) (by rw [lni]; exact hen)
        simp (disch := omega) only [x5_lineUp a1 m21 (show nd G y < 21 by omega), bnd_s]
        refine K1 _ ⟨m' + 1, _, _, _, ?_, hU2, by omega, fun k hk => ?_, fun z hz => ?_, fun j hj htj => ?_⟩
        · exact Ch.sI rfl rfl (Ch.sI rfl rfl (Ch.sI rfl rfl (Ch.sI rfl rfl hC)))
        · rw [upN_ne (by omega)]; exact hln k hk
        · by_cases q : z = y
          · rw [q, upB_eq]
          · rw [upB_ne q]; exact hld z hz
        · by_cases z : j = x
          · rw [z]; exact hyn _ (upB_eq _ _ _)
          · exact doneF_up (hdn j (by omega) htj)
      rw [if_neg (by rw [ht]; decide)]
      have hfi : nd G (lF G x) = nd G (ln i) ↔ lF G x = ln i := nd_inj w nf ni.1
      have hti : nd G (lT G x) = nd G (ln i) ↔ lT G x = ln i := nd_inj w nt ni.1
      by_cases q1 : lF G x = ln i
      · rw [if_pos (hfi.mpr q1)]
        refine go (lT G x) nt (Or.inr ⟨rfl, q1⟩) (fun z => ⟨fun _ => z, fun u => absurd (q1.trans u.symm) hne⟩) (fun ld2 z => ⟨fun _ => z, fun u => absurd (q1.trans u.symm) hne⟩)
      · rw [if_neg (fun z => q1 (hfi.mp z))]
        by_cases q2 : lT G x = ln i
        · rw [if_pos (hti.mpr q2)]
          refine go (lF G x) nf (Or.inl ⟨rfl, q2⟩) (fun z => ⟨fun u => absurd u q1, fun _ => z⟩) (fun ld2 z => ⟨fun u => absurd u q1, fun _ => z⟩)
        · rw [if_neg (fun z => q2 (hti.mp z)), if_pos rfl]
          simp only [vl, nIadd]
          exact adv (fun _ => ⟨fun u => absurd u q1, fun u => absurd u q2⟩)
    · have hf : tb G x = false := by cases z : tb G x with | false => rfl | true => exact absurd z ht
      rw [if_pos hf]
      simp only [if_true, vl, nIadd]
      exact adv (fun q => absurd q ht)
  · rintro n H1 ⟨m', ln', uL', ld', hC, hU1, hm, hln, hld, hdn⟩
    have hk1 := CL_ch h hC rfl
    rw [L_X5_lineUpFromEnd_68]
    simp (disch := omega) only [hk1.1, nI_le_iff, if_pos]
    exact K _ _ _ _ _ hC hU1 hm hln hld hdn
