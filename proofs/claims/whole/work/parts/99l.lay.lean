/-- the reference lays its links out -/
abbrev LLY : List (Nat × Nat × Option Nat) := [(0, 0, some 43), (0, 39, none), (0, 40, none), (0, 41, none), (0, 42, none)]
def LY (G : Gr) (kn : Nat → Bool) (x : Nat → Int64) (n : Nat) (H : Hp) : Prop := ∀ j, j < n → gI H 0 39 j = nI (lF G j) ∧ gI H 0 40 j = nI (lT G j) ∧ gI H 0 42 j = bI (kn j) ∧ (kn j = true → gJ H 0 41 j = x j)
theorem x9_arc {G : Gr} {kn : Nat → Bool} {x : Nat → Int64} {m a b : Nat} {H : Hp} (hm : m < 61) (h43 : gI H 0 0 43 = nI m) (h : LY G kn x m H) (ha : lF G m = a) (hb : lT G m = b) (hk : kn m = false) : ok (f_X9_arc (nI a) (nI b) H) (fun _ H' => Ch TT LLY H H' ∧ gI H' 0 0 43 = nI (m + 1) ∧ LY G kn x (m + 1) H') := by
  unfold f_X9_arc
  have e1 : gI (sI H 0 39 m (nI a)) 0 0 43 = nI m := by rw [gI_ne (by omega)]; exact h43
  have e2 : gI (sI (sI H 0 39 m (nI a)) 0 40 m (nI b)) 0 0 43 = nI m := by rw [gI_ne (by omega)]; exact e1
  have e3 : gI (sI (sI (sI H 0 39 m (nI a)) 0 40 m (nI b)) 0 42 m (bI false)) 0 0 43 = nI m := by rw [gI_ne (by omega)]; exact e2
  have e4 : gI (sJ (sI (sI (sI H 0 39 m (nI a)) 0 40 m (nI b)) 0 42 m (bI false)) 0 41 m 0) 0 0 43 = nI m := by rw [gI_sJ]; exact e3
  rw [h43, gd_nI hm (by decide), nI_clamp (n := m) (by omega), hl_e, e1, gd_nI hm (by decide), nI_clamp (n := m) (by omega), hl_e, e2, gd_nI hm (by decide), nI_clamp (n := m) (by omega), show vp_nar .boolean (0 : Int32) = bI false from rfl, hl_e, e3, gd_nI hm (by decide), nI_clamp (n := m) (by omega), hl_e, e4, hl_e]
  refine ok_s ⟨Ch.sI rfl rfl (Ch.sJ rfl rfl (Ch.sI rfl rfl (Ch.sI rfl rfl (Ch.sI rfl rfl (Ch.rf H))))), ?_, fun j hj => ?_⟩
  · rw [gI_eq, ← nI_succ]
  · by_cases q : j = m
    · rw [q, ha, hb, hk]
      refine ⟨?_, ?_, ?_, fun z => Bool.noConfusion z⟩
      · rw [gI_ne (by omega), gI_sJ, gI_ne (by omega), gI_ne (by omega), gI_eq]
      · rw [gI_ne (by omega), gI_sJ, gI_ne (by omega), gI_eq]
      · rw [gI_ne (by omega), gI_sJ, gI_eq]
    · obtain ⟨a1, a2, a3, a4⟩ := h j (by omega)
      refine ⟨?_, ?_, ?_, fun z => ?_⟩
      · rw [gI_ne (by omega), gI_sJ, gI_ne (by omega), gI_ne (by omega), gI_ne (by omega)]; exact a1
      · rw [gI_ne (by omega), gI_sJ, gI_ne (by omega), gI_ne (by omega), gI_ne (by omega)]; exact a2
      · rw [gI_ne (by omega), gI_sJ, gI_ne (by omega), gI_ne (by omega), gI_ne (by omega)]; exact a3
      · rw [gJ_sI, gJ_ne (by omega), gJ_sI, gJ_sI, gJ_sI]; exact a4 z
theorem x9_lay {r : Nat} {G : Gr} {kn : Nat → Bool} {x : Nat → Int64} {H : Hp} (hr : r < 8) (h : MG r G H) (w : WG G) (h11 : ∀ e, e < qE G → gI H 0 11 (40 * r + e) = bI (kn e)) (h23 : ∀ e, e < qE G → kn e = true → gJ H 0 23 (40 * r + e) = x e) (hk : ∀ j, qE G ≤ j → kn j = false) : ok (f_X9_lay (nI r) H) (fun _ H' => Ch TT LLY H H' ∧ gI H' 0 0 43 = nI (lk G) ∧ LY G kn x (lk G) H') := by
  have hB := w.1
  have hE := w.2.1
  have hlk := lk_le w
  have e0 : (40 : Int32) = nI 40 := rfl
  unfold f_X9_lay
  rw [gd_nI (by omega) (by decide), nI_clamp (n := r) (by omega), h.2.1, hl_e]
  have hC0 : Ch TT LLY H (sI H 0 0 43 (nI (qE G))) := Ch.sI rfl rfl (Ch.rf H)
  have h43 : gI (sI H 0 0 43 (nI (qE G))) 0 0 43 = nI (qE G) := gI_eq _ _ _ _ _
  generalize sI H 0 0 43 (nI (qE G)) = H0 at hC0 h43 ⊢
  have fin : ∀ H1, Ch TT LLY H H1 → gI H1 0 0 43 = nI (qE G) → LY G kn x (qE G) H1 → ok (L_X9_lay_98 (nI r) (fun H15 => bnd (f_X9_arc 20 0 H15) (fun w17 H16 => some ((), H16))) FU 0 H1) (fun _ H' => Ch TT LLY H H' ∧ gI H' 0 0 43 = nI (lk G) ∧ LY G kn x (lk G) H') := by
    intro H1 hC1 h1 hy
    refine ok_g1 (qB G) (fun i H' => Ch TT LLY H H' ∧ gI H' 0 0 43 = nI (qE G + cntP (lvP G) i) ∧ LY G kn x (qE G + cntP (lvP G) i) H') ?_ ?_ rfl ⟨hC1, h1, hy⟩ (FUgt (by omega))
    · rintro i n H2 hi ⟨hC2, g43, gy⟩ K1
      have hG2 := MG_ch h hC2 rfl
      have hci := cntP_le (lvP G) i
      rw [L_X9_lay_98]
      generalize (fun H15 => bnd (f_X9_arc 20 0 H15) (fun w17 H16 => some ((), H16))) = kk at K1 ⊢
      simp (disch := omega) only [gd_nI, nI_clamp, hG2.1, nI_le_iff, if_neg, l20, nImul, nIadd, hG2.2.2.1 i hi, l3]
      by_cases q : qK G i = 3
      · rw [if_pos (by rw [q])]
        have hlt : cntP (lvP G) i < nL G := cntP_lt hi (decide_eq_true q)
        have hlk2 : qE G + nL G < lk G := by unfold lk; omega
        have a1 : lF G (qE G + cntP (lvP G) i) = i := by
          unfold lF
          rw [if_neg (by omega), if_pos (by omega), Nat.add_sub_cancel_left, lfB_eq hi q]
        have a2 : lT G (qE G + cntP (lvP G) i) = 20 := by
          unfold lT
          rw [if_neg (by omega), if_pos (by omega)]
        refine ok_b (x9_arc (by omega) g43 gy a1 a2 (hk _ (by omega))) ?_
        rintro - H3 ⟨q3, b1, b2⟩
        simp only [vl, l1, nIadd]
        have hs : cntP (lvP G) (i + 1) = cntP (lvP G) i + 1 := by rw [cntP_s, if_pos (show lvP G i = true from decide_eq_true q)]
        refine K1 _ ⟨Ch.tr (fun _ q => q) rfl hC2 q3, ?_, ?_⟩
        · rw [hs]; exact b1
        · rw [hs]; exact b2
      · have h4 := w.2.2.1 i hi
        rw [if_neg (by rw [nI_inj (by omega) (by omega)]; exact q)]
        simp only [vl, l1, nIadd]
        have hs : cntP (lvP G) (i + 1) = cntP (lvP G) i := by
          rw [cntP_s, if_neg (show ¬ lvP G i = true from fun z => q (of_decide_eq_true z))]; rfl
        exact K1 _ ⟨hC2, by rw [hs]; exact g43, by rw [hs]; exact gy⟩
    · rintro n H2 ⟨hC2, g43, gy⟩
      have hG2 := MG_ch h hC2 rfl
      have hci : nL G ≤ qB G := cntP_le (lvP G) (qB G)
      have a1 : lF G (qE G + nL G) = 20 := by
        unfold lF
        rw [if_neg (by omega), if_neg (by omega)]
      have a2 : lT G (qE G + nL G) = 0 := by
        unfold lT
        rw [if_neg (by omega), if_neg (by omega)]
      rw [L_X9_lay_98, gd_nI (by omega) (by decide), nI_clamp (n := r) (by omega), hG2.1, if_pos (by rw [nI_le_iff (by omega) (by omega)]; omega)]
      refine ok_b (x9_arc (a := 20) (b := 0) (by show qE G + nL G < 61; omega) g43 gy a1 a2 (hk _ (by omega))) ?_
      rintro - H3 ⟨q3, b1, b2⟩
      exact ok_s ⟨Ch.tr (fun _ q => q) rfl hC2 q3, b1, b2⟩
  have fin2 : ∀ H1, Ch TT LLY H H1 → gI H1 0 0 43 = nI (qE G) → LY G kn x (qE G) H1 → ok ((fun H8 => L_X9_lay_98 (nI r) (fun H15 => bnd (f_X9_arc 20 0 H15) (fun w17 H16 => some ((), H16))) FU 0 H8) H1) (fun _ H' => Ch TT LLY H H' ∧ gI H' 0 0 43 = nI (lk G) ∧ LY G kn x (lk G) H') := fin
  generalize (fun H8 => L_X9_lay_98 (nI r) (fun H15 => bnd (f_X9_arc 20 0 H15) (fun w17 H16 => some ((), H16))) FU 0 H8) = kk at fin2 ⊢
  refine ok_g1 (qE G) (fun i H' => Ch TT LLY H H' ∧ gI H' 0 0 43 = nI (qE G) ∧ LY G kn x i H') ?_ ?_ rfl ⟨hC0, h43, fun j hj => absurd hj (Nat.not_lt_zero _)⟩ (FUgt (by omega))
  · rintro i n H2 hi ⟨hC2, g43, gy⟩ K1
    obtain ⟨m1, m2, m3, m4, m5, m6, m7, m8⟩ := MG_ch h hC2 rfl
    have m11 : gI H2 0 11 (40 * r + i) = bI (kn i) := by rw [hC2.gi _ _ _ rfl]; exact h11 i hi
    have e40 : (40 : Int32) * nI r + nI i = nI (40 * r + i) := by rw [e0, nImul, nIadd]
    have c1 : gI (sI H2 0 39 i (nI (qF G i))) 0 7 (40 * r + i) = nI (qT G i) := by rw [gI_ne (by omega)]; exact m6 i hi
    have c2 : gI (sI (sI H2 0 39 i (nI (qF G i))) 0 40 i (nI (qT G i))) 0 11 (40 * r + i) = bI (kn i) := by rw [gI_ne (by omega), gI_ne (by omega)]; exact m11
    rw [L_X9_lay_12, gd_nI (by omega) (by decide), nI_clamp (n := r) (by omega), m2, if_neg (by rw [nI_le_iff (by omega) (by omega)]; omega), e40, gd_nI (by omega) (by decide), gd_nI (by omega) (by decide), nI_clamp (n := i) (by omega), nI_clamp (n := 40 * r + i) (by omega), m5 i hi, hl_e, gd_nI (by omega) (by decide), gd_nI (by omega) (by decide), c1, hl_e, gd_nI (by omega) (by decide), gd_nI (by omega) (by decide), c2, b_nar, hl_e, gd_nI (by omega) (by decide), gd_nI (by omega) (by decide), hl_e]
    simp only [vl, l1, nIadd]
    refine K1 _ ⟨Ch.sJ rfl rfl (Ch.sI rfl rfl (Ch.sI rfl rfl (Ch.sI rfl rfl hC2))), ?_, fun j hj => ?_⟩
    · rw [gI_sJ, gI_ne (by omega), gI_ne (by omega), gI_ne (by omega)]; exact g43
    · by_cases q : j = i
      · rw [q, lF_e hi, lT_e hi]
        refine ⟨?_, ?_, ?_, fun z => ?_⟩
        · rw [gI_sJ, gI_ne (by omega), gI_ne (by omega), gI_eq]
        · rw [gI_sJ, gI_ne (by omega), gI_eq]
        · rw [gI_sJ, gI_eq]
        · rw [gJ_eq, gJ_sI, gJ_sI, gJ_sI, hC2.gj _ _ _ rfl]; exact h23 i hi z
      · obtain ⟨a1, a2, a3, a4⟩ := gy j (by omega)
        refine ⟨?_, ?_, ?_, fun z => ?_⟩
        · rw [gI_sJ, gI_ne (by omega), gI_ne (by omega), gI_ne (by omega)]; exact a1
        · rw [gI_sJ, gI_ne (by omega), gI_ne (by omega), gI_ne (by omega)]; exact a2
        · rw [gI_sJ, gI_ne (by omega), gI_ne (by omega), gI_ne (by omega)]; exact a3
        · rw [gJ_ne (by omega), gJ_sI, gJ_sI, gJ_sI]; exact a4 z
  · rintro n H2 ⟨hC2, g43, gy⟩
    have m2 := (MG_ch h hC2 rfl).2.1
    rw [L_X9_lay_12, gd_nI (by omega) (by decide), nI_clamp (n := r) (by omega), m2, if_pos (by rw [nI_le_iff (by omega) (by omega)]; omega)]
    exact fin2 _ hC2 g43 gy
