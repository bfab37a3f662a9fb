/-- no row but one routine's -/
def OR (a : Int32) (H0 H : Hp) : Prop := ∀ k i, (k = 1 ∨ k = 2 ∨ k = 3) → i ≠ Int32.toNatClampNeg a → gI H 0 k i = gI H0 0 k i
theorem OR.rf (a : Int32) (H : Hp) : OR a H H := fun _ _ _ _ => rfl
theorem OR.w {a v : Int32} {H0 H : Hp} {k : Nat} (q : OR a H0 H) : OR a H0 (sI H 0 k (Int32.toNatClampNeg a) v) := fun k' i h1 h2 => by rw [gI_ne (fun z => h2 z.2.2)]; exact q k' i h1 h2
theorem OR.oI {a v : Int32} {H0 H : Hp} {g k i : Nat} (h : ¬ (g = 0 ∧ (k = 1 ∨ k = 2 ∨ k = 3))) (q : OR a H0 H) : OR a H0 (sI H g k i v) := fun k' i' h1 h2 => by rw [gI_ne (fun z => h ⟨z.1.symm, by rw [← z.2.1]; exact h1⟩)]; exact q k' i' h1 h2
theorem OR.oJ {a : Int32} {v : Int64} {H0 H : Hp} {g k i : Nat} (h : ¬ (g = 0 ∧ (k = 1 ∨ k = 2 ∨ k = 3))) (q : OR a H0 H) : OR a H0 (sJ H g k i v) := fun k' i' h1 h2 => by rw [gI_sJ]; exact q k' i' h1 h2
theorem OR.c {a : Int32} {rs : Nat → Bool} {L : List (Nat × Nat × Option Nat)} {H0 H H' : Hp} (q : OR a H0 H) (q' : Ch rs L H H') (hL : nol L 0 fpFR = true) : OR a H0 H' := fun k i h1 h2 => by
  have e : gI H' 0 k i = gI H 0 k i := by
    rcases h1 with rfl | rfl | rfl
    · exact (q'.m hL (k := 1) (o := none) (by simp [fpFR]) rfl).1
    · exact (q'.m hL (k := 2) (o := none) (by simp [fpFR]) rfl).1
    · exact (q'.m hL (k := 3) (o := none) (by simp [fpFR]) rfl).1
  rw [e]; exact q k i h1 h2
theorem FR_or {nr r : Nat} {H H' : Hp} (hn : nr ≤ 8) (h : FR nr H) (hr : r < nr) (q : OR (nI r) H H') : FR nr H' := by
  intro i h1 h2
  have hi : i ≠ Int32.toNatClampNeg (nI r) := by rw [nI_clamp (by omega)]; omega
  obtain ⟨a1, a2, a3⟩ := h i h1 h2
  exact ⟨(q 1 i (by omega) hi).trans a1, (q 2 i (by omega) hi).trans a2, (q 3 i (by omega) hi).trans a3⟩
theorem FR_34 {nr : Nat} {H : Hp} (h : FR nr H) : FR nr (sI H 0 0 34 0) := FR_ch (rs := TT) (L := [(0, 0, some 34)]) h (Ch.sI rfl rfl (Ch.rf H)) rfl
theorem or_X9_block {a1 : Int32} {a2 : Int32} {a3 : Int32} {H0 H : Hp} {res : Int32 × Hp} (q : OR a1 H0 H) (h : f_X9_block a1 a2 a3 H = some res) : OR a1 H0 res.2 := by
  unfold f_X9_block at h
  replace h := hl_c (P := OR a1 H0) (OR.oI (by omega) q) h
  clear q
  obtain ⟨H1, q, h⟩ := h
  replace h := bnd_some h
  obtain ⟨w3, H2, hc, h⟩ := h
  replace q := OR.c q (ch_X9_isRoutine (Ch.rf _) hc) rfl
  replace h := it_c h
  rcases h with h | h
  · cases h
    exact q
  · replace h := (gd_some h).2
    replace h := it_c h
    rcases h with h | h
    · replace h := (gd_some h).2
      replace h := it_c h
      rcases h with h | h
      · cases h
        exact q
      · replace h := it_c h
        rcases h with h | h
        · cases h
          exact q
        · replace h := it_c h
          rcases h with h | h
          · cases h
            exact q
          · refine jn_c0 (P := OR a1 H0) h (fun H10 q h => ?_) (fun hj9 h => ?_)
            · replace h := (gd_some h).2
              replace h := (gd_some h).2
              replace h := hl_c (P := OR a1 H0) (OR.oI (by omega) q) h
              clear q
              obtain ⟨H11, q, h⟩ := h
              replace h := (gd_some h).2
              refine jn_c1 (P := OR a1 H0) h (fun y13 H14 q h => ?_) (fun hj12 h => ?_)
              · replace h := (gd_some h).2
                replace h := hl_c (P := OR a1 H0) (OR.oI (by omega) q) h
                clear q
                obtain ⟨H15, q, h⟩ := h
                replace h := (gd_some h).2
                replace h := (gd_some h).2
                replace h := hl_c (P := OR a1 H0) (OR.w q) h
                clear q
                obtain ⟨H16, q, h⟩ := h
                replace h := (gd_some h).2
                cases h
                exact q
              · replace h := it_c h
                rcases h with h | h
                · exact hj12 a3 H11 q h
                · exact hj12 (-1) H11 q h
            · replace h := it_c h
              rcases h with h | h
              · replace h := it_c h
                rcases h with h | h
                · cases h
                  exact q
                · replace h := it_c h
                  rcases h with h | h
                  · exact hj9 H2 q h
                  · cases h
                    exact q
              · exact hj9 H2 q h
    · cases h
      exact q
theorem fr_X9_block {nr : Nat} {a1 a2 a3 : Int32} {H : Hp} {res : Int32 × Hp} (hR : RR nr H) (hF : FR nr H) (h : f_X9_block a1 a2 a3 H = some res) : FR nr res.2 := by
  have h8 := hR.1
  rcases arg_cases a1 (n := nr) (by omega) with ⟨r, hr, rfl⟩ | ha
  · exact FR_or h8 hF hr (or_X9_block (OR.rf _ H) h)
  · unfold f_X9_block at h
    rw [hl_e, ir_no (RR_sI hR (by omega) (by omega)) ha, bnd_s, if_pos rfl] at h
    cases h
    exact FR_34 hF
theorem or_X9_edge {a1 : Int32} {a2 : Int32} {a3 : Int32} {a4 : Int32} {a5 : Int32} {H0 H : Hp} {res : Int32 × Hp} (q : OR a1 H0 H) (h : f_X9_edge a1 a2 a3 a4 a5 H = some res) : OR a1 H0 res.2 := by
  unfold f_X9_edge at h
  replace h := hl_c (P := OR a1 H0) (OR.oI (by omega) q) h
  clear q
  obtain ⟨H1, q, h⟩ := h
  replace h := bnd_some h
  obtain ⟨w3, H2, hc, h⟩ := h
  replace q := OR.c q (ch_X9_isRoutine (Ch.rf _) hc) rfl
  replace h := it_c h
  rcases h with h | h
  · cases h
    exact q
  · replace h := (gd_some h).2
    replace h := it_c h
    rcases h with h | h
    · replace h := (gd_some h).2
      replace h := it_c h
      rcases h with h | h
      · cases h
        exact q
      · replace h := bnd_some h
        obtain ⟨w8, H7, hc, h⟩ := h
        replace q := OR.c q (ch_X9_isBlock (Ch.rf _) hc) rfl
        replace h := it_c h
        rcases h with h | h
        · cases h
          exact q
        · replace h := bnd_some h
          obtain ⟨w11, H10, hc, h⟩ := h
          replace q := OR.c q (ch_X9_isBlock (Ch.rf _) hc) rfl
          replace h := it_c h
          rcases h with h | h
          · cases h
            exact q
          · replace h := bnd_some h
            obtain ⟨w14, H13, hc, h⟩ := h
            replace q := OR.c q (ch_X9_isGuess (Ch.rf _) hc) rfl
            replace h := it_c h
            rcases h with h | h
            · cases h
              exact q
            · replace h := (gd_some h).2
              replace h := vl_c h
              obtain ⟨v16, h⟩ := h
              replace h := it_c h
              rcases h with h | h
              · cases h
                exact q
              · replace h := it_c h
                rcases h with h | h
                · cases h
                  exact q
                · replace h := bnd_some h
                  obtain ⟨w20, H19, hc, h⟩ := h
                  replace q := OR.c q (ch_X9_outs (Ch.rf _) hc) rfl
                  replace h := it_c h
                  rcases h with h | h
                  · cases h
                    exact q
                  · replace h := (gd_some h).2
                    replace h := vl_c h
                    obtain ⟨v22, h⟩ := h
                    replace h := (gd_some h).2
                    replace h := hl_c (P := OR a1 H0) (OR.oI (by omega) q) h
                    clear q
                    obtain ⟨H23, q, h⟩ := h
                    replace h := (gd_some h).2
                    replace h := hl_c (P := OR a1 H0) (OR.oI (by omega) q) h
                    clear q
                    obtain ⟨H24, q, h⟩ := h
                    replace h := (gd_some h).2
                    replace h := hl_c (P := OR a1 H0) (OR.oI (by omega) q) h
                    clear q
                    obtain ⟨H25, q, h⟩ := h
                    replace h := (gd_some h).2
                    replace h := hl_c (P := OR a1 H0) (OR.oI (by omega) q) h
                    clear q
                    obtain ⟨H26, q, h⟩ := h
                    replace h := (gd_some h).2
                    replace h := hl_c (P := OR a1 H0) (OR.oI (by omega) q) h
                    clear q
                    obtain ⟨H27, q, h⟩ := h
                    replace h := (gd_some h).2
                    replace h := (gd_some h).2
                    replace h := hl_c (P := OR a1 H0) (OR.w q) h
                    clear q
                    obtain ⟨H28, q, h⟩ := h
                    replace h := (gd_some h).2
                    cases h
                    exact q
    · cases h
      exact q
theorem fr_X9_edge {nr : Nat} {a1 a2 a3 a4 a5 : Int32} {H : Hp} {res : Int32 × Hp} (hR : RR nr H) (hF : FR nr H) (h : f_X9_edge a1 a2 a3 a4 a5 H = some res) : FR nr res.2 := by
  have h8 := hR.1
  rcases arg_cases a1 (n := nr) (by omega) with ⟨r, hr, rfl⟩ | ha
  · exact FR_or h8 hF hr (or_X9_edge (OR.rf _ H) h)
  · unfold f_X9_edge at h
    rw [hl_e, ir_no (RR_sI hR (by omega) (by omega)) ha, bnd_s, if_pos rfl] at h
    cases h
    exact FR_34 hF
theorem or_X9_finish {a1 : Int32} {H0 H : Hp} {res : Int32 × Hp} (q : OR a1 H0 H) (h : f_X9_finish a1 H = some res) : OR a1 H0 res.2 := by
  unfold f_X9_finish at h
  replace h := hl_c (P := OR a1 H0) (OR.oI (by omega) q) h
  clear q
  obtain ⟨H1, q, h⟩ := h
  replace h := bnd_some h
  obtain ⟨w3, H2, hc, h⟩ := h
  replace q := OR.c q (ch_X9_isRoutine (Ch.rf _) hc) rfl
  replace h := it_c h
  rcases h with h | h
  · cases h
    exact q
  · replace h := (gd_some h).2
    replace h := it_c h
    rcases h with h | h
    · replace h := bnd_some h
      obtain ⟨w7, H6, hc, h⟩ := h
      replace q := OR.c q (ch_X9_why (Ch.rf _) hc) rfl
      replace h := it_c h
      rcases h with h | h
      · replace h := (gd_some h).2
        replace h := hl_c (P := OR a1 H0) (OR.w q) h
        clear q
        obtain ⟨H9, q, h⟩ := h
        replace h := bnd_some h
        obtain ⟨w11, H10, hc, h⟩ := h
        replace q := OR.c q (ch_X9_makePlan (Ch.rf _) hc) rfl
        cases h
        exact q
      · cases h
        exact q
    · cases h
      exact q
theorem fr_X9_finish {nr : Nat} {a1 : Int32} {H : Hp} {res : Int32 × Hp} (hR : RR nr H) (hF : FR nr H) (h : f_X9_finish a1 H = some res) : FR nr res.2 := by
  have h8 := hR.1
  rcases arg_cases a1 (n := nr) (by omega) with ⟨r, hr, rfl⟩ | ha
  · exact FR_or h8 hF hr (or_X9_finish (OR.rf _ H) h)
  · unfold f_X9_finish at h
    rw [hl_e, ir_no (RR_sI hR (by omega) (by omega)) ha, bnd_s, if_pos rfl] at h
    cases h
    exact FR_34 hF
