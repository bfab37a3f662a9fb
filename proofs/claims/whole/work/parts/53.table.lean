/-- the tables, on both sides -/
def TB (r : Nat) (H : Hp) : Prop := ∃ R, R ≤ 16 ∧ gI H (r + 2) 5 2 = nI R ∧ gI H 0 24 r = nI R ∧ (∀ k, k < R → gJ H (r + 2) 37 k = gJ H 0 25 (16 * r + k) ∧ gJ H (r + 2) 38 k = gJ H 0 26 (16 * r + k)) ∧ gJ H (r + 2) 5 3 = gJ H 0 20 r
theorem eq_table {nr : Nat} {H : Hp} (h : RR nr H) (hf : ∀ r, r < nr → gI H (r + 2) 0 8 = gI H 0 3 r) (ht : ∀ r, r < nr → TB r H) (a b c : Int32) : ∃ v, f_X8_table nr a b c H = some (v, H) ∧ f_X9_table a b c H = some (v, sI H 0 0 34 0) := by
  have h8 := h.1
  have h' : RR nr (sI H 0 0 34 0) := RR_sI h (by omega) (by omega)
  unfold f_X8_table f_X9_table
  simp only [hl]
  rcases arg_cases a (n := nr) (by omega) with ⟨r, hr, rfl⟩ | ha
  · rw [fin_yes h hr, bnd_s, dn_yes h' hr, bnd_s]
    have e3 : gI (sI H 0 0 34 0) 0 3 r = gI H 0 3 r := by rw [gI_sI, if_neg (by omega)]
    rw [e3, hf r hr]
    by_cases hz : gI H 0 3 r = 0
    · rw [if_pos hz, if_pos hz, nz_n, if_pos rfl]
      exact ⟨_, rfl, rfl⟩
    · rw [if_neg hz, if_neg hz, nz_s hr, if_neg (by decide)]
      obtain ⟨R, hR, h1, h2, h3, -⟩ := ht r hr
      have e24 : gI (sI H 0 0 34 0) 0 24 r = nI R := by rw [gI_sI, if_neg (by omega)]; exact h2
      unfold f_X4_inRow
      rw [h1]
      rcases arg_cases b (n := R) (by omega) with ⟨k, hk, rfl⟩ | hb
      · have h16 : (16 : Int32) * nI r = nI (16 * r) := nImul 16 r
        rw [if_neg (nI_pos (by omega)), if_neg (by rw [nI_le_iff (by omega) (by omega)]; omega), if_neg (nI_pos (by omega)), gd_nI (a := r) (by omega) (by decide), nI_clamp (n := r) (by omega), e24, if_pos (nI_lt hk (by omega)), h16, nIadd]
        rcases arg_cases c (n := 2) (by decide) with ⟨j, hj, rfl⟩ | hc
        · rcases (show j = 0 ∨ j = 1 by omega) with rfl | rfl
          · simp only [if_neg (show ¬ (nI 0 < 0) by decide), if_pos (show nI 0 ≤ 1 by decide), if_pos (show nI 0 = 0 from rfl)]
            rw [gd_nI (a := k) (by omega) (by decide), gd_nI (a := 16 * r + k) (by omega) (by decide), nI_clamp (n := k) (by omega), nI_clamp (n := 16 * r + k) (by omega), bnd_s, (h3 k hk).1]
            exact ⟨_, rfl, rfl⟩
          · simp only [if_neg (show ¬ (nI 1 < 0) by decide), if_pos (show nI 1 ≤ 1 by decide), if_neg (show ¬ (nI 1 = 0) by decide), if_pos (show nI 1 = 1 from rfl)]
            rw [gd_nI (a := k) (by omega) (by decide), gd_nI (a := 16 * r + k) (by omega) (by decide), nI_clamp (n := k) (by omega), nI_clamp (n := 16 * r + k) (by omega), bnd_s, (h3 k hk).2]
            exact ⟨_, rfl, rfl⟩
        · have n0 : ¬ c = 0 := fun q => hc (by rw [q]; decide)
          have n1 : ¬ c = 1 := fun q => hc (by rw [q]; decide)
          simp only [if_neg n0, if_neg n1]
          by_cases c0 : c < 0
          · rw [if_pos c0, bnd_s]
            exact ⟨_, rfl, rfl⟩
          · rw [if_neg c0, if_neg ?_, bnd_s]
            · exact ⟨_, rfl, rfl⟩
            · intro q
              apply hc
              refine ⟨Int32.not_lt.mp c0, ?_⟩
              have q1 := Int32.le_iff_toInt_le.mp q
              rw [Int32.lt_iff_toInt_lt]
              have z1 : (1 : Int32).toInt = 1 := by decide
              have z2 : (nI 2).toInt = 2 := by decide
              omega
      · by_cases b0 : b < 0
        · rw [if_pos b0, if_pos b0, bnd_s]
          exact ⟨_, rfl, rfl⟩
        · rw [if_neg b0, if_neg b0, gd_nI (by omega) (by decide), nI_clamp (by omega), e24]
          have hle : nI R ≤ b := by
            rcases Int32.le_total (nI R) b with q | q
            · exact q
            · by_cases hq : b < nI R
              · exact absurd ⟨Int32.not_lt.mp b0, hq⟩ hb
              · exact Int32.not_lt.mp hq
          rw [if_pos hle, if_neg (Int32.not_lt.mpr hle), bnd_s]
          exact ⟨_, rfl, rfl⟩
  · rw [fin_no h ha, bnd_s, nz_n, dn_no h' ha, bnd_s, if_pos rfl]
    exact ⟨_, rfl, rfl⟩
