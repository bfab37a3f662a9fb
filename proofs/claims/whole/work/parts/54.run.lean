/-- run(), on both sides -/
def WK (nr : Nat) (H : Hp) : Prop := ∃ F, F ≤ 30 ∧ gI H 1 2 3 = nI F ∧ gI H 0 0 28 = nI F ∧ gI H 1 2 4 = gI H 0 0 27 ∧ gI H 1 2 5 = gI H 0 0 29 ∧ gI H 1 2 6 = gI H 0 0 30 ∧ (∀ f, f < F → ∃ r, r < nr ∧ gR H 1 4 f = some r ∧ gI H 0 31 f = nI r ∧ gI H 1 5 f = gI H 0 32 f ∧ gJ H 1 6 f = gJ H 0 33 f)
theorem nIsub1 (n : Nat) : nI (n + 1) - 1 = nI n := by
  rw [nI_succ]
  exact Int32.add_sub_cancel _ _
theorem top_0 {H : Hp} (h : gI H 1 2 3 = nI 0) : f_X6_topRoutine H = some (none, H) := by
  unfold f_X6_topRoutine
  rw [h, if_pos (by decide)]
theorem top_s {H : Hp} {F : Nat} (hF : F < 30) (h : gI H 1 2 3 = nI (F + 1)) : f_X6_topRoutine H = some (gR H 1 4 F, H) := by
  unfold f_X6_topRoutine
  have e1 : ¬ (nI (F + 1) < 1) := by
    show ¬ (nI (F + 1) < nI 1)
    rw [nI_lt_iff (by omega) (by omega)]; omega
  have e2 : nI (F + 1) ≤ 30 := by
    show nI (F + 1) ≤ nI 30
    rw [nI_le_iff (by omega) (by omega)]; omega
  rw [h, if_neg e1, if_pos e2, nIsub1, gd_nI (by omega) (by decide), nI_clamp (by omega)]
  rfl
theorem eq_run {nr : Nat} {H : Hp} (hn : ∀ r, r < nr → gI H (r + 2) 0 0 = nI r) (hw : WK nr H) (a : Int32) : ∃ v, f_X8_run nr a H = some (v, H) ∧ f_X9_run a H = some (v, sI H 0 0 34 0) := by
  obtain ⟨F, hF, h1, h2, h3, h4, h5, h6⟩ := hw
  have q : ∀ k i, ¬ (k = 0 ∧ i = 34) → gI (sI H 0 0 34 0) 0 k i = gI H 0 k i := fun k i hk => by rw [gI_sI, if_neg (fun z => hk ⟨z.2.1, z.2.2⟩)]
  unfold f_X8_run f_X6_ofRun f_X9_run
  simp only [hl]
  rw [q 0 27 (by omega), q 0 28 (by omega), q 0 29 (by omega), q 0 30 (by omega), h2]
  cases F with
  | zero =>
    rw [top_0 h1, bnd_s, h1, h3, h4, h5]
    simp only [nz_n, if_pos (show nI 0 = 0 from rfl)]
    by_cases a0 : a = 0
    · simp only [if_pos a0]; exact ⟨_, rfl, rfl⟩
    · simp only [if_neg a0]
      by_cases a1 : a = 1
      · simp only [if_pos a1]; exact ⟨_, rfl, rfl⟩
      · simp only [if_neg a1]
        by_cases a2 : a = 2
        · simp only [if_pos a2]; exact ⟨_, rfl, rfl⟩
        · simp only [if_neg a2]
          by_cases a3 : a = 3
          · simp only [if_pos a3]; exact ⟨_, rfl, rfl⟩
          · simp only [if_neg a3]
            by_cases a4 : a = 4
            · simp only [if_pos a4]; exact ⟨_, rfl, rfl⟩
            · simp only [if_neg a4]
              by_cases a5 : a = 5
              · simp only [if_pos a5]; exact ⟨_, rfl, rfl⟩
              · simp only [if_neg a5]; exact ⟨_, rfl, rfl⟩
  | succ F =>
    obtain ⟨r, hr, g1, g2, g3, -⟩ := h6 F (Nat.lt_succ_self F)
    have z : ¬ nI (F + 1) = 0 := nI_ne0 (by omega) (by omega)
    rw [top_s (by omega) h1, bnd_s, h1, h3, h4, h5, g1]
    simp only [nz_s hr, if_neg z, nIsub1, gd_nI (show F < 30 by omega) (by decide), nI_clamp (show F < 2 ^ 31 by omega), hn r hr, g3]
    rw [q 31 F (by omega), q 32 F (by omega), g2]
    by_cases a0 : a = 0
    · simp only [if_pos a0]; exact ⟨_, rfl, rfl⟩
    · simp only [if_neg a0]
      by_cases a1 : a = 1
      · simp only [if_pos a1]; exact ⟨_, rfl, rfl⟩
      · simp only [if_neg a1]
        by_cases a2 : a = 2
        · simp only [if_pos a2]; exact ⟨_, rfl, rfl⟩
        · simp only [if_neg a2]
          by_cases a3 : a = 3
          · simp only [if_pos a3]; exact ⟨_, rfl, rfl⟩
          · simp only [if_neg a3]
            by_cases a4 : a = 4
            · simp only [if_pos a4]; exact ⟨_, rfl, rfl⟩
            · simp only [if_neg a4]
              by_cases a5 : a = 5
              · simp only [if_pos a5]; exact ⟨_, rfl, rfl⟩
              · simp only [if_neg a5]; exact ⟨_, rfl, rfl⟩
