/-- block(), on both sides -/
theorem x3_addBlock {H : Hp} {r B : Nat} (hB : gI H (r + 2) 1 10 = nI B) (hB20 : B ≤ 20) (k c : Int32) : f_X3_addBlock r k c H = if B < 20 then some (nI B, sI (sI (sI H (r + 2) 8 B k) (r + 2) 9 B c) (r + 2) 1 10 (nI (B + 1))) else some (-1, H) := by
  unfold f_X3_addBlock
  rw [hB]
  have h20 : (20 : Int32) = nI 20 := rfl
  by_cases h : B < 20
  · rw [if_pos h, h20, if_pos (nI_lt h (by decide)), gd_nI h (by decide), nI_clamp (by omega)]
    simp only [hl]
    have e1 : gI (sI H (r + 2) 8 B k) (r + 2) 1 10 = nI B := by rw [gI_sI, if_neg (by omega)]; exact hB
    have e2 : gI (sI (sI H (r + 2) 8 B k) (r + 2) 9 B c) (r + 2) 1 10 = nI B := by rw [gI_sI, if_neg (by omega)]; exact e1
    rw [e1, gd_nI h (by decide), nI_clamp (by omega), e2]
    have e3 : nI B + 1 = nI (B + 1) := (nI_succ B).symm
    rw [e3, gI_sI, if_pos ⟨rfl, rfl, rfl⟩, nIsub1]
  · rw [if_neg h, h20, if_neg (by rw [nI_lt_iff (by omega) (by omega)]; omega)]
/-- whether a block of this kind may come -/
def okB (k c : Int32) : Prop := (0 ≤ k ∧ k ≤ 4) ∧ (k = 2 → 0 ≤ c ∧ c < 8)
theorem x8_block {nr r B : Nat} {H : Hp} (h : RR nr H) (hr : r < nr) (hB : gI H (r + 2) 1 10 = nI B) (hB20 : B ≤ 20) (k c : Int32) : f_X8_block nr (nI r) k c H = if gI H (r + 2) 0 8 = 0 ∧ B < 20 ∧ 0 ≤ k ∧ k ≤ 4 ∧ (k = 2 → 0 ≤ c ∧ c < 8) then some (nI B, sI (sI (sI H (r + 2) 8 B k) (r + 2) 9 B (if k = 2 then c else -1)) (r + 2) 1 10 (nI (B + 1))) else some (-1, H) := by
  unfold f_X8_block
  rw [rt_yes h hr, bnd_s, nz_s hr]
  simp only [jn]
  by_cases hf : gI H (r + 2) 0 8 = 0
  · rw [if_pos hf]
    by_cases k0 : k < 0
    · rw [if_pos k0, if_neg (fun q => absurd k0 (Int32.not_lt.mpr q.2.2.1))]
    · rw [if_neg k0]
      by_cases k4 : k ≤ 4
      · rw [if_pos k4, x3_addBlock hB hB20, x3_addBlock hB hB20]
        by_cases k2 : k = 2
        · simp only [if_pos k2]
          by_cases c0 : c < 0
          · rw [if_pos c0, if_neg (fun q => absurd c0 (Int32.not_lt.mpr (q.2.2.2.2 k2).1))]
          · rw [if_neg c0]
            by_cases c8 : c < 8
            · rw [if_pos c8]
              by_cases hb : B < 20
              · rw [if_pos hb, if_pos ⟨hf, hb, Int32.not_lt.mp k0, k4, fun _ => ⟨Int32.not_lt.mp c0, c8⟩⟩, bnd_s]
              · rw [if_neg hb, if_neg (fun q => hb q.2.1), bnd_s]
            · rw [if_neg c8, if_neg (fun q => c8 (q.2.2.2.2 k2).2)]
        · simp only [if_neg k2]
          by_cases hb : B < 20
          · rw [if_pos hb, if_pos ⟨hf, hb, Int32.not_lt.mp k0, k4, fun q => absurd q k2⟩, bnd_s]
          · rw [if_neg hb, if_neg (fun q => hb q.2.1), bnd_s]
      · rw [if_neg k4, if_neg (fun q => k4 q.2.2.2.1)]
  · rw [if_neg hf, if_neg (fun q => hf q.1)]
