theorem c7 {c : Int32} : c ≤ 7 ↔ c < 8 := by
  rw [Int32.le_iff_toInt_le, Int32.lt_iff_toInt_lt]
  have z1 : (7 : Int32).toInt = 7 := by decide
  have z2 : (8 : Int32).toInt = 8 := by decide
  omega
theorem x9_block {nr r B : Nat} {H : Hp} (h : RR nr H) (hr : r < nr) (hB : gI H 0 1 r = nI B) (hB20 : B ≤ 20) (k c : Int32) : f_X9_block (nI r) k c H = if gI H 0 3 r = 0 ∧ B < 20 ∧ 0 ≤ k ∧ k ≤ 4 ∧ (k = 2 → 0 ≤ c ∧ c < 8) then some (nI B, sI (sI (sI (sI H 0 0 34 0) 0 4 (20 * r + B) k) 0 5 (20 * r + B) (if k = 2 then c else -1)) 0 1 r (nI (B + 1))) else some (-1, sI H 0 0 34 0) := by
  have h8 := h.1
  have h' : RR nr (sI H 0 0 34 0) := RR_sI h (by omega) (by omega)
  have e3 : gI (sI H 0 0 34 0) 0 3 r = gI H 0 3 r := by rw [gI_sI, if_neg (by omega)]
  have e1 : gI (sI H 0 0 34 0) 0 1 r = nI B := by rw [gI_sI, if_neg (by omega)]; exact hB
  have h20 : (20 : Int32) * nI r = nI (20 * r) := nImul 20 r
  have g8 : ∀ {α : Type} (q : Option α), gd (nI r) 8 q = q := fun q => gd_nI (by omega) (by decide)
  have n8 : (nI r).toNatClampNeg = r := nI_clamp (by omega)
  have key : ∀ v : Int32, B < 20 → (gd (nI (20 * r) + nI B) 160 (hl (sI (sI H 0 0 34 0) 0 4 (Int32.toNatClampNeg (nI (20 * r) + nI B)) k) (fun (H11 : Hp) => gd (nI (20 * r) + gI H11 0 1 r) 160 (hl (sI H11 0 5 (Int32.toNatClampNeg (nI (20 * r) + gI H11 0 1 r)) v) (fun (H15 : Hp) => hl (sI H15 0 1 r (gI H15 0 1 r + 1)) (fun (H16 : Hp) => some (gI H16 0 1 r - 1, H16))))))) = some (nI B, sI (sI (sI (sI H 0 0 34 0) 0 4 (20 * r + B) k) 0 5 (20 * r + B) v) 0 1 r (nI (B + 1))) := by
    intro v hb
    rw [nIadd, gd_nI (by omega) (by decide), nI_clamp (by omega)]
    simp only [hl]
    have f1 : gI (sI (sI H 0 0 34 0) 0 4 (20 * r + B) k) 0 1 r = nI B := by rw [gI_sI, if_neg (by omega)]; exact e1
    rw [f1, nIadd, gd_nI (by omega) (by decide), nI_clamp (by omega)]
    have f2 : gI (sI (sI (sI H 0 0 34 0) 0 4 (20 * r + B) k) 0 5 (20 * r + B) v) 0 1 r = nI B := by rw [gI_sI, if_neg (by omega)]; exact f1
    rw [f2, ← nI_succ, gI_sI, if_pos ⟨rfl, rfl, rfl⟩, nIsub1]
  unfold f_X9_block
  have u1 : hl (sI H 0 0 34 0) = fun (F : Hp → Option (Int32 × Hp)) => F (sI H 0 0 34 0) := rfl
  rw [u1]
  dsimp only
  rw [ir_yes h' hr, bnd_s, if_neg (by decide)]
  simp only [g8, n8, jn, e3, e1, h20]
  by_cases hf : gI H 0 3 r = 0
  · rw [if_pos hf]
    have q20 : (nI B = 20) ↔ B = 20 := nI_inj (b := 20) (by omega) (by omega)
    by_cases hb : B < 20
    · rw [if_neg (by rw [q20]; omega)]
      by_cases k0 : k < 0
      · rw [if_pos k0, if_neg (fun q => absurd k0 (Int32.not_lt.mpr q.2.2.1))]
      · rw [if_neg k0]
        by_cases k4 : 4 < k
        · rw [if_pos k4, if_neg (fun q => absurd k4 (Int32.not_lt.mpr q.2.2.2.1))]
        · rw [if_neg k4]
          by_cases k2 : k = 2
          · simp only [if_pos k2]
            by_cases c0 : c < 0
            · rw [if_pos c0, if_neg (fun q => absurd c0 (Int32.not_lt.mpr (q.2.2.2.2 k2).1))]
            · rw [if_neg c0]
              by_cases c8 : c ≤ 7
              · rw [if_pos c8, if_pos ⟨hf, hb, Int32.not_lt.mp k0, Int32.not_lt.mp k4, fun _ => ⟨Int32.not_lt.mp c0, c7.mp c8⟩⟩]
                exact key c hb
              · rw [if_neg c8, if_neg (fun q => c8 (c7.mpr (q.2.2.2.2 k2).2))]
          · simp only [if_neg k2]
            rw [if_pos ⟨hf, hb, Int32.not_lt.mp k0, Int32.not_lt.mp k4, fun q => absurd q k2⟩]
            exact key (-1) hb
    · rw [if_pos (by rw [q20]; omega), if_neg (fun q => hb q.2.1)]
  · rw [if_neg hf, if_neg (fun q => hf q.1)]
