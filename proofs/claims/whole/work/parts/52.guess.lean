theorem RR_sI {nr : Nat} {H : Hp} (h : RR nr H) {g k i : Nat} {v : Int32} (h1 : ¬ (0 = g ∧ 0 = k ∧ 0 = i)) (h2 : ¬ (1 = g ∧ 0 = k ∧ 3 = i)) : RR nr (sI H g k i v) := by
  obtain ⟨a, b, c, d, e⟩ := h
  exact ⟨a, by rw [gI_sI, if_neg h1]; exact b, by rw [gI_sI, if_neg h2]; exact c, fun j hj => by rw [gR_sI]; exact d j hj, fun j hj hk => by rw [gR_sI]; exact e j hj hk⟩
theorem ic_x8 (c : Int32) (H : Hp) : f_X8_isCount c H = some (if 0 ≤ c ∧ c ≤ 1000000 then 1 else 0, H) := by
  unfold f_X8_isCount
  by_cases h1 : c < 0
  · rw [if_pos h1, if_neg (fun q => absurd h1 (Int32.not_lt.mpr q.1))]
  · rw [if_neg h1]
    by_cases h2 : 1000000 < c
    · rw [if_pos h2, if_neg (fun q => absurd h2 (Int32.not_lt.mpr q.2))]
    · rw [if_neg h2, if_pos ⟨Int32.not_lt.mp h1, Int32.not_lt.mp h2⟩]
theorem ic_x9 (c : Int32) (H : Hp) : f_X9_isGuess c H = some (if 0 ≤ c ∧ c ≤ 1000000 then 1 else 0, H) := ic_x8 c H
theorem x8_guess {nr r E : Nat} {H : Hp} (h : RR nr H) (hr : r < nr) (hE : gI H (r + 2) 1 11 = nI E) (hE40 : E ≤ 40) (b c : Int32) : f_X8_guess nr (nI r) b c H = if (0 ≤ b ∧ b < nI E) ∧ (0 ≤ c ∧ c ≤ 1000000) then some (1, sI H (r + 2) 15 b.toNatClampNeg c) else some (0, H) := by
  unfold f_X8_guess
  rw [rt_yes h hr, bnd_s, nz_s hr, he_x3 hE, bnd_s]
  rcases arg_cases b (n := E) (by omega) with ⟨e, he, rfl⟩ | hb
  · rw [if_pos (ar_in he (by omega)), if_neg (by decide), ic_x8, bnd_s]
    by_cases hc : 0 ≤ c ∧ c ≤ 1000000
    · rw [if_pos hc, if_neg (by decide), gd_nI (by omega) (by decide), if_pos ⟨ar_in he (by omega), hc⟩]; rfl
    · rw [if_neg hc, if_pos rfl, if_neg (fun q => hc q.2)]
  · rw [if_neg hb, if_pos rfl, if_neg (fun q => hb q.1)]
theorem x9_guess {nr r E : Nat} {H : Hp} (h : RR nr H) (hr : r < nr) (hE : gI H 0 2 r = nI E) (hE40 : E ≤ 40) (b c : Int32) : f_X9_guess (nI r) b c H = if (0 ≤ b ∧ b < nI E) ∧ (0 ≤ c ∧ c ≤ 1000000) then some (1, sI (sI H 0 0 34 0) 0 8 (40 * r + b.toNatClampNeg) c) else some (0, sI H 0 0 34 0) := by
  have h8 := h.1
  have h' : RR nr (sI H 0 0 34 0) := RR_sI h (by omega) (by omega)
  have hE' : gI (sI H 0 0 34 0) 0 2 r = nI E := by rw [gI_sI, if_neg (by omega)]; exact hE
  unfold f_X9_guess
  simp only [hl]
  rw [ie_yes h' hr hE', bnd_s]
  rcases arg_cases b (n := E) (by omega) with ⟨e, he, rfl⟩ | hb
  · have h40 : (40 : Int32) * nI r = nI (40 * r) := nImul 40 r
    rw [if_pos (ar_in he (by omega)), if_neg (by decide), ic_x9, bnd_s]
    by_cases hc : 0 ≤ c ∧ c ≤ 1000000
    · rw [if_pos hc, if_neg (by decide), h40, nIadd, gd_nI (by omega) (by decide), if_pos ⟨ar_in he (by omega), hc⟩, nI_clamp (by omega), nI_clamp (by omega)]
    · rw [if_neg hc, if_pos rfl, if_neg (fun q => hc q.2)]
  · rw [if_neg hb, if_pos rfl, if_neg (fun q => hb q.1)]
theorem x8_guess_no {nr : Nat} {H : Hp} (h : RR nr H) {a : Int32} (ha : ¬ (0 ≤ a ∧ a < nI nr)) (b c : Int32) : f_X8_guess nr a b c H = some (0, H) := by
  unfold f_X8_guess
  rw [rt_no h ha, bnd_s, nz_n]
theorem x9_guess_no {nr : Nat} {H : Hp} (h : RR nr H) {a : Int32} (ha : ¬ (0 ≤ a ∧ a < nI nr)) (b c : Int32) : f_X9_guess a b c H = some (0, sI H 0 0 34 0) := by
  have h' : RR nr (sI H 0 0 34 0) := RR_sI h (by omega) (by omega)
  unfold f_X9_guess f_X9_isEdge
  simp only [hl]
  rw [ir_no h' ha, bnd_s, if_pos rfl, bnd_s, if_pos rfl]
theorem x8_blur {nr r E : Nat} {H : Hp} (h : RR nr H) (hr : r < nr) (hE : gI H (r + 2) 1 11 = nI E) (hE40 : E ≤ 40) (b c : Int32) : f_X8_blur nr (nI r) b c H = if (0 ≤ b ∧ b < nI E) ∧ (0 ≤ c ∧ c ≤ 1000000) then some (1, sI H (r + 2) 6 b.toNatClampNeg c) else some (0, H) := by
  unfold f_X8_blur
  rw [rt_yes h hr, bnd_s, nz_s hr, he_x3 hE, bnd_s]
  rcases arg_cases b (n := E) (by omega) with ⟨e, he, rfl⟩ | hb
  · rw [if_pos (ar_in he (by omega)), if_neg (by decide), ic_x8, bnd_s]
    by_cases hc : 0 ≤ c ∧ c ≤ 1000000
    · rw [if_pos hc, if_neg (by decide), gd_nI (by omega) (by decide), if_pos ⟨ar_in he (by omega), hc⟩]; rfl
    · rw [if_neg hc, if_pos rfl, if_neg (fun q => hc q.2)]
  · rw [if_neg hb, if_pos rfl, if_neg (fun q => hb q.1)]
theorem x9_blur {nr r E : Nat} {H : Hp} (h : RR nr H) (hr : r < nr) (hE : gI H 0 2 r = nI E) (hE40 : E ≤ 40) (b c : Int32) : f_X9_blur (nI r) b c H = if (0 ≤ b ∧ b < nI E) ∧ (0 ≤ c ∧ c ≤ 1000000) then some (1, sI (sI H 0 0 34 0) 0 10 (40 * r + b.toNatClampNeg) c) else some (0, sI H 0 0 34 0) := by
  have h8 := h.1
  have h' : RR nr (sI H 0 0 34 0) := RR_sI h (by omega) (by omega)
  have hE' : gI (sI H 0 0 34 0) 0 2 r = nI E := by rw [gI_sI, if_neg (by omega)]; exact hE
  unfold f_X9_blur
  simp only [hl]
  rw [ie_yes h' hr hE', bnd_s]
  rcases arg_cases b (n := E) (by omega) with ⟨e, he, rfl⟩ | hb
  · have h40 : (40 : Int32) * nI r = nI (40 * r) := nImul 40 r
    rw [if_pos (ar_in he (by omega)), if_neg (by decide)]
    by_cases h1 : c < 0
    · rw [if_pos h1, if_neg (fun q => absurd h1 (Int32.not_lt.mpr q.2.1))]
    · rw [if_neg h1]
      by_cases h2 : c ≤ 1000000
      · rw [if_pos h2, h40, nIadd, gd_nI (by omega) (by decide), if_pos ⟨ar_in he (by omega), Int32.not_lt.mp h1, h2⟩, nI_clamp (by omega), nI_clamp (by omega)]
      · rw [if_neg h2, if_neg (fun q => h2 q.2.2)]
  · rw [if_neg hb, if_pos rfl, if_neg (fun q => hb q.1)]
