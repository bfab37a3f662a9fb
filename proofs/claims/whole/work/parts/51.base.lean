/-- the routines that there are, on both sides -/
def RR (nr : Nat) (H : Hp) : Prop := nr ≤ 8 ∧ gI H 0 0 0 = nI nr ∧ gI H 1 0 3 = nI nr ∧ (∀ i, i < nr → gR H 1 1 i = some i) ∧ (∀ i, nr ≤ i → i < 8 → gR H 1 1 i = none)
theorem arg_cases (a : Int32) {n : Nat} (hn : n < 2 ^ 31) : (∃ r, r < n ∧ a = nI r) ∨ ¬ (0 ≤ a ∧ a < nI n) := by
  by_cases h : 0 ≤ a ∧ a < nI n
  · left
    have h1 : 0 ≤ a.toInt := by have := Int32.le_iff_toInt_le.mp h.1; rwa [Int32.toInt_zero] at this
    have h2 : a.toInt < n := by have := Int32.lt_iff_toInt_lt.mp h.2; rwa [nI_toInt hn] at this
    refine ⟨a.toInt.toNat, by omega, ?_⟩
    apply Int32.toInt_inj.mp
    rw [nI_toInt (by omega)]
    omega
  · exact Or.inr h
theorem ar_in {r n : Nat} (hr : r < n) (hn : n < 2 ^ 31) : 0 ≤ nI r ∧ nI r < nI n := ⟨nI_pos' (by omega), nI_lt hr hn⟩
theorem rt_yes {nr r : Nat} {H : Hp} (h : RR nr H) (hr : r < nr) : f_X8_routineAt (nI r) H = some (some r, H) := by
  have h8 := h.1
  unfold f_X8_routineAt
  rw [if_neg (nI_pos (by omega)), if_pos (by rw [nI8]; exact nI_lt (by omega) (by decide)), gd_nI (by omega) (by decide), nI_clamp (by omega)]
  simp only [vl]
  rw [h.2.2.2.1 r hr]
theorem rt_no {nr : Nat} {H : Hp} (h : RR nr H) {a : Int32} (ha : ¬ (0 ≤ a ∧ a < nI nr)) : f_X8_routineAt a H = some (none, H) := by
  have h8 := h.1
  unfold f_X8_routineAt
  by_cases h1 : a < 0
  · rw [if_pos h1]
  · rw [if_neg h1]
    by_cases h2 : a < 8
    · rw [if_pos h2]
      rcases arg_cases a (n := 8) (by decide) with ⟨r, hr, rfl⟩ | h3
      · rw [gd_nI hr (by decide), nI_clamp (by omega)]
        simp only [vl]
        rw [h.2.2.2.2 r ?_ hr]
        rcases Nat.lt_or_ge r nr with q | q
        · exact absurd (ar_in q (by omega)) ha
        · exact q
      · exact absurd ⟨Int32.not_lt.mp h1, h2⟩ h3
    · rw [if_neg h2]
theorem ir_yes {nr r : Nat} {H : Hp} (h : RR nr H) (hr : r < nr) : f_X9_isRoutine (nI r) H = some (1, H) := by
  have h8 := h.1
  rw [x9_isRoutine h.2.1 h8, if_pos (ar_in hr (by omega))]
theorem ir_no {nr : Nat} {H : Hp} (h : RR nr H) {a : Int32} (ha : ¬ (0 ≤ a ∧ a < nI nr)) : f_X9_isRoutine a H = some (0, H) := by
  rw [x9_isRoutine h.2.1 h.1, if_neg ha]
theorem bnd_s {α β : Type} (a : α) (H : Hp) (f : α → Hp → Option β) : bnd (some (a, H)) f = f a H := rfl
theorem nz_n {β : Type} (nr : Nat) (k0 : Option β) (f : Nat → Option β) : nz nr none k0 f = k0 := rfl
theorem nz_s {β : Type} {nr r : Nat} (hr : r < nr) (k0 : Option β) (f : Nat → Option β) : nz nr (some r) k0 f = f r := by
  show gb (decide (r < nr)) (f r) = _
  unfold gb
  rw [if_pos (decide_eq_true hr)]
theorem fin_yes {nr r : Nat} {H : Hp} (h : RR nr H) (hr : r < nr) : f_X8_finishedAt nr (nI r) H = some (if gI H (r + 2) 0 8 = 0 then none else some r, H) := by
  unfold f_X8_finishedAt
  rw [rt_yes h hr, bnd_s, nz_s hr]
  split <;> rfl
theorem fin_no {nr : Nat} {H : Hp} (h : RR nr H) {a : Int32} (ha : ¬ (0 ≤ a ∧ a < nI nr)) : f_X8_finishedAt nr a H = some (none, H) := by
  unfold f_X8_finishedAt
  rw [rt_no h ha, bnd_s, nz_n]
theorem dn_yes {nr r : Nat} {H : Hp} (h : RR nr H) (hr : r < nr) : f_X9_isDone (nI r) H = some (if gI H 0 3 r = 0 then 0 else 1, H) := by
  have h8 := h.1
  unfold f_X9_isDone
  rw [ir_yes h hr, bnd_s, if_neg (by decide), gd_nI (by omega) (by decide), nI_clamp (by omega)]
  split <;> rfl
theorem dn_no {nr : Nat} {H : Hp} (h : RR nr H) {a : Int32} (ha : ¬ (0 ≤ a ∧ a < nI nr)) : f_X9_isDone a H = some (0, H) := by
  unfold f_X9_isDone
  rw [ir_no h ha, bnd_s, if_pos rfl]
theorem he_x3 {H : Hp} {r E : Nat} (hE : gI H (r + 2) 1 11 = nI E) (a : Int32) : f_X3_hasEdge r a H = some (if 0 ≤ a ∧ a < nI E then 1 else 0, H) := by
  unfold f_X3_hasEdge
  rw [hE]
  by_cases h1 : a < 0
  · rw [if_pos h1, if_neg (fun q => absurd h1 (Int32.not_lt.mpr q.1))]
  · rw [if_neg h1]
    by_cases h2 : nI E ≤ a
    · rw [if_pos h2, if_neg (fun q => absurd q.2 (Int32.not_lt.mpr h2))]
    · rw [if_neg h2, if_pos ⟨Int32.not_lt.mp h1, Int32.not_le.mp h2⟩]
theorem hb_x3 {H : Hp} {r B : Nat} (hB : gI H (r + 2) 1 10 = nI B) (a : Int32) : f_X3_hasBlock r a H = some (if 0 ≤ a ∧ a < nI B then 1 else 0, H) := by
  unfold f_X3_hasBlock
  rw [hB]
  by_cases h1 : a < 0
  · rw [if_pos h1, if_neg (fun q => absurd h1 (Int32.not_lt.mpr q.1))]
  · rw [if_neg h1]
    by_cases h2 : nI B ≤ a
    · rw [if_pos h2, if_neg (fun q => absurd q.2 (Int32.not_lt.mpr h2))]
    · rw [if_neg h2, if_pos ⟨Int32.not_lt.mp h1, Int32.not_le.mp h2⟩]
theorem ie_yes {nr r E : Nat} {H : Hp} (h : RR nr H) (hr : r < nr) (hE : gI H 0 2 r = nI E) (a : Int32) : f_X9_isEdge (nI r) a H = some (if 0 ≤ a ∧ a < nI E then 1 else 0, H) := by
  have h8 := h.1
  unfold f_X9_isEdge
  rw [ir_yes h hr, bnd_s, if_neg (by decide)]
  by_cases h1 : a < 0
  · rw [if_pos h1, if_neg (fun q => absurd h1 (Int32.not_lt.mpr q.1))]
  · rw [if_neg h1, gd_nI (by omega) (by decide), nI_clamp (by omega), hE]
    by_cases h2 : nI E ≤ a
    · rw [if_pos h2, if_neg (fun q => absurd q.2 (Int32.not_lt.mpr h2))]
    · rw [if_neg h2, if_pos ⟨Int32.not_lt.mp h1, Int32.not_le.mp h2⟩]
