theorem nn_s {β : Type} {nr r : Nat} (hr : r < nr) (f : Nat → Option β) : nn nr (some r) f = f r := by
  show gb (decide (r < nr)) (f r) = _
  unfold gb
  rw [if_pos (decide_eq_true hr)]
theorem x6_isOf {nr r f : Nat} {H : Hp} (hr : r < nr) (hf : f < 30) (h1 : gR H 1 4 f = some r) (h2 : gI H (r + 2) 0 0 = nI r) (a : Int32) : f_X6_isOf nr (nI f) a H = some (if nI r = a then 1 else 0, H) := by
  unfold f_X6_isOf
  simp only [gd_nI hf (show (30 : Nat) < 2 ^ 31 by decide), nI_clamp (show f < 2 ^ 31 by omega), vl, h1, nz_s hr, nn_s hr, h2]
  split <;> rfl
theorem x6_openAt {nr F : Nat} {H : Hp} (hF30 : F ≤ 30) (h1 : gI H 1 2 3 = nI F) (hn : ∀ r, r < nr → gI H (r + 2) 0 0 = nI r) (h6 : ∀ f, f < F → ∃ r, r < nr ∧ gR H 1 4 f = some r ∧ gI H 0 31 f = nI r ∧ gI H 1 5 f = gI H 0 32 f ∧ gJ H 1 6 f = gJ H 0 33 f) (a b : Int32) : f_X6_openAt nr a b H = some (nI (cntP (fun f => decide (gI H 0 31 f = a ∧ gI H 0 32 f = b)) F), H) := by
  unfold f_X6_openAt
  refine loop_up (σ := Int32 × Int32 × Hp) (fun n s => L_X6_openAt_5 nr a b (fun z10 H11 => some (z10, H11)) n s.1 s.2.1 s.2.2) (fun i => (nI (cntP (fun f => decide (gI H 0 31 f = a ∧ gI H 0 32 f = b)) i), nI i, H)) F _ ?_ ?_ FU (by unfold FU; omega)
  · intro i n hi
    dsimp only
    obtain ⟨r, hr, g1, g2, g3, -⟩ := h6 i hi
    rw [L_X6_openAt_5, h1, if_neg (by rw [nI_le_iff (by omega) (by omega)]; omega), x6_isOf hr (by omega) g1 (hn r hr), bnd_s]
    simp only [gd_nI (show i < 30 by omega) (show (30 : Nat) < 2 ^ 31 by decide), nI_clamp (show i < 2 ^ 31 by omega), vl, g3]
    have e1 : nI i + 1 = nI (i + 1) := (nI_succ i).symm
    rw [e1]
    have e2 : cntP (fun f => decide (gI H 0 31 f = a ∧ gI H 0 32 f = b)) (i + 1) = cntP (fun f => decide (gI H 0 31 f = a ∧ gI H 0 32 f = b)) i + if decide (gI H 0 31 i = a ∧ gI H 0 32 i = b) = true then 1 else 0 := rfl
    rw [e2, g2]
    by_cases q1 : nI r = a
    · rw [if_pos q1, if_neg (by decide)]
      by_cases q2 : gI H 0 32 i = b
      · rw [if_pos q2, if_pos (decide_eq_true ⟨q1, q2⟩)]
        exact congrArg (fun q => L_X6_openAt_5 nr a b _ n q _ H) (nIadd _ 1)
      · rw [if_neg q2, if_neg (by simp [q2])]
        rfl
    · rw [if_neg q1, if_pos rfl, if_neg (by simp [q1])]
      rfl
  · intro n
    dsimp only
    rw [L_X6_openAt_5, h1, if_pos (by rw [nI_le_iff (by omega) (by omega)]; omega)]
