theorem x9_ins {H : Hp} {r E : Nat} (hr : r < 8) (hE : gI H 0 2 r = nI E) (hE40 : E ≤ 40) (b : Int32) : f_X9_ins (nI r) b H = some (nI (cntF (fun e => gI H 0 7 (40 * r + e)) b E), H) := by
  unfold f_X9_ins
  simp only [vl]
  have h40 : (40 : Int32) * nI r = nI (40 * r) := nImul 40 r
  rw [h40]
  have h0 : nI (cntF (fun e => gI H 0 7 (40 * r + e)) b 0) = 0 := rfl
  refine loop_up (σ := Int32 × Int32 × Hp) (fun n s => L_X9_ins_8 (nI r) b (fun z8 H9 => some (z8, H9)) n s.1 s.2.1 s.2.2) (fun i => (nI (cntF (fun e => gI H 0 7 (40 * r + e)) b i), nI (40 * r + i), H)) E _ ?_ ?_ FU (by unfold FU; omega)
  · intro i n hi
    dsimp only
    rw [L_X9_ins_8, gd_nI hr (by decide), nI_clamp (by omega), hE, h40, nIadd, if_neg (by rw [nI_le_iff (by omega) (by omega)]; omega), gd_nI (by omega) (by decide), nI_clamp (by omega)]
    have hc := cntF_le (fun e => gI H 0 7 (40 * r + e)) b i
    have e1 : nI (40 * r + i) + 1 = nI (40 * r + (i + 1)) := nIadd _ 1
    simp only [vl]
    rw [e1]
    by_cases hb : gI H 0 7 (40 * r + i) = b
    · rw [if_pos hb]
      have e2 : cntF (fun e => gI H 0 7 (40 * r + e)) b (i + 1) = cntF (fun e => gI H 0 7 (40 * r + e)) b i + 1 := by
        show _ + (if gI H 0 7 (40 * r + i) = b then 1 else 0) = _
        rw [if_pos hb]
      rw [e2]
      exact congrArg (fun q => L_X9_ins_8 (nI r) b _ n q _ H) (nIadd _ 1)
    · rw [if_neg hb]
      have e2 : cntF (fun e => gI H 0 7 (40 * r + e)) b (i + 1) = cntF (fun e => gI H 0 7 (40 * r + e)) b i := by
        show _ + (if gI H 0 7 (40 * r + i) = b then 1 else 0) = _
        rw [if_neg hb]; rfl
      rw [e2]
      exact congrArg (fun q => L_X9_ins_8 (nI r) b _ n q _ H) (nIadd _ 0)
  · intro n
    dsimp only
    rw [L_X9_ins_8, gd_nI hr (by decide), nI_clamp (by omega), hE, h40, nIadd, if_pos (by rw [nI_le_iff (by omega) (by omega)]; omega)]
/-- open frames at a block, on both sides -/
def cntP (P : Nat → Bool) : Nat → Nat
  | 0 => 0
  | n + 1 => cntP P n + if P n = true then 1 else 0
theorem cntP_congr {P Q : Nat → Bool} {n : Nat} (h : ∀ i, i < n → P i = Q i) : cntP P n = cntP Q n := by
  induction n with
  | zero => rfl
  | succ n ih =>
    show cntP P n + _ = cntP Q n + _
    rw [ih (fun i hi => h i (by omega)), h n (by omega)]
theorem x9_openOf {H : Hp} {F : Nat} (hF : gI H 0 0 28 = nI F) (hF30 : F ≤ 30) (a b : Int32) : f_X9_openOf a b H = some (nI (cntP (fun f => decide (gI H 0 31 f = a ∧ gI H 0 32 f = b)) F), H) := by
  unfold f_X9_openOf
  refine loop_up (σ := Int32 × Int32 × Hp) (fun n s => L_X9_openOf_5 a b (fun z10 H11 => some (z10, H11)) n s.1 s.2.1 s.2.2) (fun i => (nI (cntP (fun f => decide (gI H 0 31 f = a ∧ gI H 0 32 f = b)) i), nI i, H)) F _ ?_ ?_ FU (by unfold FU; omega)
  · intro i n hi
    dsimp only
    rw [L_X9_openOf_5, hF, if_neg (by rw [nI_le_iff (by omega) (by omega)]; omega)]
    simp only [gd_nI (show i < 30 by omega) (by decide), nI_clamp (show i < 2 ^ 31 by omega), vl]
    have e1 : nI i + 1 = nI (i + 1) := (nI_succ i).symm
    rw [e1]
    have e2 : cntP (fun f => decide (gI H 0 31 f = a ∧ gI H 0 32 f = b)) (i + 1) = cntP (fun f => decide (gI H 0 31 f = a ∧ gI H 0 32 f = b)) i + if decide (gI H 0 31 i = a ∧ gI H 0 32 i = b) = true then 1 else 0 := rfl
    rw [e2]
    by_cases h1 : gI H 0 31 i = a
    · rw [if_pos h1]
      by_cases h2 : gI H 0 32 i = b
      · rw [if_pos h2, if_pos (decide_eq_true ⟨h1, h2⟩)]
        exact congrArg (fun q => L_X9_openOf_5 a b _ n q _ H) (nIadd _ 1)
      · rw [if_neg h2, if_neg (by simp [h2])]
        exact congrArg (fun q => L_X9_openOf_5 a b _ n q _ H) (nIadd _ 0)
    · rw [if_neg h1, if_neg (by simp [h1])]
      exact congrArg (fun q => L_X9_openOf_5 a b _ n q _ H) (nIadd _ 0)
  · intro n
    dsimp only
    rw [L_X9_openOf_5, hF, if_pos (by rw [nI_le_iff (by omega) (by omega)]; omega)]
