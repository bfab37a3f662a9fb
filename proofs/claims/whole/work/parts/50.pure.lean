/-- reading behind writing -/
theorem gI_sI (H : Hp) (g k i : Nat) (v : Int32) (a b j : Nat) : gI (sI H g k i v) a b j = if a = g ∧ b = k ∧ j = i then v else gI H a b j := rfl
theorem gJ_sJ (H : Hp) (g k i : Nat) (v : Int64) (a b j : Nat) : gJ (sJ H g k i v) a b j = if a = g ∧ b = k ∧ j = i then v else gJ H a b j := rfl
theorem gR_sR (H : Hp) (g k i : Nat) (v : Option Nat) (a b j : Nat) : gR (sR H g k i v) a b j = if a = g ∧ b = k ∧ j = i then v else gR H a b j := rfl
theorem gI_sJ (H : Hp) (g k i : Nat) (v : Int64) (a b j : Nat) : gI (sJ H g k i v) a b j = gI H a b j := rfl
theorem gI_sR (H : Hp) (g k i : Nat) (v : Option Nat) (a b j : Nat) : gI (sR H g k i v) a b j = gI H a b j := rfl
theorem gJ_sI (H : Hp) (g k i : Nat) (v : Int32) (a b j : Nat) : gJ (sI H g k i v) a b j = gJ H a b j := rfl
theorem gJ_sR (H : Hp) (g k i : Nat) (v : Option Nat) (a b j : Nat) : gJ (sR H g k i v) a b j = gJ H a b j := rfl
theorem gR_sI (H : Hp) (g k i : Nat) (v : Int32) (a b j : Nat) : gR (sI H g k i v) a b j = gR H a b j := rfl
theorem gR_sJ (H : Hp) (g k i : Nat) (v : Int64) (a b j : Nat) : gR (sJ H g k i v) a b j = gR H a b j := rfl
theorem gd_nI {α : Type} {a n : Nat} {k : Option α} (h : a < n) (hn : n < 2 ^ 31) : gd (nI a) n k = k := by
  unfold gd
  rw [if_pos]
  exact ⟨nI_pos (by omega), by rw [nI_clamp (by omega)]; exact h⟩
theorem nIadd (a b : Nat) : nI a + nI b = nI (a + b) := (Int32.ofNat_add a b).symm
theorem nImul (a b : Nat) : nI a * nI b = nI (a * b) := (Int32.ofNat_mul a b).symm
theorem nI_inj {a b : Nat} (ha : a < 2 ^ 31) (hb : b < 2 ^ 31) : nI a = nI b ↔ a = b := by
  constructor
  · intro h
    have h1 := nI_clamp ha
    rw [h, nI_clamp hb] at h1
    exact h1.symm
  · intro h; rw [h]
theorem nI_le_iff {a b : Nat} (ha : a < 2 ^ 31) (hb : b < 2 ^ 31) : nI a ≤ nI b ↔ a ≤ b := by
  rw [Int32.le_iff_toInt_le, nI_toInt ha, nI_toInt hb]; omega
theorem nI_lt_iff {a b : Nat} (ha : a < 2 ^ 31) (hb : b < 2 ^ 31) : nI a < nI b ↔ a < b := by
  rw [Int32.lt_iff_toInt_lt, nI_toInt ha, nI_toInt hb]; omega
/-- a loop whose states are known -/
theorem loop_up {σ ρ : Type} (L : Nat → σ → Option ρ) (S : Nat → σ) (N : Nat) (r : Option ρ) (hs : ∀ i n, i < N → L (n + 1) (S i) = L n (S (i + 1))) (he : ∀ n, L (n + 1) (S N) = r) : ∀ m, N < m → L m (S 0) = r := by
  have key : ∀ d i m, i + d = N → d < m → L m (S i) = r := by
    intro d
    induction d with
    | zero =>
      intro i m hi hm
      obtain ⟨n, rfl⟩ : ∃ n, m = n + 1 := ⟨m - 1, by omega⟩
      have : i = N := by omega
      rw [this]
      exact he n
    | succ d ih =>
      intro i m hi hm
      obtain ⟨n, rfl⟩ : ∃ n, m = n + 1 := ⟨m - 1, by omega⟩
      rw [hs i n (by omega)]
      exact ih (i + 1) n (by omega) (by omega)
  intro m hm
  exact key N 0 m (by omega) hm
/-- how many of the first n are b -/
def cntF (f : Nat → Int32) (b : Int32) : Nat → Nat
  | 0 => 0
  | n + 1 => cntF f b n + if f n = b then 1 else 0
theorem cntF_le (f : Nat → Int32) (b : Int32) (n : Nat) : cntF f b n ≤ n := by
  induction n with
  | zero => exact Nat.le_refl 0
  | succ n ih =>
    show cntF f b n + (if f n = b then 1 else 0) ≤ n + 1
    split <;> omega
theorem x9_isRoutine {H : Hp} {nr : Nat} (hn : gI H 0 0 0 = nI nr) (hnr : nr ≤ 8) (a : Int32) : f_X9_isRoutine a H = some (if 0 ≤ a ∧ a < nI nr then 1 else 0, H) := by
  unfold f_X9_isRoutine
  rw [hn]
  by_cases h1 : a < 0
  · rw [if_pos h1, if_neg (fun q => absurd h1 (Int32.not_lt.mpr q.1))]
  · rw [if_neg h1]
    by_cases h2 : nI nr ≤ a
    · rw [if_pos h2, if_neg (fun q => absurd q.2 (Int32.not_lt.mpr h2))]
    · rw [if_neg h2, if_pos ⟨Int32.not_lt.mp h1, Int32.not_le.mp h2⟩]
theorem x9_outs {H : Hp} {r E : Nat} (hr : r < 8) (hE : gI H 0 2 r = nI E) (hE40 : E ≤ 40) (b : Int32) : f_X9_outs (nI r) b H = some (nI (cntF (fun e => gI H 0 6 (40 * r + e)) b E), H) := by
  unfold f_X9_outs
  simp only [vl]
  have h40 : (40 : Int32) * nI r = nI (40 * r) := nImul 40 r
  rw [h40]
  have h0 : nI (cntF (fun e => gI H 0 6 (40 * r + e)) b 0) = 0 := rfl
  refine loop_up (σ := Int32 × Int32 × Hp) (fun n s => L_X9_outs_8 (nI r) b (fun z8 H9 => some (z8, H9)) n s.1 s.2.1 s.2.2) (fun i => (nI (cntF (fun e => gI H 0 6 (40 * r + e)) b i), nI (40 * r + i), H)) E _ ?_ ?_ FU (by unfold FU; omega)
  · intro i n hi
    dsimp only
    rw [L_X9_outs_8, gd_nI hr (by decide), nI_clamp (by omega), hE, h40, nIadd, if_neg (by rw [nI_le_iff (by omega) (by omega)]; omega), gd_nI (by omega) (by decide), nI_clamp (by omega)]
    have hc := cntF_le (fun e => gI H 0 6 (40 * r + e)) b i
    have e1 : nI (40 * r + i) + 1 = nI (40 * r + (i + 1)) := nIadd _ 1
    simp only [vl]
    rw [e1]
    by_cases hb : gI H 0 6 (40 * r + i) = b
    · rw [if_pos hb]
      have e2 : cntF (fun e => gI H 0 6 (40 * r + e)) b (i + 1) = cntF (fun e => gI H 0 6 (40 * r + e)) b i + 1 := by
        show _ + (if gI H 0 6 (40 * r + i) = b then 1 else 0) = _
        rw [if_pos hb]
      rw [e2]
      exact congrArg (fun q => L_X9_outs_8 (nI r) b _ n q _ H) (nIadd _ 1)
    · rw [if_neg hb]
      have e2 : cntF (fun e => gI H 0 6 (40 * r + e)) b (i + 1) = cntF (fun e => gI H 0 6 (40 * r + e)) b i := by
        show _ + (if gI H 0 6 (40 * r + i) = b then 1 else 0) = _
        rw [if_neg hb]; rfl
      rw [e2]
      exact congrArg (fun q => L_X9_outs_8 (nI r) b _ n q _ H) (nIadd _ 0)
  · intro n
    dsimp only
    rw [L_X9_outs_8, gd_nI hr (by decide), nI_clamp (by omega), hE, h40, nIadd, if_pos (by rw [nI_le_iff (by omega) (by omega)]; omega)]
