/-- marks that spread along edges: one pass over the first edges, and passes -/
def sp (g t : Nat → Nat) (M : Nat → Bool) : Nat → Nat → Bool
  | 0 => M
  | e + 1 => fun b => if sp g t M e (g e) = true ∧ b = t e then true else sp g t M e b
def spi (g t : Nat → Nat) (E : Nat) (M : Nat → Bool) : Nat → Nat → Bool
  | 0 => M
  | p + 1 => sp g t (spi g t E M p) E
theorem sp_mono {g t : Nat → Nat} {M : Nat → Bool} {b : Nat} (h : M b = true) (e : Nat) : sp g t M e b = true := by
  induction e with
  | zero => exact h
  | succ e ih =>
    show (if _ then _ else _) = true
    split
    · rfl
    · exact ih
theorem cntP_inc {P Q : Nat → Bool} {n : Nat} (h : ∀ i, i < n → P i = true → Q i = true) : cntP P n ≤ cntP Q n := by
  induction n with
  | zero => exact Nat.le_refl _
  | succ n ih =>
    have h1 := ih (fun i hi => h i (by omega))
    rw [cntP_s, cntP_s]
    by_cases hp : P n = true
    · rw [if_pos hp, if_pos (h n (by omega) hp)]; omega
    · rw [if_neg hp]; omega
theorem cntP_inc_lt {P Q : Nat → Bool} {n b : Nat} (h : ∀ i, i < n → P i = true → Q i = true) (hb : b < n) (h1 : P b = false) (h2 : Q b = true) : cntP P n < cntP Q n := by
  induction n with
  | zero => exact absurd hb (Nat.not_lt_zero _)
  | succ n ih =>
    rw [cntP_s, cntP_s]
    by_cases hbn : b = n
    · subst hbn
      have h3 := cntP_inc (n := b) (fun i hi => h i (by omega))
      rw [if_neg (by rw [h1]; decide), if_pos h2]; omega
    · have h3 := ih (fun i hi => h i (by omega)) (by omega)
      by_cases hp : P n = true
      · rw [if_pos hp, if_pos (h n (by omega) hp)]; omega
      · rw [if_neg hp]; omega
theorem cntP_all {P : Nat → Bool} {n : Nat} (h : cntP P n = n) : ∀ i, i < n → P i = true := by
  induction n with
  | zero => intro i hi; omega
  | succ n ih =>
    intro i hi
    rw [cntP_s] at h
    have h1 := cntP_le P n
    by_cases hp : P n = true
    · rw [if_pos hp] at h
      by_cases hin : i = n
      · subst hin; exact hp
      · exact ih (by omega) i (by omega)
    · rw [if_neg hp] at h; omega
/-- a sequence of sets that grows till it stays: general -/
theorem grow_fix (S : Nat → Nat → Bool) (n : Nat) (hm : ∀ p b, b < n → S p b = true → S (p + 1) b = true) (hs : ∀ p, (∀ b, b < n → S (p + 1) b = S p b) → ∀ b, b < n → S (p + 2) b = S (p + 1) b) : ∀ b, b < n → S (n + 1) b = S n b := by
  have hfix : ∀ p q, (∀ b, b < n → S (p + 1) b = S p b) → ∀ b, b < n → S (p + q + 1) b = S (p + q) b := by
    intro p q h
    induction q with
    | zero => exact h
    | succ q ih => exact hs (p + q) ih
  have hcnt : ∀ p, (∃ q, q ≤ p ∧ ∀ b, b < n → S (q + 1) b = S q b) ∨ p + 1 ≤ cntP (S (p + 1)) n := by
    intro p
    induction p with
    | zero =>
      by_cases h : ∀ b, b < n → S 1 b = S 0 b
      · exact Or.inl ⟨0, Nat.le_refl _, h⟩
      · right
        have ⟨b, hb⟩ := Classical.not_forall.mp h
        have ⟨hb1, hb2⟩ := Classical.not_imp.mp hb
        have h0 : S 0 b = false := by
          cases e : S 0 b with
          | false => rfl
          | true => exact absurd ((hm 0 b hb1 e).trans e.symm) hb2
        have h1 : S 1 b = true := by
          cases e : S 1 b with
          | true => rfl
          | false => exact absurd (e.trans h0.symm) hb2
        have : cntP (S 0) n < cntP (S 1) n := cntP_inc_lt (fun i hi => hm 0 i hi) hb1 h0 h1
        show 0 + 1 ≤ cntP (S 1) n
        omega
    | succ p ih =>
      rcases ih with ⟨q, hq, h⟩ | ih
      · exact Or.inl ⟨q, by omega, h⟩
      · by_cases h : ∀ b, b < n → S (p + 2) b = S (p + 1) b
        · exact Or.inl ⟨p + 1, Nat.le_refl _, h⟩
        · right
          have ⟨b, hb⟩ := Classical.not_forall.mp h
          have ⟨hb1, hb2⟩ := Classical.not_imp.mp hb
          have h0 : S (p + 1) b = false := by
            cases e : S (p + 1) b with
            | false => rfl
            | true => exact absurd ((hm (p + 1) b hb1 e).trans e.symm) hb2
          have h1 : S (p + 2) b = true := by
            cases e : S (p + 2) b with
            | true => rfl
            | false => exact absurd (e.trans h0.symm) hb2
          have : cntP (S (p + 1)) n < cntP (S (p + 2)) n := cntP_inc_lt (fun i hi => hm (p + 1) i hi) hb1 h0 h1
          show p + 1 + 1 ≤ cntP (S (p + 2)) n
          omega
  rcases hcnt n with ⟨q, hq, h⟩ | h
  · have := hfix q (n - q) h
    rw [show q + (n - q) = n by omega] at this
    exact this
  · have := cntP_le (S (n + 1)) n
    omega
theorem fix_eq (S : Nat → Nat → Bool) (n : Nat) (hs : ∀ p, (∀ b, b < n → S (p + 1) b = S p b) → ∀ b, b < n → S (p + 2) b = S (p + 1) b) {p q : Nat} (hp : ∀ b, b < n → S (p + 1) b = S p b) (hq : ∀ b, b < n → S (q + 1) b = S q b) : ∀ b, b < n → S p b = S q b := by
  have hfix : ∀ p d, (∀ b, b < n → S (p + 1) b = S p b) → ∀ b, b < n → S (p + d) b = S p b := by
    intro p d h
    have key : ∀ d, (∀ b, b < n → S (p + d + 1) b = S (p + d) b) ∧ ∀ b, b < n → S (p + d) b = S p b := by
      intro d
      induction d with
      | zero => exact ⟨h, fun b _ => rfl⟩
      | succ d ih => exact ⟨hs (p + d) ih.1, fun b hb => (ih.1 b hb).trans (ih.2 b hb)⟩
    exact (key d).2
  intro b hb
  rcases Nat.le_total p q with h | h
  · have := hfix p (q - p) hp b hb
    rw [show p + (q - p) = q by omega] at this
    exact this.symm
  · have := hfix q (p - q) hq b hb
    rw [show q + (p - q) = p by omega] at this
    exact this
theorem sp_congr {g t : Nat → Nat} {M M' : Nat → Bool} {n E : Nat} (hg : ∀ e, e < E → g e < n) (h : ∀ b, b < n → M b = M' b) : ∀ e, e ≤ E → ∀ b, b < n → sp g t M e b = sp g t M' e b := by
  intro e
  induction e with
  | zero => intro _; exact h
  | succ e ih =>
    intro he b hb
    have h1 := ih (by omega)
    show (if sp g t M e (g e) = true ∧ b = t e then true else sp g t M e b) = (if sp g t M' e (g e) = true ∧ b = t e then true else sp g t M' e b)
    rw [h1 (g e) (hg e (by omega)), h1 b hb]
theorem spi_mono {g t : Nat → Nat} {E : Nat} {M : Nat → Bool} (p b : Nat) (h : spi g t E M p b = true) : spi g t E M (p + 1) b = true := sp_mono h E
theorem spi_stay {g t : Nat → Nat} {E n : Nat} {M : Nat → Bool} (hg : ∀ e, e < E → g e < n) (p : Nat) (h : ∀ b, b < n → spi g t E M (p + 1) b = spi g t E M p b) : ∀ b, b < n → spi g t E M (p + 2) b = spi g t E M (p + 1) b := sp_congr hg h E (Nat.le_refl _)
theorem spi_fix {g t : Nat → Nat} {E n : Nat} {M : Nat → Bool} (hg : ∀ e, e < E → g e < n) : ∀ b, b < n → spi g t E M (n + 1) b = spi g t E M n b := grow_fix (spi g t E M) n (fun p b _ h => spi_mono p b h) (fun p h => spi_stay hg p h)
theorem spi_un {g t : Nat → Nat} {E n p : Nat} {M : Nat → Bool} (hg : ∀ e, e < E → g e < n) (hp : ∀ b, b < n → sp g t (spi g t E M p) E b = spi g t E M p b) : ∀ b, b < n → spi g t E M p b = spi g t E M n b := fix_eq (spi g t E M) n (fun p h => spi_stay hg p h) hp (spi_fix hg)
/-- marks stay within any set that holds the first ones and is kept by the edges -/
theorem sp_in {g t : Nat → Nat} {M : Nat → Bool} {E : Nat} {S : Nat → Prop} (h0 : ∀ b, M b = true → S b) (hs : ∀ e, e < E → S (g e) → S (t e)) : ∀ e, e ≤ E → ∀ b, sp g t M e b = true → S b := by
  intro e
  induction e with
  | zero => intro _ b; exact h0 b
  | succ e ih =>
    intro he b hb
    have h1 := ih (by omega)
    replace hb : (if sp g t M e (g e) = true ∧ b = t e then true else sp g t M e b) = true := hb
    split at hb
    · rename_i q
      rw [q.2]
      exact hs e (by omega) (h1 _ q.1)
    · exact h1 b hb
theorem spi_in {g t : Nat → Nat} {M : Nat → Bool} {E : Nat} {S : Nat → Prop} (h0 : ∀ b, M b = true → S b) (hs : ∀ e, e < E → S (g e) → S (t e)) : ∀ p b, spi g t E M p b = true → S b := by
  intro p
  induction p with
  | zero => exact h0
  | succ p ih => exact sp_in ih hs E (Nat.le_refl _)
/-- a Boolean for all of the first n -/
def allB (P : Nat → Bool) : Nat → Bool
  | 0 => true
  | n + 1 => allB P n && P n
theorem allB_iff {P : Nat → Bool} {n : Nat} : allB P n = true ↔ ∀ i, i < n → P i = true := by
  induction n with
  | zero => exact ⟨fun _ i hi => absurd hi (Nat.not_lt_zero _), fun _ => rfl⟩
  | succ n ih =>
    show (allB P n && P n) = true ↔ _
    rw [Bool.and_eq_true, ih]
    constructor
    · rintro ⟨a, b⟩ i hi
      by_cases h : i = n
      · subst h; exact b
      · exact a i (by omega)
    · intro h
      exact ⟨fun i hi => h i (by omega), h n (by omega)⟩
theorem allB_congr {P Q : Nat → Bool} {n : Nat} (h : ∀ i, i < n → P i = Q i) : allB P n = allB Q n := by
  induction n with
  | zero => rfl
  | succ n ih =>
    show (allB P n && P n) = (allB Q n && Q n)
    rw [ih (fun i hi => h i (by omega)), h n (by omega)]
theorem allB_f {P : Nat → Bool} {n i : Nat} (hi : i < n) (h : P i = false) : allB P n = false := by
  cases e : allB P n with
  | false => rfl
  | true => rw [allB_iff.mp e i hi] at h; cases h
