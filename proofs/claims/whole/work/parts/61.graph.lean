/-- footprints: what a fact reads, against what was changed -/
def cfl (q : Nat × Nat × Option Nat) (g : Nat) (f : Nat × Option Nat) : Bool := q.1 == g && (q.2.1 == f.1 && (match q.2.2, f.2 with
  | some a, some b => a == b
  | _, _ => true))
def nol (L : List (Nat × Nat × Option Nat)) (g : Nat) (fp : List (Nat × Option Nat)) : Bool := L.all (fun q => fp.all (fun f => !cfl q g f))
theorem nol_in {L : List (Nat × Nat × Option Nat)} {g : Nat} {fp : List (Nat × Option Nat)} (h : nol L g fp = true) {k : Nat} {o : Option Nat} (hk : (k, o) ∈ fp) {i : Nat} (hi : slo o i = true) : inL L g k i = false := by
  cases e : inL L g k i with
  | false => rfl
  | true =>
    exfalso
    obtain ⟨q, hq, h1, h2, h3⟩ := inL_iff.mp e
    have h4 := List.all_eq_true.mp (List.all_eq_true.mp h q hq) (k, o) hk
    obtain ⟨q1, q2, q3⟩ := q
    simp only at h1 h2 h3
    subst h1 h2
    unfold cfl at h4
    simp only [beq_self_eq_true, Bool.true_and] at h4
    cases q3 with
    | none => simp at h4
    | some a =>
      cases o with
      | none => simp at h4
      | some b =>
        simp only [slo, beq_iff_eq] at h3 hi
        subst h3 hi
        simp at h4
theorem Ch.m {rs : Nat → Bool} {L : List (Nat × Nat × Option Nat)} {H H' : Hp} (q : Ch rs L H H') {fp : List (Nat × Option Nat)} (h : nol L 0 fp = true) {k : Nat} {o : Option Nat} (hk : (k, o) ∈ fp) {i : Nat} (hi : slo o i = true) : gI H' 0 k i = gI H 0 k i ∧ gJ H' 0 k i = gJ H 0 k i := by
  have := q 0 k i (by show (true && inL L 0 k i) = false; rw [nol_in h hk hi]; rfl)
  exact ⟨this.1, this.2.1⟩
theorem Ch.w {rs : Nat → Bool} {L : List (Nat × Nat × Option Nat)} {H H' : Hp} (q : Ch rs L H H') {fp : List (Nat × Option Nat)} (h : nol L 1 fp = true) {k : Nat} {o : Option Nat} (hk : (k, o) ∈ fp) {i : Nat} (hi : slo o i = true) : gI H' 1 k i = gI H 1 k i ∧ gJ H' 1 k i = gJ H 1 k i ∧ gR H' 1 k i = gR H 1 k i := q 1 k i (by show (true && inL L 1 k i) = false; rw [nol_in h hk hi]; rfl)
theorem Ch.c {rs : Nat → Bool} {L : List (Nat × Nat × Option Nat)} {H H' : Hp} (q : Ch rs L H H') {fp : List (Nat × Option Nat)} (h : nol L 2 fp = true) {r k : Nat} {o : Option Nat} (hk : (k, o) ∈ fp) {i : Nat} (hi : slo o i = true) : gI H' (r + 2) k i = gI H (r + 2) k i ∧ gJ H' (r + 2) k i = gJ H (r + 2) k i := by
  have := q (r + 2) k i (by show (rs r && inL L 2 k i) = false; rw [nol_in h hk hi]; exact Bool.and_false _)
  exact ⟨this.1, this.2.1⟩
/-- another routine's cells -/
theorem Ch.o {rs : Nat → Bool} {L : List (Nat × Nat × Option Nat)} {H H' : Hp} (q : Ch rs L H H') {r : Nat} (h : rs r = false) (k i : Nat) : gI H' (r + 2) k i = gI H (r + 2) k i ∧ gJ H' (r + 2) k i = gJ H (r + 2) k i := by
  have := q (r + 2) k i (by show (rs r && inL L 2 k i) = false; rw [h]; rfl)
  exact ⟨this.1, this.2.1⟩
/-- a routine's graph: blocks, edges, kind, call, from, to, guess, back -/
abbrev Gr : Type := Nat × Nat × (Nat → Nat) × (Nat → Int32) × (Nat → Nat) × (Nat → Nat) × (Nat → Nat) × (Nat → Bool)
def qB (G : Gr) : Nat := G.1
def qE (G : Gr) : Nat := G.2.1
def qK (G : Gr) : Nat → Nat := G.2.2.1
def qC (G : Gr) : Nat → Int32 := G.2.2.2.1
def qF (G : Gr) : Nat → Nat := G.2.2.2.2.1
def qT (G : Gr) : Nat → Nat := G.2.2.2.2.2.1
def qG (G : Gr) : Nat → Nat := G.2.2.2.2.2.2.1
def qW (G : Gr) : Nat → Bool := G.2.2.2.2.2.2.2
/-- edges out of and into a block, among the first n -/
def oN (G : Gr) (b n : Nat) : Nat := cntP (fun e => decide (qF G e = b)) n
def iN (G : Gr) (b n : Nat) : Nat := cntP (fun e => decide (qT G e = b)) n
theorem cntP_le (P : Nat → Bool) (n : Nat) : cntP P n ≤ n := by
  induction n with
  | zero => exact Nat.le_refl 0
  | succ n ih =>
    show cntP P n + (if P n = true then 1 else 0) ≤ n + 1
    split <;> omega
theorem cntP_s (P : Nat → Bool) (n : Nat) : cntP P (n + 1) = cntP P n + if P n = true then 1 else 0 := rfl
theorem cntP_mono (P : Nat → Bool) {m n : Nat} (h : m ≤ n) : cntP P m ≤ cntP P n := by
  induction n with
  | zero => have : m = 0 := by omega
            subst this; exact Nat.le_refl _
  | succ n ih =>
    by_cases hm : m = n + 1
    · subst hm; exact Nat.le_refl _
    · have := ih (by omega)
      rw [cntP_s]; omega
theorem cntP_ex {P : Nat → Bool} {n k : Nat} (h : k < cntP P n) : ∃ e, e < n ∧ P e = true ∧ cntP P e = k := by
  induction n with
  | zero => exact absurd h (Nat.not_lt_zero _)
  | succ n ih =>
    by_cases hk : k < cntP P n
    · obtain ⟨e, a, b, c⟩ := ih hk
      exact ⟨e, by omega, b, c⟩
    · rw [cntP_s] at h
      by_cases hp : P n = true
      · rw [if_pos hp] at h
        exact ⟨n, by omega, hp, by omega⟩
      · rw [if_neg hp] at h; omega
theorem cntP_lt {P : Nat → Bool} {e n : Nat} (h : e < n) (hp : P e = true) : cntP P e < cntP P n := by
  have h1 := cntP_mono P (show e + 1 ≤ n from h)
  rw [cntP_s, if_pos hp] at h1
  omega
theorem cntP_un {P : Nat → Bool} {e f : Nat} (he : P e = true) (hf : P f = true) (h : cntP P e = cntP P f) : e = f := by
  rcases Nat.lt_trichotomy e f with q | q | q
  · have := cntP_lt q he; omega
  · exact q
  · have := cntP_lt q hf; omega
/-- it is a graph within the limits -/
def WG (G : Gr) : Prop := qB G ≤ 20 ∧ qE G ≤ 40 ∧ (∀ b, b < qB G → qK G b ≤ 4) ∧ (∀ e, e < qE G → qF G e < qB G ∧ qT G e < qB G ∧ qG G e ≤ 1000000) ∧ (∀ b, b < qB G → oN G b (qE G) ≤ 4) ∧ (∀ b, b < qB G → (qK G b = 2 ∧ ∃ c, c < 8 ∧ qC G b = nI c) ∨ (qK G b ≠ 2 ∧ qC G b = N1))
/-- the reference's picture of a graph -/
def MG (r : Nat) (G : Gr) (H : Hp) : Prop := gI H 0 1 r = nI (qB G) ∧ gI H 0 2 r = nI (qE G) ∧ (∀ b, b < qB G → gI H 0 4 (20 * r + b) = nI (qK G b)) ∧ (∀ b, b < qB G → gI H 0 5 (20 * r + b) = qC G b) ∧ (∀ e, e < qE G → gI H 0 6 (40 * r + e) = nI (qF G e)) ∧ (∀ e, e < qE G → gI H 0 7 (40 * r + e) = nI (qT G e)) ∧ (∀ e, e < qE G → gI H 0 8 (40 * r + e) = nI (qG G e)) ∧ (∀ e, e < qE G → gI H 0 9 (40 * r + e) = bI (qW G e))
def fpMG : List (Nat × Option Nat) := [(1, none), (2, none), (4, none), (5, none), (6, none), (7, none), (8, none), (9, none)]
theorem MG_ch {rs : Nat → Bool} {L : List (Nat × Nat × Option Nat)} {H H' : Hp} {r : Nat} {G : Gr} (h : MG r G H) (q : Ch rs L H H') (hL : nol L 0 fpMG = true) : MG r G H' := by
  obtain ⟨h1, h2, h3, h4, h5, h6, h7, h8⟩ := h
  refine ⟨?_, ?_, fun b hb => ?_, fun b hb => ?_, fun e he => ?_, fun e he => ?_, fun e he => ?_, fun e he => ?_⟩
  · rw [(q.m hL (k := 1) (o := none) (by simp [fpMG]) rfl).1]; exact h1
  · rw [(q.m hL (k := 2) (o := none) (by simp [fpMG]) rfl).1]; exact h2
  · rw [(q.m hL (k := 4) (o := none) (by simp [fpMG]) rfl).1]; exact h3 b hb
  · rw [(q.m hL (k := 5) (o := none) (by simp [fpMG]) rfl).1]; exact h4 b hb
  · rw [(q.m hL (k := 6) (o := none) (by simp [fpMG]) rfl).1]; exact h5 e he
  · rw [(q.m hL (k := 7) (o := none) (by simp [fpMG]) rfl).1]; exact h6 e he
  · rw [(q.m hL (k := 8) (o := none) (by simp [fpMG]) rfl).1]; exact h7 e he
  · rw [(q.m hL (k := 9) (o := none) (by simp [fpMG]) rfl).1]; exact h8 e he
/-- the class's picture of a graph -/
def CG (r : Nat) (G : Gr) (H : Hp) : Prop := gI H (r + 2) 1 10 = nI (qB G) ∧ gI H (r + 2) 1 11 = nI (qE G) ∧ (∀ b, b < qB G → gI H (r + 2) 8 b = nI (qK G b)) ∧ (∀ b, b < qB G → gI H (r + 2) 9 b = qC G b) ∧ (∀ b, b < 20 → gI H (r + 2) 10 b = nI (oN G b (qE G))) ∧ (∀ b, b < 20 → gI H (r + 2) 11 b = nI (iN G b (qE G))) ∧ (∀ e, e < qE G → gI H (r + 2) 12 (4 * qF G e + oN G (qF G e) e) = nI e) ∧ (∀ e, e < qE G → gI H (r + 2) 13 e = nI (qF G e)) ∧ (∀ e, e < qE G → gI H (r + 2) 14 e = nI (qT G e)) ∧ (∀ e, e < qE G → gI H (r + 2) 15 e = nI (qG G e)) ∧ (∀ e, e < qE G → gI H (r + 2) 16 e = bI (qW G e))
def fpCG : List (Nat × Option Nat) := [(1, some 10), (1, some 11), (8, none), (9, none), (10, none), (11, none), (12, none), (13, none), (14, none), (15, none), (16, none)]
theorem CG_ch {rs : Nat → Bool} {L : List (Nat × Nat × Option Nat)} {H H' : Hp} {r : Nat} {G : Gr} (h : CG r G H) (q : Ch rs L H H') (hL : nol L 2 fpCG = true) : CG r G H' := by
  obtain ⟨h1, h2, h3, h4, h5, h6, h7, h8, h9, h10, h11⟩ := h
  refine ⟨?_, ?_, fun b hb => ?_, fun b hb => ?_, fun b hb => ?_, fun b hb => ?_, fun e he => ?_, fun e he => ?_, fun e he => ?_, fun e he => ?_, fun e he => ?_⟩
  · rw [(q.c hL (k := 1) (o := some 10) (by simp [fpCG]) rfl).1]; exact h1
  · rw [(q.c hL (k := 1) (o := some 11) (by simp [fpCG]) rfl).1]; exact h2
  · rw [(q.c hL (k := 8) (o := none) (by simp [fpCG]) rfl).1]; exact h3 b hb
  · rw [(q.c hL (k := 9) (o := none) (by simp [fpCG]) rfl).1]; exact h4 b hb
  · rw [(q.c hL (k := 10) (o := none) (by simp [fpCG]) rfl).1]; exact h5 b hb
  · rw [(q.c hL (k := 11) (o := none) (by simp [fpCG]) rfl).1]; exact h6 b hb
  · rw [(q.c hL (k := 12) (o := none) (by simp [fpCG]) rfl).1]; exact h7 e he
  · rw [(q.c hL (k := 13) (o := none) (by simp [fpCG]) rfl).1]; exact h8 e he
  · rw [(q.c hL (k := 14) (o := none) (by simp [fpCG]) rfl).1]; exact h9 e he
  · rw [(q.c hL (k := 15) (o := none) (by simp [fpCG]) rfl).1]; exact h10 e he
  · rw [(q.c hL (k := 16) (o := none) (by simp [fpCG]) rfl).1]; exact h11 e he
theorem CG_o {rs : Nat → Bool} {L : List (Nat × Nat × Option Nat)} {H H' : Hp} {r : Nat} {G : Gr} (h : CG r G H) (q : Ch rs L H H') (hr : rs r = false) : CG r G H' := by
  obtain ⟨h1, h2, h3, h4, h5, h6, h7, h8, h9, h10, h11⟩ := h
  refine ⟨?_, ?_, fun b hb => ?_, fun b hb => ?_, fun b hb => ?_, fun b hb => ?_, fun e he => ?_, fun e he => ?_, fun e he => ?_, fun e he => ?_, fun e he => ?_⟩
  · rw [(q.o hr _ _).1]; exact h1
  · rw [(q.o hr _ _).1]; exact h2
  · rw [(q.o hr _ _).1]; exact h3 b hb
  · rw [(q.o hr _ _).1]; exact h4 b hb
  · rw [(q.o hr _ _).1]; exact h5 b hb
  · rw [(q.o hr _ _).1]; exact h6 b hb
  · rw [(q.o hr _ _).1]; exact h7 e he
  · rw [(q.o hr _ _).1]; exact h8 e he
  · rw [(q.o hr _ _).1]; exact h9 e he
  · rw [(q.o hr _ _).1]; exact h10 e he
  · rw [(q.o hr _ _).1]; exact h11 e he
