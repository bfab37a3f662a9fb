/-- the judgement of the comparison: it returns, with such an answer and such a heap -/
def ok {α : Type} (o : Option (α × Hp)) (Q : α → Hp → Prop) : Prop := ∃ x H', o = some (x, H') ∧ Q x H'
theorem ok_s {α : Type} {x : α} {H : Hp} {Q : α → Hp → Prop} (h : Q x H) : ok (some (x, H)) Q := ⟨x, H, rfl, h⟩
theorem ok_m {α : Type} {o : Option (α × Hp)} {Q Q' : α → Hp → Prop} (h : ok o Q) (hi : ∀ x H', Q x H' → Q' x H') : ok o Q' := by
  obtain ⟨x, H', e, q⟩ := h
  exact ⟨x, H', e, hi x H' q⟩
theorem ok_b {α β : Type} {o : Option (α × Hp)} {f : α → Hp → Option (β × Hp)} {P : α → Hp → Prop} {Q : β → Hp → Prop} (h : ok o P) (hf : ∀ x H', P x H' → ok (f x H') Q) : ok (bnd o f) Q := by
  obtain ⟨x, H', e, q⟩ := h
  rw [e]
  exact hf x H' q
theorem ok_if {α : Type} {c : Prop} {i : Decidable c} {a b : Option (α × Hp)} {Q : α → Hp → Prop} (h1 : c → ok a Q) (h2 : ¬ c → ok b Q) : ok (@ite _ c i a b) Q := by
  by_cases hc : c
  · rw [if_pos hc]; exact h1 hc
  · rw [if_neg hc]; exact h2 hc
theorem FUgt {n : Nat} (h : n < 1000000000) : n < FU := h
/-- a loop that counts up: c the first value of its counter, N how many turns -/
theorem ok_f1 {α : Type} {L : Nat → Int32 → Hp → Option (α × Hp)} {Q : α → Hp → Prop} (c N : Nat) (I : Nat → Hp → Prop) (step : ∀ i n H, i < N → I i H → (∀ H', I (i + 1) H' → ok (L n (nI (c + (i + 1))) H') Q) → ok (L (n + 1) (nI (c + i)) H) Q) (exit : ∀ n H, I N H → ok (L (n + 1) (nI (c + N)) H) Q) {x : Int32} {H : Hp} (hx : x = nI c) (h0 : I 0 H) {m : Nat} (hm : N < m) : ok (L m x H) Q := by
  have key : ∀ d i m H, i + d = N → d < m → I i H → ok (L m (nI (c + i)) H) Q := by
    intro d
    induction d with
    | zero =>
      intro i m H hi hm h
      obtain ⟨n, rfl⟩ : ∃ n, m = n + 1 := ⟨m - 1, by omega⟩
      have : i = N := by omega
      subst this
      exact exit n H h
    | succ d ih =>
      intro i m H hi hm h
      obtain ⟨n, rfl⟩ : ∃ n, m = n + 1 := ⟨m - 1, by omega⟩
      exact step i n H (by omega) h (fun H' h' => ih (i + 1) n H' (by omega) (by omega) h')
  subst hx
  exact key N 0 m H (by omega) hm h0
theorem ok_f2 {α A : Type} {L : Nat → A → Int32 → Hp → Option (α × Hp)} {Q : α → Hp → Prop} (c N : Nat) (I : Nat → A → Hp → Prop) (step : ∀ i n a H, i < N → I i a H → (∀ a' H', I (i + 1) a' H' → ok (L n a' (nI (c + (i + 1))) H') Q) → ok (L (n + 1) a (nI (c + i)) H) Q) (exit : ∀ n a H, I N a H → ok (L (n + 1) a (nI (c + N)) H) Q) {x : Int32} {a : A} {H : Hp} (hx : x = nI c) (h0 : I 0 a H) {m : Nat} (hm : N < m) : ok (L m a x H) Q := by
  have key : ∀ d i m a H, i + d = N → d < m → I i a H → ok (L m a (nI (c + i)) H) Q := by
    intro d
    induction d with
    | zero =>
      intro i m a H hi hm h
      obtain ⟨n, rfl⟩ : ∃ n, m = n + 1 := ⟨m - 1, by omega⟩
      have : i = N := by omega
      subst this
      exact exit n a H h
    | succ d ih =>
      intro i m a H hi hm h
      obtain ⟨n, rfl⟩ : ∃ n, m = n + 1 := ⟨m - 1, by omega⟩
      exact step i n a H (by omega) h (fun a' H' h' => ih (i + 1) n a' H' (by omega) (by omega) h')
  subst hx
  exact key N 0 m a H (by omega) hm h0
theorem ok_f3 {α A B : Type} {L : Nat → A → B → Int32 → Hp → Option (α × Hp)} {Q : α → Hp → Prop} (c N : Nat) (I : Nat → A → B → Hp → Prop) (step : ∀ i n a b H, i < N → I i a b H → (∀ a' b' H', I (i + 1) a' b' H' → ok (L n a' b' (nI (c + (i + 1))) H') Q) → ok (L (n + 1) a b (nI (c + i)) H) Q) (exit : ∀ n a b H, I N a b H → ok (L (n + 1) a b (nI (c + N)) H) Q) {x : Int32} {a : A} {b : B} {H : Hp} (hx : x = nI c) (h0 : I 0 a b H) {m : Nat} (hm : N < m) : ok (L m a b x H) Q := by
  have key : ∀ d i m a b H, i + d = N → d < m → I i a b H → ok (L m a b (nI (c + i)) H) Q := by
    intro d
    induction d with
    | zero =>
      intro i m a b H hi hm h
      obtain ⟨n, rfl⟩ : ∃ n, m = n + 1 := ⟨m - 1, by omega⟩
      have : i = N := by omega
      subst this
      exact exit n a b H h
    | succ d ih =>
      intro i m a b H hi hm h
      obtain ⟨n, rfl⟩ : ∃ n, m = n + 1 := ⟨m - 1, by omega⟩
      exact step i n a b H (by omega) h (fun a' b' H' h' => ih (i + 1) n a' b' H' (by omega) (by omega) h')
  subst hx
  exact key N 0 m a b H (by omega) hm h0
theorem ok_f4 {α A B C : Type} {L : Nat → A → B → C → Int32 → Hp → Option (α × Hp)} {Q : α → Hp → Prop} (c N : Nat) (I : Nat → A → B → C → Hp → Prop) (step : ∀ i n a b d H, i < N → I i a b d H → (∀ a' b' d' H', I (i + 1) a' b' d' H' → ok (L n a' b' d' (nI (c + (i + 1))) H') Q) → ok (L (n + 1) a b d (nI (c + i)) H) Q) (exit : ∀ n a b d H, I N a b d H → ok (L (n + 1) a b d (nI (c + N)) H) Q) {x : Int32} {a : A} {b : B} {d : C} {H : Hp} (hx : x = nI c) (h0 : I 0 a b d H) {m : Nat} (hm : N < m) : ok (L m a b d x H) Q := by
  have key : ∀ e i m a b d H, i + e = N → e < m → I i a b d H → ok (L m a b d (nI (c + i)) H) Q := by
    intro e
    induction e with
    | zero =>
      intro i m a b d H hi hm h
      obtain ⟨n, rfl⟩ : ∃ n, m = n + 1 := ⟨m - 1, by omega⟩
      have : i = N := by omega
      subst this
      exact exit n a b d H h
    | succ e ih =>
      intro i m a b d H hi hm h
      obtain ⟨n, rfl⟩ : ∃ n, m = n + 1 := ⟨m - 1, by omega⟩
      exact step i n a b d H (by omega) h (fun a' b' d' H' h' => ih (i + 1) n a' b' d' H' (by omega) (by omega) h')
  subst hx
  exact key N 0 m a b d H (by omega) hm h0
/-- the same, from 0 on -/
theorem ok_g1 {α : Type} {L : Nat → Int32 → Hp → Option (α × Hp)} {Q : α → Hp → Prop} (N : Nat) (I : Nat → Hp → Prop) (step : ∀ i n H, i < N → I i H → (∀ H', I (i + 1) H' → ok (L n (nI (i + 1)) H') Q) → ok (L (n + 1) (nI i) H) Q) (exit : ∀ n H, I N H → ok (L (n + 1) (nI N) H) Q) {x : Int32} {H : Hp} (hx : x = nI 0) (h0 : I 0 H) {m : Nat} (hm : N < m) : ok (L m x H) Q :=
  ok_f1 0 N I (fun i n H hi h K => by rw [Nat.zero_add]; exact step i n H hi h (fun H' h' => by have := K H' h'; rwa [Nat.zero_add] at this)) (fun n H h => by rw [Nat.zero_add]; exact exit n H h) hx h0 hm
theorem ok_g2 {α A : Type} {L : Nat → A → Int32 → Hp → Option (α × Hp)} {Q : α → Hp → Prop} (N : Nat) (I : Nat → A → Hp → Prop) (step : ∀ i n a H, i < N → I i a H → (∀ a' H', I (i + 1) a' H' → ok (L n a' (nI (i + 1)) H') Q) → ok (L (n + 1) a (nI i) H) Q) (exit : ∀ n a H, I N a H → ok (L (n + 1) a (nI N) H) Q) {x : Int32} {a : A} {H : Hp} (hx : x = nI 0) (h0 : I 0 a H) {m : Nat} (hm : N < m) : ok (L m a x H) Q :=
  ok_f2 0 N I (fun i n a H hi h K => by rw [Nat.zero_add]; exact step i n a H hi h (fun a' H' h' => by have := K a' H' h'; rwa [Nat.zero_add] at this)) (fun n a H h => by rw [Nat.zero_add]; exact exit n a H h) hx h0 hm
theorem ok_g3 {α A B : Type} {L : Nat → A → B → Int32 → Hp → Option (α × Hp)} {Q : α → Hp → Prop} (N : Nat) (I : Nat → A → B → Hp → Prop) (step : ∀ i n a b H, i < N → I i a b H → (∀ a' b' H', I (i + 1) a' b' H' → ok (L n a' b' (nI (i + 1)) H') Q) → ok (L (n + 1) a b (nI i) H) Q) (exit : ∀ n a b H, I N a b H → ok (L (n + 1) a b (nI N) H) Q) {x : Int32} {a : A} {b : B} {H : Hp} (hx : x = nI 0) (h0 : I 0 a b H) {m : Nat} (hm : N < m) : ok (L m a b x H) Q :=
  ok_f3 0 N I (fun i n a b H hi h K => by rw [Nat.zero_add]; exact step i n a b H hi h (fun a' b' H' h' => by have := K a' b' H' h'; rwa [Nat.zero_add] at this)) (fun n a b H h => by rw [Nat.zero_add]; exact exit n a b H h) hx h0 hm
theorem ok_g4 {α A B C : Type} {L : Nat → A → B → C → Int32 → Hp → Option (α × Hp)} {Q : α → Hp → Prop} (N : Nat) (I : Nat → A → B → C → Hp → Prop) (step : ∀ i n a b d H, i < N → I i a b d H → (∀ a' b' d' H', I (i + 1) a' b' d' H' → ok (L n a' b' d' (nI (i + 1)) H') Q) → ok (L (n + 1) a b d (nI i) H) Q) (exit : ∀ n a b d H, I N a b d H → ok (L (n + 1) a b d (nI N) H) Q) {x : Int32} {a : A} {b : B} {d : C} {H : Hp} (hx : x = nI 0) (h0 : I 0 a b d H) {m : Nat} (hm : N < m) : ok (L m a b d x H) Q :=
  ok_f4 0 N I (fun i n a b d H hi h K => by rw [Nat.zero_add]; exact step i n a b d H hi h (fun a' b' d' H' h' => by have := K a' b' d' H' h'; rwa [Nat.zero_add] at this)) (fun n a b d H h => by rw [Nat.zero_add]; exact exit n a b d H h) hx h0 hm
/-- a loop with a measure -/
theorem ok_w1 {α A : Type} {L : Nat → A → Hp → Option (α × Hp)} {Q : α → Hp → Prop} (I : Nat → A → Hp → Prop) (step : ∀ d n a H, I d a H → (∀ d' a' H', d' < d → I d' a' H' → ok (L n a' H') Q) → ok (L (n + 1) a H) Q) : ∀ {d m : Nat} {a : A} {H : Hp}, I d a H → d < m → ok (L m a H) Q := by
  intro d
  induction d using Nat.strongRecOn with
  | _ d ih =>
    intro m a H h hm
    obtain ⟨n, rfl⟩ : ∃ n, m = n + 1 := ⟨m - 1, by omega⟩
    exact step d n a H h (fun d' a' H' hd h' => ih d' hd h' (by omega))
theorem ok_w2 {α A B : Type} {L : Nat → A → B → Hp → Option (α × Hp)} {Q : α → Hp → Prop} (I : Nat → A → B → Hp → Prop) (step : ∀ d n a b H, I d a b H → (∀ d' a' b' H', d' < d → I d' a' b' H' → ok (L n a' b' H') Q) → ok (L (n + 1) a b H) Q) : ∀ {d m : Nat} {a : A} {b : B} {H : Hp}, I d a b H → d < m → ok (L m a b H) Q := by
  intro d
  induction d using Nat.strongRecOn with
  | _ d ih =>
    intro m a b H h hm
    obtain ⟨n, rfl⟩ : ∃ n, m = n + 1 := ⟨m - 1, by omega⟩
    exact step d n a b H h (fun d' a' b' H' hd h' => ih d' hd h' (by omega))
theorem ok_w3 {α A B C : Type} {L : Nat → A → B → C → Hp → Option (α × Hp)} {Q : α → Hp → Prop} (I : Nat → A → B → C → Hp → Prop) (step : ∀ d n a b c H, I d a b c H → (∀ d' a' b' c' H', d' < d → I d' a' b' c' H' → ok (L n a' b' c' H') Q) → ok (L (n + 1) a b c H) Q) : ∀ {d m : Nat} {a : A} {b : B} {c : C} {H : Hp}, I d a b c H → d < m → ok (L m a b c H) Q := by
  intro d
  induction d using Nat.strongRecOn with
  | _ d ih =>
    intro m a b c H h hm
    obtain ⟨n, rfl⟩ : ∃ n, m = n + 1 := ⟨m - 1, by omega⟩
    exact step d n a b c H h (fun d' a' b' c' H' hd h' => ih d' hd h' (by omega))
/-- numbers as words -/
def N1 : Int32 := -1
def bI (b : Bool) : Int32 := if b = true then 1 else 0
theorem n_neg : -(nI 1) = N1 := by decide +kernel
theorem l0 : (0 : Int32) = nI 0 := rfl
theorem l1 : (1 : Int32) = nI 1 := rfl
theorem l2 : (2 : Int32) = nI 2 := rfl
theorem l3 : (3 : Int32) = nI 3 := rfl
theorem l4 : (4 : Int32) = nI 4 := rfl
theorem l5 : (5 : Int32) = nI 5 := rfl
theorem l6 : (6 : Int32) = nI 6 := rfl
theorem l7 : (7 : Int32) = nI 7 := rfl
theorem l8 : (8 : Int32) = nI 8 := rfl
theorem l9 : (9 : Int32) = nI 9 := rfl
theorem l16 : (16 : Int32) = nI 16 := rfl
theorem l20 : (20 : Int32) = nI 20 := rfl
theorem l21 : (21 : Int32) = nI 21 := rfl
theorem l30 : (30 : Int32) = nI 30 := rfl
theorem l40 : (40 : Int32) = nI 40 := rfl
theorem nI_sub {a b : Nat} (h : b ≤ a) : nI a - nI b = nI (a - b) := by
  have e : nI a = nI (a - b) + nI b := by rw [nIadd]; congr 1; omega
  rw [e]
  exact Int32.add_sub_cancel _ _
theorem N1_toInt : N1.toInt = -1 := by decide +kernel
theorem n_eqN {a : Nat} (ha : a < 2 ^ 31) : (nI a = N1) = False := by
  apply eq_false
  intro h
  have h1 := nI_toInt ha
  rw [h, N1_toInt] at h1
  omega
theorem N_eqn {a : Nat} (ha : a < 2 ^ 31) : (N1 = nI a) = False := by
  apply eq_false
  intro h
  exact (n_eqN ha).mp h.symm
theorem N_lt {a : Nat} (ha : a < 2 ^ 31) : (N1 < nI a) = True := by
  apply eq_true
  rw [Int32.lt_iff_toInt_lt, N1_toInt, nI_toInt ha]; omega
theorem n_ltN {a : Nat} (ha : a < 2 ^ 31) : (nI a < N1) = False := by
  apply eq_false
  rw [Int32.lt_iff_toInt_lt, N1_toInt, nI_toInt ha]; omega
theorem N_le {a : Nat} (ha : a < 2 ^ 31) : (N1 ≤ nI a) = True := by
  apply eq_true
  rw [Int32.le_iff_toInt_le, N1_toInt, nI_toInt ha]; omega
theorem n_leN {a : Nat} (ha : a < 2 ^ 31) : (nI a ≤ N1) = False := by
  apply eq_false
  rw [Int32.le_iff_toInt_le, N1_toInt, nI_toInt ha]; omega
theorem nI_m0 {a : Nat} (ha : a < 2 ^ 31) : (nI a < nI 0) = False := by
  apply eq_false
  rw [nI_lt_iff ha (by decide)]; omega
theorem b_nar (b : Bool) : vp_nar .boolean (bI b) = bI b := by cases b <;> rfl
theorem b_nar0 : vp_nar .boolean (nI 0) = bI false := rfl
theorem b_nar1 : vp_nar .boolean (nI 1) = bI true := rfl
theorem b_eq0 (b : Bool) : (bI b = nI 0) = (b = false) := by cases b <;> simp [bI] <;> decide
theorem b_eq1 (b : Bool) : (bI b = nI 1) = (b = true) := by cases b <;> simp [bI] <;> decide
theorem b_eqb (a b : Bool) : (bI a = bI b) = (a = b) := by cases a <;> cases b <;> simp [bI]
theorem gI_eq (H : Hp) (g k i : Nat) (v : Int32) : gI (sI H g k i v) g k i = v := by rw [gI_sI, if_pos ⟨rfl, rfl, rfl⟩]
theorem gJ_eq (H : Hp) (g k i : Nat) (v : Int64) : gJ (sJ H g k i v) g k i = v := by rw [gJ_sJ, if_pos ⟨rfl, rfl, rfl⟩]
theorem gR_eq (H : Hp) (g k i : Nat) (v : Option Nat) : gR (sR H g k i v) g k i = v := by rw [gR_sR, if_pos ⟨rfl, rfl, rfl⟩]
theorem gI_ne {H : Hp} {g k i : Nat} {v : Int32} {a b j : Nat} (h : ¬ (a = g ∧ b = k ∧ j = i)) : gI (sI H g k i v) a b j = gI H a b j := by rw [gI_sI, if_neg h]
theorem gJ_ne {H : Hp} {g k i : Nat} {v : Int64} {a b j : Nat} (h : ¬ (a = g ∧ b = k ∧ j = i)) : gJ (sJ H g k i v) a b j = gJ H a b j := by rw [gJ_sJ, if_neg h]
theorem gR_ne {H : Hp} {g k i : Nat} {v : Option Nat} {a b j : Nat} (h : ¬ (a = g ∧ b = k ∧ j = i)) : gR (sR H g k i v) a b j = gR H a b j := by rw [gR_sR, if_neg h]
theorem gb_t {α : Type} (k : Option α) : gb true k = k := rfl
theorem bnd_t {α β : Type} (a : α) (H : Hp) (f : α → Hp → Option β) : bnd (some (a, H)) f = f a H := rfl
/-- what hasn't changed -/
abbrev TT : Nat → Bool := fun _ => true
theorem Ch.gi {rs : Nat → Bool} {L : List (Nat × Nat × Option Nat)} {H H' : Hp} (q : Ch rs L H H') (g k i : Nat) (h : (rsg rs g && inL L (gc g) k i) = false) : gI H' g k i = gI H g k i := (q g k i h).1
theorem Ch.gj {rs : Nat → Bool} {L : List (Nat × Nat × Option Nat)} {H H' : Hp} (q : Ch rs L H H') (g k i : Nat) (h : (rsg rs g && inL L (gc g) k i) = false) : gJ H' g k i = gJ H g k i := (q g k i h).2.1
theorem Ch.gr {rs : Nat → Bool} {L : List (Nat × Nat × Option Nat)} {H H' : Hp} (q : Ch rs L H H') (g k i : Nat) (h : (rsg rs g && inL L (gc g) k i) = false) : gR H' g k i = gR H g k i := (q g k i h).2.2
/-- join of the reference -/
theorem x9_join {H : Hp} {a b : Nat} {S : Nat → Nat} (ha : a < 21) (hb : b < 21) (hS : ∀ i, i < 21 → gI H 0 36 i = nI (S i)) (hS2 : ∀ i, i < 21 → S i < 21) : ok (f_X9_join (nI a) (nI b) H) (fun _ H' => Ch TT [(0, 36, none)] H H' ∧ ∀ i, i < 21 → gI H' 0 36 i = nI (if S i = S a then S b else S i)) := by
  unfold f_X9_join
  simp (disch := omega) only [gd_nI, nI_clamp, vl, hS]
  have sa := hS2 a ha
  have sb := hS2 b hb
  refine ok_g1 21 (fun i H' => Ch TT [(0, 36, none)] H H' ∧ ∀ j, j < 21 → gI H' 0 36 j = nI (if j < i ∧ S j = S a then S b else S j)) ?_ ?_ rfl ⟨Ch.rf H, fun j hj => by simp [hS j hj]⟩ (FUgt (by decide))
  · intro i n H1 hi ⟨hC, hI⟩ K
    have si := hS2 i hi
    have hi1 : gI H1 0 36 i = nI (S i) := by rw [hI i hi, if_neg (by omega)]
    rw [L_X9_join_18]
    simp (disch := omega) only [l21, l1, nI_le_iff, gd_nI, nI_clamp, if_neg, hi1, nI_inj, vl, nIadd, hl]
    refine ok_if (fun hc => ?_) (fun hc => ?_)
    · refine K _ ⟨?_, fun j hj => ?_⟩
      · exact Ch.sI rfl rfl hC
      rw [gI_sI]
      by_cases hj2 : j = i
      · subst hj2
        rw [if_pos ⟨rfl, rfl, rfl⟩, if_pos ⟨by omega, hc⟩]
      · rw [if_neg (by omega), hI j hj]
        have : (j < i ∧ S j = S a) ↔ (j < i + 1 ∧ S j = S a) := by constructor <;> (rintro ⟨q1, q2⟩; exact ⟨by omega, q2⟩)
        simp only [this]
    · refine K _ ⟨hC, fun j hj => ?_⟩
      rw [hI j hj]
      have : (j < i ∧ S j = S a) ↔ (j < i + 1 ∧ S j = S a) := by
        constructor
        · rintro ⟨q1, q2⟩; exact ⟨by omega, q2⟩
        · rintro ⟨q1, q2⟩
          refine ⟨?_, q2⟩
          by_cases hj2 : j = i
          · subst hj2; exact absurd q2 hc
          · omega
      simp only [this]
  · intro n H1 ⟨hC, hI⟩
    rw [L_X9_join_18]
    simp (disch := omega) only [l21, nI_le_iff, if_pos]
    refine ok_s ⟨hC, fun j hj => ?_⟩
    rw [hI j hj]
    simp only [hj, true_and]
