/-- shortest ways from those that have too much, with a potential -/
abbrev FZ : Type := Nat → Int
def upZ (f : FZ) (x : Nat) (v : Int) : FZ := fun y => if y = x then v else f y
theorem upZ_e (f : FZ) (x : Nat) (v : Int) : upZ f x v x = v := if_pos rfl
theorem upZ_n {f : FZ} {x y : Nat} {v : Int} (h : y ≠ x) : upZ f x v y = f y := if_neg h
def upO (f : Nat → Option Nat) (x : Nat) (v : Option Nat) : Nat → Option Nat := fun y => if y = x then v else f y
theorem upO_e (f : Nat → Option Nat) (x : Nat) (v : Option Nat) : upO f x v x = v := if_pos rfl
theorem upO_n {f : Nat → Option Nat} {x y : Nat} {v : Option Nat} (h : y ≠ x) : upO f x v y = f y := if_neg h
/-- arcs: N nodes, M arcs, from U to V at cost C, which live -/
abbrev Ac : Type := Nat × Nat × (Nat → Nat) × (Nat → Nat) × FZ × (Nat → Bool)
def zN (a : Ac) : Nat := a.1
def zM (a : Ac) : Nat := a.2.1
def zU (a : Ac) : Nat → Nat := a.2.2.1
def zV (a : Ac) : Nat → Nat := a.2.2.2.1
def zC (a : Ac) : FZ := a.2.2.2.2.1
def zA (a : Ac) : Nat → Bool := a.2.2.2.2.2
def zAW (a : Ac) (K : Int) : Prop := ∀ j, j < zM a → zU a j < zN a ∧ zV a j < zN a ∧ zC a j ≤ K
def zAR (a : Ac) (p : FZ) : Prop := ∀ j, j < zM a → zA a j = true → p (zV a j) ≤ p (zU a j) + zC a j
def zAX (a : Ac) (Fr : Int) (far : FZ) (n : Nat) : Prop := ∀ j, j < n → zA a j = true → far (zU a j) ≠ Fr → far (zV a j) ≤ far (zU a j) + zC a j
/-- one node -/
def zBN (a : Ac) (Fr K : Int) (p X : FZ) (n : Nat) (far : FZ) (bY : Nat → Option Nat) (tm : Nat → Nat) (v : Nat) : Prop :=
  tm v ≤ n ∧ ((far v = Fr ∧ bY v = none ∧ X v ≤ 0) ∨ (far v ≠ Fr ∧ p v ≤ far v ∧ far v ≤ K * (n : Int) ∧ (0 < X v → far v ≤ 0) ∧ ((bY v = none ∧ 0 < X v ∧ far v = 0) ∨ (∃ j, bY v = some j ∧ j < zM a ∧ zA a j = true ∧ zV a j = v ∧ far (zU a j) ≠ Fr ∧ far (zU a j) + zC a j ≤ far v ∧ (far (zU a j) - p (zU a j) < far v - p v ∨ (far (zU a j) - p (zU a j) = far v - p v ∧ tm (zU a j) < tm v))))))
def zBI (a : Ac) (Fr K : Int) (p X : FZ) (n : Nat) (far : FZ) (bY : Nat → Option Nat) : Prop := ∃ tm : Nat → Nat, ∀ v, v < zN a → zBN a Fr K p X n far bY tm v
theorem zBI_up {a : Ac} {Fr K : Int} {p X : FZ} {n n' : Nat} {far : FZ} {bY : Nat → Option Nat} (hK : 0 ≤ K) (h : zBI a Fr K p X n far bY) (hn : n ≤ n') : zBI a Fr K p X n' far bY := by
  obtain ⟨tm, h⟩ := h
  refine ⟨tm, fun v hv => ?_⟩
  obtain ⟨h1, h2⟩ := h v hv
  have hm : K * (n : Int) ≤ K * (n' : Int) := Int.mul_le_mul_of_nonneg_left (by omega) hK
  refine ⟨by omega, ?_⟩
  rcases h2 with h2 | ⟨q1, q2, q3, q4, q5⟩
  · exact .inl h2
  · exact .inr ⟨q1, q2, by omega, q4, q5⟩
theorem zBI_0 {a : Ac} {Fr K : Int} {p X far : FZ} {bY : Nat → Option Nat} (hF : 0 < Fr) (hp : ∀ v, v < zN a → 0 < X v → p v ≤ 0) (h : ∀ v, v < zN a → bY v = none ∧ far v = if 0 < X v then 0 else Fr) : zBI a Fr K p X 0 far bY := by
  refine ⟨fun _ => 0, fun v hv => ⟨Nat.le_refl _, ?_⟩⟩
  obtain ⟨h1, h2⟩ := h v hv
  by_cases hx : 0 < X v
  · rw [if_pos hx] at h2
    have := hp v hv hx
    exact .inr ⟨by omega, by omega, by rw [h2]; simp, fun _ => by omega, .inl ⟨h1, hx, h2⟩⟩
  · rw [if_neg hx] at h2
    exact .inl ⟨h2, h1, by omega⟩
/-- one arc looked at -/
theorem zBI_st {a : Ac} {Fr K : Int} {p X : FZ} {n : Nat} {far : FZ} {bY : Nat → Option Nat} (wA : zAW a K) (hR : zAR a p) (hK : 0 ≤ K) (hF : K * (n : Int) + K < Fr) (h : zBI a Fr K p X n far bY) {j : Nat} (hj : j < zM a) (ha : zA a j = true) (hu : far (zU a j) ≠ Fr) (hlt : far (zU a j) + zC a j < far (zV a j)) : zBI a Fr K p X (n + 1) (upZ far (zV a j) (far (zU a j) + zC a j)) (upO bY (zV a j) (some j)) := by
  obtain ⟨tm, h⟩ := h
  obtain ⟨wu, wv, wc⟩ := wA j hj
  have hr := hR j hj ha
  have hne : zU a j ≠ zV a j := by
    intro e
    rw [e] at hlt hr
    omega
  obtain ⟨t1, t2⟩ := h _ wu
  rcases t2 with t2 | ⟨u1, u2, u3, u4, u5⟩
  · exact absurd t2.1 hu
  have hm : K * ((n + 1 : Nat) : Int) = K * (n : Int) + K := by
    rw [Int.natCast_add, Int.mul_add]; simp
  obtain ⟨s1, s2⟩ := h _ wv
  refine ⟨fun x => if x = zV a j then n + 1 else tm x, fun v hv => ?_⟩
  by_cases e : v = zV a j
  · subst e
    refine ⟨by simp, .inr ⟨?_, ?_, ?_, ?_, .inr ⟨j, upO_e _ _ _, hj, ha, rfl, ?_, ?_, ?_⟩⟩⟩
    · rw [upZ_e]; omega
    · rw [upZ_e]; omega
    · rw [upZ_e]; omega
    · intro hx
      rw [upZ_e]
      rcases s2 with s2 | ⟨_, _, _, s3, _⟩
      · omega
      · have := s3 hx; omega
    · rw [upZ_n hne]; exact hu
    · rw [upZ_n hne, upZ_e]; omega
    · rw [upZ_n hne, upZ_e]
      by_cases he : far (zU a j) - p (zU a j) < far (zU a j) + zC a j - p (zV a j)
      · exact .inl he
      · refine .inr ⟨by omega, ?_⟩
        dsimp only
        rw [if_neg hne, if_pos rfl]; omega
  · obtain ⟨z1, z2⟩ := h v hv
    refine ⟨by dsimp only; rw [if_neg e]; omega, ?_⟩
    rw [upZ_n e, upO_n e]
    rcases z2 with z2 | ⟨q1, q2, q3, q4, q5⟩
    · exact .inl z2
    · refine .inr ⟨q1, q2, by omega, q4, ?_⟩
      rcases q5 with q5 | ⟨i, i1, i2, i3, i4, i5, i6, i7⟩
      · exact .inl q5
      · refine .inr ⟨i, i1, i2, i3, i4, ?_⟩
        by_cases e2 : zU a i = zV a j
        · rw [e2] at i5 i6 i7 ⊢
          rw [upZ_e]
          refine ⟨by omega, by omega, .inl (by omega)⟩
        · rw [upZ_n e2]
          refine ⟨i5, i6, ?_⟩
          dsimp only
          rw [if_neg e2, if_neg e]
          exact i7
/-- the settled ones -/
def zST (a : Ac) (Fr : Int) (p far : FZ) (Z : Nat → Bool) : Prop := (∀ u, u < zN a → Z u = true → far u ≠ Fr ∧ ∀ w, w < zN a → Z w = false → far w ≠ Fr → far u - p u ≤ far w - p w) ∧ ∀ j, j < zM a → zA a j = true → Z (zU a j) = true → far (zV a j) ≤ far (zU a j) + zC a j
def zSS (a : Ac) (Fr : Int) (p far : FZ) (k : Nat) : Prop := zAX a Fr far (zM a) ∨ ∃ Z, zST a Fr p far Z ∧ k ≤ cntP Z (zN a)
def zSW (a : Ac) (Fr : Int) (p far : FZ) (k n : Nat) (fl : Bool) : Prop := (fl = false → zAX a Fr far n) ∧ (zAX a Fr far (zM a) ∨ ∃ Z w, zST a Fr p far Z ∧ w < zN a ∧ Z w = false ∧ far w ≠ Fr ∧ (∀ v, v < zN a → Z v = false → far v ≠ Fr → far w - p w ≤ far v - p v) ∧ (∀ j, j < n → zA a j = true → zU a j = w → far (zV a j) ≤ far w + zC a j) ∧ k ≤ cntP Z (zN a))
theorem zSS_0 {a : Ac} {Fr : Int} {p far : FZ} : zSS a Fr p far 0 := .inr ⟨fun _ => false, ⟨fun _ _ h => absurd h (by simp), fun _ _ _ h => absurd h (by simp)⟩, Nat.zero_le _⟩
theorem zSS_N {a : Ac} {Fr K : Int} {p far : FZ} (wA : zAW a K) (h : zSS a Fr p far (zN a)) : zAX a Fr far (zM a) := by
  rcases h with h | ⟨Z, h1, h2⟩
  · exact h
  · have hl := cntP_le Z (zN a)
    have ha := cntP_all (show cntP Z (zN a) = zN a by omega)
    exact fun j hj hc _ => h1.2 j hj hc (ha _ (wA j hj).1)
theorem zleast (P : Nat → Prop) (f : FZ) : ∀ n, (∃ v, v < n ∧ P v) → ∃ w, w < n ∧ P w ∧ ∀ v, v < n → P v → f w ≤ f v := by
  intro n
  induction n with
  | zero => rintro ⟨v, h, _⟩; omega
  | succ n ih =>
    intro h
    by_cases h1 : ∃ v, v < n ∧ P v
    · obtain ⟨w, w1, w2, w3⟩ := ih h1
      by_cases h2 : P n ∧ f n < f w
      · refine ⟨n, by omega, h2.1, fun v hv pv => ?_⟩
        by_cases e : v = n
        · subst e; omega
        · have := w3 v (by omega) pv; omega
      · refine ⟨w, by omega, w2, fun v hv pv => ?_⟩
        by_cases e : v = n
        · subst e
          have : ¬ f v < f w := fun q => h2 ⟨pv, q⟩
          omega
        · exact w3 v (by omega) pv
    · obtain ⟨v, v1, v2⟩ := h
      have e : v = n := by
        by_cases e : v = n
        · exact e
        · exact absurd ⟨v, by omega, v2⟩ h1
      subst e
      refine ⟨v, by omega, v2, fun u hu pu => ?_⟩
      by_cases e : u = v
      · subst e; omega
      · exact absurd ⟨u, by omega, pu⟩ h1
theorem zSW_0 {a : Ac} {Fr K : Int} {p far : FZ} {k : Nat} (wA : zAW a K) (h : zSS a Fr p far k) : zSW a Fr p far k 0 false := by
  refine ⟨fun _ j hj => absurd hj (by omega), ?_⟩
  rcases h with h | ⟨Z, h1, h2⟩
  · exact .inl h
  · by_cases he : ∃ v, v < zN a ∧ (Z v = false ∧ far v ≠ Fr)
    · obtain ⟨w, w1, w2, w3⟩ := zleast (fun v => Z v = false ∧ far v ≠ Fr) (fun v => far v - p v) _ he
      exact .inr ⟨Z, w, h1, w1, w2.1, w2.2, fun v hv a1 a2 => w3 v hv ⟨a1, a2⟩, fun j hj => absurd hj (by omega), h2⟩
    · refine .inl (fun j hj hc hf => ?_)
      obtain ⟨wu, _, _⟩ := wA j hj
      refine h1.2 j hj hc ?_
      cases hz : Z (zU a j) with
      | true => rfl
      | false => exact absurd ⟨_, wu, hz, hf⟩ he
theorem zSW_no {a : Ac} {Fr : Int} {p far : FZ} {k j : Nat} {fl : Bool} (h : zSW a Fr p far k j fl) (hn : zA a j = true → far (zU a j) ≠ Fr → far (zV a j) ≤ far (zU a j) + zC a j) : zSW a Fr p far k (j + 1) fl := by
  refine ⟨fun hf i hi hc hu => ?_, ?_⟩
  · by_cases e : i = j
    · subst e; exact hn hc hu
    · exact h.1 hf i (by omega) hc hu
  · rcases h.2 with h2 | ⟨Z, w, h1, h2, h3, h4, h5, h6, h7⟩
    · exact .inl h2
    · refine .inr ⟨Z, w, h1, h2, h3, h4, h5, fun i hi hc hu => ?_, h7⟩
      by_cases e : i = j
      · subst e
        have := hn hc (by rw [hu]; exact h4)
        rw [hu] at this; exact this
      · exact h6 i (by omega) hc hu
theorem zSW_st {a : Ac} {Fr K : Int} {p far : FZ} {k j : Nat} {fl : Bool} (wA : zAW a K) (hR : zAR a p) (h : zSW a Fr p far k j fl) (hj : j < zM a) (ha : zA a j = true) (hu : far (zU a j) ≠ Fr) (hlt : far (zU a j) + zC a j < far (zV a j)) (hF : far (zU a j) + zC a j ≠ Fr) : zSW a Fr p (upZ far (zV a j) (far (zU a j) + zC a j)) k (j + 1) true := by
  obtain ⟨wu, wv, _⟩ := wA j hj
  have hr := hR j hj ha
  refine ⟨fun q => absurd q (by decide), ?_⟩
  rcases h.2 with h2 | ⟨Z, w, h1, h2, h3, h4, h5, h6, h7⟩
  · have := h2 j hj ha hu; omega
  have zu : Z (zU a j) = false := by
    cases hz : Z (zU a j) with
    | false => rfl
    | true => have := h1.2 j hj ha hz; omega
  have xu := h5 _ wu zu hu
  have zv : Z (zV a j) = false := by
    cases hz : Z (zV a j) with
    | false => rfl
    | true => have := (h1.1 _ wv hz).2 _ wu zu hu; omega
  have nw : w ≠ zV a j := by
    intro e
    rw [e] at xu; omega
  have nz : ∀ u, Z u = true → u ≠ zV a j := by
    intro u hz e
    rw [e, zv] at hz; exact absurd hz (by decide)
  have le : ∀ x, upZ far (zV a j) (far (zU a j) + zC a j) x ≤ far x := by
    intro x
    by_cases e : x = zV a j
    · subst e; rw [upZ_e]; omega
    · rw [upZ_n e]; exact Int.le_refl _
  refine .inr ⟨Z, w, ⟨fun u hu' hz => ?_, fun i hi hc hz => ?_⟩, h2, h3, ?_, fun v hv hz hf => ?_, fun i hi hc hw => ?_, h7⟩
  · rw [upZ_n (nz u hz)]
    obtain ⟨g1, g2⟩ := h1.1 u hu' hz
    refine ⟨g1, fun x hx hxz hxf => ?_⟩
    by_cases e : x = zV a j
    · subst e
      rw [upZ_e]
      have := g2 _ wu zu hu
      omega
    · rw [upZ_n e] at hxf ⊢
      exact g2 x hx hxz hxf
  · rw [upZ_n (nz _ hz)]
    have := h1.2 i hi hc hz
    have := le (zV a i)
    omega
  · rw [upZ_n nw]; exact h4
  · rw [upZ_n nw]
    by_cases e : v = zV a j
    · subst e
      rw [upZ_e]; omega
    · rw [upZ_n e] at hf ⊢
      exact h5 v hv hz hf
  · rw [upZ_n nw]
    by_cases e : i = j
    · subst e
      rw [hw] at hlt xu hu
      rw [upZ_e, hw]; exact Int.le_refl _
    · have := h6 i (by omega) hc hw
      have := le (zV a i)
      omega
theorem zSW_M {a : Ac} {Fr K : Int} {p far : FZ} {k : Nat} {fl : Bool} (wA : zAW a K) (h : zSW a Fr p far k (zM a) fl) : zSS a Fr p far (k + 1) ∧ (fl = false → zAX a Fr far (zM a)) := by
  refine ⟨?_, h.1⟩
  rcases h.2 with h2 | ⟨Z, w, h1, h2, h3, h4, h5, h6, h7⟩
  · exact .inl h2
  refine .inr ⟨fun x => if x = w then true else Z x, ⟨fun u hu hz => ?_, fun i hi hc hz => ?_⟩, ?_⟩
  · dsimp only at hz
    by_cases e : u = w
    · subst e
      refine ⟨h4, fun x hx hxz hxf => ?_⟩
      dsimp only at hxz
      by_cases e2 : x = u
      · rw [if_pos e2] at hxz; exact absurd hxz (by decide)
      · rw [if_neg e2] at hxz
        exact h5 x hx hxz hxf
    · rw [if_neg e] at hz
      obtain ⟨g1, g2⟩ := h1.1 u hu hz
      refine ⟨g1, fun x hx hxz hxf => ?_⟩
      dsimp only at hxz
      by_cases e2 : x = w
      · subst e2
        exact g2 x hx h3 hxf
      · rw [if_neg e2] at hxz
        exact g2 x hx hxz hxf
  · dsimp only at hz
    by_cases e : zU a i = w
    · have := h6 i hi hc e
      rw [e]; exact this
    · rw [if_neg e] at hz
      exact h1.2 i hi hc hz
  · have := cntP_one (P := Z) (Q := fun x => if x = w then true else Z x) h2 h3 (by simp) (fun i _ hi => by simp [hi])
    omega
/-- what comes out: tight chains, with a rank -/
def zOT (a : Ac) (Fr K : Int) (p X far : FZ) (bY : Nat → Option Nat) (rk : Nat → Nat) : Prop := zAX a Fr far (zM a) ∧ ∀ v, v < zN a → rk v < zN a ∧ ((far v = Fr ∧ bY v = none ∧ X v ≤ 0) ∨ (far v ≠ Fr ∧ far v + K < Fr ∧ p v ≤ far v ∧ (0 < X v → far v ≤ 0) ∧ ((bY v = none ∧ 0 < X v ∧ far v = 0) ∨ ∃ j, bY v = some j ∧ j < zM a ∧ zA a j = true ∧ zV a j = v ∧ far (zU a j) ≠ Fr ∧ far (zU a j) + zC a j = far v ∧ rk (zU a j) < rk v)))
theorem zOT_of {a : Ac} {Fr K : Int} {p X : FZ} {n : Nat} {far : FZ} {bY : Nat → Option Nat} (wA : zAW a K) (hF : K * (n : Int) + K < Fr) (h : zBI a Fr K p X n far bY) (hx : zAX a Fr far (zM a)) : ∃ rk, zOT a Fr K p X far bY rk := by
  obtain ⟨tm, h⟩ := h
  let lt : Nat → Nat → Prop := fun x y => far x - p x < far y - p y ∨ (far x - p x = far y - p y ∧ tm x < tm y)
  refine ⟨fun v => cntP (fun x => decide (far x - p x < far v - p v ∨ (far x - p x = far v - p v ∧ tm x < tm v))) (zN a), hx, fun v hv => ?_⟩
  constructor
  · have h1 := cntP_inc_lt (P := fun x => decide (far x - p x < far v - p v ∨ (far x - p x = far v - p v ∧ tm x < tm v))) (Q := fun _ => true) (n := zN a) (b := v) (fun _ _ _ => rfl) hv (by simp) rfl
    have h2 := cntP_le (fun _ => true) (zN a)
    dsimp only
    omega
  · obtain ⟨_, h2⟩ := h v hv
    rcases h2 with h2 | ⟨q1, q2, q3, q4, q5⟩
    · exact .inl h2
    refine .inr ⟨q1, by omega, q2, q4, ?_⟩
    rcases q5 with q5 | ⟨i, i1, i2, i3, i4, i5, i6, i7⟩
    · exact .inl q5
    refine .inr ⟨i, i1, i2, i3, i4, i5, ?_, ?_⟩
    · have := hx i i2 i3 i5
      rw [i4] at this; omega
    · obtain ⟨wu, _, _⟩ := wA i i2
      refine cntP_inc_lt (b := zU a i) (fun x _ hx => ?_) wu (by simp) (decide_eq_true i7)
      have hx := of_decide_eq_true hx
      refine decide_eq_true ?_
      omega
