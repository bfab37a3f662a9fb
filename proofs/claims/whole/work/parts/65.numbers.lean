/-- sums, and whether there is one -/
def sumF (f : Nat → Nat) : Nat → Nat
  | 0 => 0
  | n + 1 => sumF f n + f n
theorem sumF_s (f : Nat → Nat) (n : Nat) : sumF f (n + 1) = sumF f n + f n := rfl
theorem sumF_congr {f g : Nat → Nat} {n : Nat} (h : ∀ i, i < n → f i = g i) : sumF f n = sumF g n := by
  induction n with
  | zero => rfl
  | succ n ih => rw [sumF_s, sumF_s, ih (fun i hi => h i (by omega)), h n (by omega)]
theorem sumF_mono (f : Nat → Nat) {m n : Nat} (h : m ≤ n) : sumF f m ≤ sumF f n := by
  induction n with
  | zero => have : m = 0 := by omega
            subst this; exact Nat.le_refl _
  | succ n ih =>
    by_cases hm : m = n + 1
    · subst hm; exact Nat.le_refl _
    · have := ih (by omega)
      rw [sumF_s]; omega
theorem sumF_ge {f : Nat → Nat} {i n : Nat} (h : i < n) : sumF f i + f i ≤ sumF f n := sumF_mono f (show i + 1 ≤ n from h)
theorem sumF_bd {f : Nat → Nat} {P : Nat → Bool} {n M : Nat} (h0 : ∀ i, i < n → P i = false → f i = 0) (h1 : ∀ i, i < n → f i ≤ M) : sumF f n ≤ cntP P n * M := by
  induction n with
  | zero => exact Nat.zero_le _
  | succ n ih =>
    have := ih (fun i hi => h0 i (by omega)) (fun i hi => h1 i (by omega))
    rw [sumF_s, cntP_s]
    by_cases hp : P n = true
    · rw [if_pos hp, Nat.add_mul]
      have := h1 n (by omega)
      omega
    · rw [if_neg hp, Nat.add_zero, h0 n (by omega) (by cases e : P n with | false => rfl | true => exact absurd e hp)]
      omega
def anyB (P : Nat → Bool) : Nat → Bool
  | 0 => false
  | n + 1 => anyB P n || P n
theorem anyB_iff {P : Nat → Bool} {n : Nat} : anyB P n = true ↔ ∃ i, i < n ∧ P i = true := by
  induction n with
  | zero => exact ⟨fun h => Bool.noConfusion h, fun ⟨i, hi, _⟩ => absurd hi (Nat.not_lt_zero _)⟩
  | succ n ih =>
    show (anyB P n || P n) = true ↔ _
    rw [Bool.or_eq_true, ih]
    constructor
    · rintro (⟨i, a, b⟩ | h)
      · exact ⟨i, by omega, b⟩
      · exact ⟨n, by omega, h⟩
    · rintro ⟨i, a, b⟩
      by_cases h : i = n
      · subst h; exact Or.inr b
      · exact Or.inl ⟨i, by omega, b⟩
theorem anyB_s (P : Nat → Bool) (n : Nat) : anyB P (n + 1) = (anyB P n || P n) := rfl
theorem allB_s (P : Nat → Bool) (n : Nat) : allB P (n + 1) = (allB P n && P n) := rfl
/-- the ways from blocks on: 0 while unknown -/
def bey (G : Gr) (n : Nat → Nat) (e : Nat) : Nat := if qW G e = true then 1 else n (qT G e)
def rdy (G : Gr) (n : Nat → Nat) (b : Nat) : Nat → Bool := allB (fun e => !(decide (qF G e = b)) || !(decide (bey G n e = 0)))
def adS (G : Gr) (n : Nat → Nat) (b : Nat) : Nat → Nat := sumF (fun e => if qF G e = b then bey G n e else 0)
def cf (G : Gr) (n : Nat → Nat) (b : Nat) : Nat := if 3 ≤ qK G b then 1 else if rdy G n b (qE G) = true then adS G n b (qE G) else 0
def psn (G : Gr) (n : Nat → Nat) : Nat → Nat → Nat
  | 0 => n
  | b + 1 => fun x => if x = b then cf G (psn G n b) b else psn G n b x
def npi (G : Gr) : Nat → Nat → Nat
  | 0 => fun _ => 0
  | p + 1 => psn G (npi G p) (qB G)
def nW (G : Gr) : Nat → Nat := npi G (qB G)
/-- more is known -/
def Ext (G : Gr) (n n' : Nat → Nat) : Prop := ∀ b, b < qB G → n b ≠ 0 → n' b = n b
def Con (G : Gr) (n : Nat → Nat) : Prop := ∀ b, b < qB G → n b ≠ 0 → cf G n b = n b
theorem rdy_iff {G : Gr} {n : Nat → Nat} {b m : Nat} : rdy G n b m = true ↔ ∀ e, e < m → qF G e = b → bey G n e ≠ 0 := by
  unfold rdy
  rw [allB_iff]
  constructor
  · intro h e he hf hb
    have := h e he
    rw [decide_eq_true hf, decide_eq_true hb] at this
    cases this
  · intro h e he
    by_cases hf : qF G e = b
    · rw [decide_eq_false (h e he hf)]; simp
    · rw [decide_eq_false hf]; rfl
theorem cf_ext {G : Gr} (w : WG G) {n n' : Nat → Nat} (h : Ext G n n') {b : Nat} (hb : cf G n b ≠ 0) : cf G n' b = cf G n b := by
  unfold cf at hb ⊢
  by_cases k3 : 3 ≤ qK G b
  · rw [if_pos k3, if_pos k3]
  · rw [if_neg k3] at hb
    rw [if_neg k3, if_neg k3]
    by_cases hr : rdy G n b (qE G) = true
    · have h1 := rdy_iff.mp hr
      have h2 : ∀ e, e < qE G → qF G e = b → bey G n' e = bey G n e := by
        intro e he hf
        have h3 := h1 e he hf
        unfold bey at h3 ⊢
        by_cases hw : qW G e = true
        · rw [if_pos hw, if_pos hw]
        · rw [if_neg hw] at h3
          rw [if_neg hw, if_neg hw]
          exact h _ (w.2.2.2.1 e he).2.1 h3
      have h4 : rdy G n' b (qE G) = true := rdy_iff.mpr (fun e he hf => by rw [h2 e he hf]; exact h1 e he hf)
      rw [if_pos hr, if_pos h4]
      apply sumF_congr
      intro e he
      by_cases hf : qF G e = b
      · rw [if_pos hf, if_pos hf, h2 e he hf]
      · rw [if_neg hf, if_neg hf]
    · rw [if_neg hr] at hb
      exact absurd rfl hb
theorem psn_s (G : Gr) (n : Nat → Nat) (b x : Nat) : psn G n (b + 1) x = if x = b then cf G (psn G n b) b else psn G n b x := rfl
theorem psn_ext {G : Gr} (w : WG G) {n : Nat → Nat} (h : Con G n) (b : Nat) (hb : b ≤ qB G) : Con G (psn G n b) ∧ Ext G n (psn G n b) := by
  induction b with
  | zero => exact ⟨h, fun _ _ _ => rfl⟩
  | succ b ih =>
    obtain ⟨h1, h2⟩ := ih (by omega)
    have h3 : Ext G (psn G n b) (psn G n (b + 1)) := by
      intro x hx hn
      rw [psn_s]
      by_cases hxb : x = b
      · subst hxb; rw [if_pos rfl]; exact h1 _ hx hn
      · rw [if_neg hxb]
    refine ⟨?_, fun x hx hn => by rw [h3 x hx (by rw [h2 x hx hn]; exact hn), h2 x hx hn]⟩
    intro x hx hn
    rw [psn_s] at hn ⊢
    by_cases hxb : x = b
    · rw [if_pos hxb] at hn ⊢
      subst hxb
      exact cf_ext w h3 hn
    · rw [if_neg hxb] at hn ⊢
      rw [cf_ext w h3 (by rw [h1 x hx hn]; exact hn)]
      exact h1 x hx hn
theorem npi_con {G : Gr} (w : WG G) (p : Nat) : Con G (npi G p) := by
  induction p with
  | zero => intro b hb hn; exact absurd rfl hn
  | succ p ih => exact (psn_ext w ih (qB G) (Nat.le_refl _)).1
theorem npi_ext {G : Gr} (w : WG G) (p : Nat) : Ext G (npi G p) (npi G (p + 1)) := (psn_ext w (npi_con w p) (qB G) (Nat.le_refl _)).2
theorem cf_congr {G : Gr} (w : WG G) {n n' : Nat → Nat} (h : ∀ b, b < qB G → n b = n' b) (b : Nat) : cf G n b = cf G n' b := by
  have hb : ∀ e, e < qE G → bey G n e = bey G n' e := by
    intro e he
    unfold bey
    rw [h _ (w.2.2.2.1 e he).2.1]
  have h1 : rdy G n b (qE G) = rdy G n' b (qE G) := allB_congr (fun e he => by rw [hb e he])
  have h2 : adS G n b (qE G) = adS G n' b (qE G) := sumF_congr (fun e he => by rw [hb e he])
  unfold cf
  rw [h1, h2]
theorem psn_congr {G : Gr} (w : WG G) {n n' : Nat → Nat} (h : ∀ b, b < qB G → n b = n' b) (x : Nat) (hx : x ≤ qB G) : ∀ b, b < qB G → psn G n x b = psn G n' x b := by
  induction x with
  | zero => exact h
  | succ x ih =>
    intro b hb
    rw [psn_s, psn_s, cf_congr w (ih (by omega)), ih (by omega) b hb]
theorem npi_stay {G : Gr} (w : WG G) (p : Nat) (h : ∀ b, b < qB G → decide (npi G (p + 1) b ≠ 0) = decide (npi G p b ≠ 0)) : ∀ b, b < qB G → npi G (p + 1) b = npi G p b := by
  intro b hb
  by_cases hn : npi G p b = 0
  · have := h b hb
    rw [hn] at this
    by_cases h0 : npi G (p + 1) b = 0
    · rw [h0, hn]
    · rw [decide_eq_true h0] at this; simp at this
  · exact npi_ext w p b hb hn
theorem npi_fix {G : Gr} (w : WG G) : ∀ b, b < qB G → npi G (qB G + 1) b = npi G (qB G) b := by
  apply npi_stay w
  refine grow_fix (fun p b => decide (npi G p b ≠ 0)) (qB G) ?_ ?_
  · intro p b hb h
    have h1 : npi G p b ≠ 0 := of_decide_eq_true h
    exact decide_eq_true (by rw [npi_ext w p b hb h1]; exact h1)
  · intro p h b hb
    have h1 := npi_stay w p h
    have h2 : npi G (p + 2) b = npi G (p + 1) b := psn_congr w h1 (qB G) (Nat.le_refl _) b hb
    show decide (npi G (p + 2) b ≠ 0) = decide (npi G (p + 1) b ≠ 0)
    rw [h2]
/-- where a pass changes nothing, all is known that ever will be -/
theorem npi_un {G : Gr} (w : WG G) {p : Nat} (h : ∀ b, b < qB G → npi G (p + 1) b = npi G p b) : ∀ b, b < qB G → npi G p b = nW G b := by
  have hfix : ∀ p d, (∀ b, b < qB G → npi G (p + 1) b = npi G p b) → ∀ b, b < qB G → npi G (p + d) b = npi G p b := by
    intro p d h
    have key : ∀ d, (∀ b, b < qB G → npi G (p + d + 1) b = npi G (p + d) b) ∧ ∀ b, b < qB G → npi G (p + d) b = npi G p b := by
      intro d
      induction d with
      | zero => exact ⟨h, fun b _ => rfl⟩
      | succ d ih => exact ⟨psn_congr w ih.1 (qB G) (Nat.le_refl _), fun b hb => (ih.1 b hb).trans (ih.2 b hb)⟩
    exact (key d).2
  intro b hb
  unfold nW
  rcases Nat.le_total p (qB G) with q | q
  · have := hfix p (qB G - p) h b hb
    rw [show p + (qB G - p) = qB G by omega] at this
    exact this.symm
  · have := hfix (qB G) (p - qB G) (npi_fix w) b hb
    rw [show qB G + (p - qB G) = p by omega] at this
    exact this
theorem nW_con {G : Gr} (w : WG G) : Con G (nW G) := npi_con w _
/-- how large -/
def nzc (G : Gr) (n : Nat → Nat) : Nat := cntP (fun x => decide (n x ≠ 0)) (qB G)
def Bd (G : Gr) (n : Nat → Nat) : Prop := ∀ b, b < qB G → n b ≤ 4 ^ nzc G n
theorem bey_bd {G : Gr} (w : WG G) {n : Nat → Nat} (h : Bd G n) {e : Nat} (he : e < qE G) : bey G n e ≤ 4 ^ nzc G n := by
  unfold bey
  split
  · exact Nat.one_le_pow _ _ (by decide)
  · exact h _ (w.2.2.2.1 e he).2.1
theorem adS_bd {G : Gr} (w : WG G) {n : Nat → Nat} (h : Bd G n) {b m : Nat} (hm : m ≤ qE G) (hb : b < qB G) : adS G n b m ≤ 4 * 4 ^ nzc G n := by
  have h1 : adS G n b m ≤ cntP (fun e => decide (qF G e = b)) m * 4 ^ nzc G n := by
    apply sumF_bd
    · intro e he hp
      rw [if_neg (of_decide_eq_false hp)]
    · intro e he
      split
      · exact bey_bd w h (by omega)
      · exact Nat.zero_le _
  have h2 := w.2.2.2.2.1 b hb
  have h3 := cntP_mono (fun e => decide (qF G e = b)) hm
  have h4 : cntP (fun e => decide (qF G e = b)) m ≤ 4 := Nat.le_trans h3 h2
  exact Nat.le_trans h1 (Nat.mul_le_mul_right _ h4)
theorem psn_bd {G : Gr} (w : WG G) {n : Nat → Nat} (hc : Con G n) (h : Bd G n) (x : Nat) (hx : x ≤ qB G) : Bd G (psn G n x) := by
  induction x with
  | zero => exact h
  | succ x ih =>
    have hB := ih (by omega)
    have h1 := (psn_ext w hc x (by omega)).1
    have hext : ∀ i, i < qB G → decide (psn G n x i ≠ 0) = true → decide (psn G n (x + 1) i ≠ 0) = true := by
      intro i hi q
      have q1 : psn G n x i ≠ 0 := of_decide_eq_true q
      apply decide_eq_true
      rw [psn_s]
      by_cases hix : i = x
      · rw [if_pos hix]; subst hix; rw [h1 _ hi q1]; exact q1
      · rw [if_neg hix]; exact q1
    have hle : nzc G (psn G n x) ≤ nzc G (psn G n (x + 1)) := cntP_inc hext
    intro b hb
    by_cases hbx : b = x
    · subst hbx
      by_cases h0 : psn G n b b = 0
      · by_cases hz : cf G (psn G n b) b = 0
        · rw [psn_s, if_pos rfl, hz]; exact Nat.zero_le _
        · have hlt : nzc G (psn G n b) < nzc G (psn G n (b + 1)) := by
            refine cntP_inc_lt hext hb ?_ ?_
            · rw [h0]; rfl
            · apply decide_eq_true; rw [psn_s, if_pos rfl]; exact hz
          have h2 : cf G (psn G n b) b ≤ 4 * 4 ^ nzc G (psn G n b) := by
            unfold cf
            split
            · have := Nat.one_le_pow (nzc G (psn G n b)) 4 (by decide); omega
            · split
              · exact adS_bd w hB (Nat.le_refl _) hb
              · exact Nat.zero_le _
          have h3 : 4 ^ (nzc G (psn G n b) + 1) ≤ 4 ^ nzc G (psn G n (b + 1)) := Nat.pow_le_pow_right (by decide) hlt
          rw [Nat.pow_succ] at h3
          rw [psn_s, if_pos rfl]
          omega
      · rw [psn_s, if_pos rfl, h1 b hb h0]
        exact Nat.le_trans (hB b hb) (Nat.pow_le_pow_right (by decide) hle)
    · rw [psn_s, if_neg hbx]
      exact Nat.le_trans (hB b hb) (Nat.pow_le_pow_right (by decide) hle)
theorem npi_bd {G : Gr} (w : WG G) (p : Nat) : Bd G (npi G p) := by
  induction p with
  | zero => intro b hb; exact Nat.zero_le _
  | succ p ih => exact psn_bd w (npi_con w p) ih (qB G) (Nat.le_refl _)
theorem nzc_le {G : Gr} (w : WG G) (n : Nat → Nat) : 4 ^ nzc G n ≤ 1099511627776 := by
  have h1 : nzc G n ≤ 20 := Nat.le_trans (cntP_le _ _) w.1
  have h2 : 4 ^ nzc G n ≤ 4 ^ 20 := Nat.pow_le_pow_right (by decide) h1
  exact h2
theorem psn_lt {G : Gr} (w : WG G) (p : Nat) {x b : Nat} (hx : x ≤ qB G) (hb : b < qB G) : psn G (npi G p) x b ≤ 1099511627776 := Nat.le_trans (psn_bd w (npi_con w p) (npi_bd w p) x hx b hb) (nzc_le w _)
theorem adS_lt {G : Gr} (w : WG G) (p : Nat) {x b m : Nat} (hx : x ≤ qB G) (hb : b < qB G) (hm : m ≤ qE G) : adS G (psn G (npi G p) x) b m ≤ 4398046511104 := by
  have := adS_bd w (psn_bd w (npi_con w p) (npi_bd w p) x hx) hm hb
  have := nzc_le w (psn G (npi G p) x)
  omega
theorem nW_lt {G : Gr} (w : WG G) {b : Nat} (hb : b < qB G) : nW G b ≤ 1099511627776 := Nat.le_trans (npi_bd w (qB G) b hb) (nzc_le w _)
/-- heads and bases -/
def hdB (G : Gr) (b : Nat) : Nat → Bool := anyB (fun e => qW G e && decide (qT G e = b))
def bsS (G : Gr) (b : Nat) : Nat := nW G 0 + sumF (fun x => if hdB G x (qE G) = true then nW G x else 0) b
def aD (G : Gr) (e : Nat) : Nat := adS G (nW G) (qF G e) e
def tot (G : Gr) : Nat := bsS G (qB G)
theorem bsS_lt {G : Gr} (w : WG G) (h0 : 0 < qB G) {b : Nat} (hb : b ≤ qB G) : bsS G b ≤ 23089744183296 := by
  unfold bsS
  have h1 := nW_lt w h0
  have h2 : sumF (fun x => if hdB G x (qE G) = true then nW G x else 0) b ≤ cntP (fun _ => true) b * 1099511627776 := by
    apply sumF_bd
    · intro i hi q; cases q
    · intro i hi
      split
      · exact nW_lt w (by omega)
      · exact Nat.zero_le _
  have h3 := cntP_le (fun _ => true) b
  have h4 := w.1
  have h5 : cntP (fun _ => true) b * 1099511627776 ≤ 20 * 1099511627776 := Nat.mul_le_mul_right _ (by omega)
  omega
