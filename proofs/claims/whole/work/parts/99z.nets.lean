/-- sums of integers -/
def smZ (f : FZ) : Nat → Int
  | 0 => 0
  | n + 1 => smZ f n + f n
theorem smZ_s (f : FZ) (n : Nat) : smZ f (n + 1) = smZ f n + f n := rfl
theorem smZ_congr {f g : FZ} {n : Nat} (h : ∀ i, i < n → f i = g i) : smZ f n = smZ g n := by
  induction n with
  | zero => rfl
  | succ n ih => rw [smZ_s, smZ_s, ih (fun i hi => h i (by omega)), h n (by omega)]
theorem smZ_add (f g : FZ) (n : Nat) : smZ (fun i => f i + g i) n = smZ f n + smZ g n := by
  induction n with
  | zero => rfl
  | succ n ih => rw [smZ_s, smZ_s, smZ_s, ih]; omega
theorem smZ_le {f g : FZ} {n : Nat} (h : ∀ i, i < n → f i ≤ g i) : smZ f n ≤ smZ g n := by
  induction n with
  | zero => exact Int.le_refl _
  | succ n ih =>
    rw [smZ_s, smZ_s]
    have := ih (fun i hi => h i (by omega))
    have := h n (by omega)
    omega
theorem smZ_0 {f : FZ} {n : Nat} (h : ∀ i, i < n → f i = 0) : smZ f n = 0 := by
  induction n with
  | zero => rfl
  | succ n ih => rw [smZ_s, ih (fun i hi => h i (by omega)), h n (by omega)]; rfl
theorem smZ_mem {f : FZ} {n x : Nat} (h : ∀ i, i < n → 0 ≤ f i) (hx : x < n) : f x ≤ smZ f n := by
  induction n with
  | zero => omega
  | succ n ih =>
    rw [smZ_s]
    have hn : 0 ≤ smZ f n := by
      have := smZ_le (f := fun _ => 0) (g := f) (n := n) (fun i hi => h i (by omega))
      rw [smZ_0 (fun _ _ => rfl)] at this; exact this
    have := h n (by omega)
    by_cases e : x = n
    · subst e; omega
    · have := ih (fun i hi => h i (by omega)) (by omega); omega
theorem smZ_up {f : FZ} {n x : Nat} {v : Int} (hx : x < n) : smZ (upZ f x v) n = smZ f n - f x + v := by
  induction n with
  | zero => omega
  | succ n ih =>
    rw [smZ_s, smZ_s]
    by_cases e : x = n
    · subst e
      rw [upZ_e, smZ_congr (g := f) (fun i hi => upZ_n (by omega))]; omega
    · rw [ih (by omega), upZ_n (by omega)]; omega
theorem smZ_mul (f : FZ) (c : Int) (n : Nat) : smZ (fun i => c * f i) n = c * smZ f n := by
  induction n with
  | zero => simp [smZ]
  | succ n ih => rw [smZ_s, smZ_s, ih, Int.mul_add]
def i1 (a b : Nat) : Int := if a = b then 1 else 0
theorem smZ_i1 (g : FZ) {t n : Nat} (h : t < n) : smZ (fun v => g v * i1 t v) n = g t := by
  induction n with
  | zero => omega
  | succ n ih =>
    rw [smZ_s]
    by_cases e : t = n
    · subst e
      rw [smZ_0 (fun i hi => by rw [i1, if_neg (by omega)]; simp), i1, if_pos rfl]; omega
    · rw [ih (by omega), i1, if_neg e]; omega
/-- networks: N nodes, m links from F to T; cost and room of more and of less; what a count may be -/
abbrev Nw : Type := Nat × Nat × (Nat → Nat) × (Nat → Nat) × (Nat → Int → Int) × (Nat → Int → Int) × (Nat → Int → Int) × (Nat → Int → Int) × (Nat → Int → Prop)
def nN (w : Nw) : Nat := w.1
def nm (w : Nw) : Nat := w.2.1
def nF (w : Nw) : Nat → Nat := w.2.2.1
def nT (w : Nw) : Nat → Nat := w.2.2.2.1
def nmo (w : Nw) : Nat → Int → Int := w.2.2.2.2.1
def nle (w : Nw) : Nat → Int → Int := w.2.2.2.2.2.1
def nrm (w : Nw) : Nat → Int → Int := w.2.2.2.2.2.2.1
def nrl (w : Nw) : Nat → Int → Int := w.2.2.2.2.2.2.2.1
def nok (w : Nw) : Nat → Int → Prop := w.2.2.2.2.2.2.2.2
def nU (w : Nw) (a : Nat) : Nat := if a % 2 = 0 then nF w (a / 2) else nT w (a / 2)
def nV (w : Nw) (a : Nat) : Nat := if a % 2 = 0 then nT w (a / 2) else nF w (a / 2)
def nC (w : Nw) (c : FZ) (a : Nat) : Int := if a % 2 = 0 then nmo w (a / 2) (c (a / 2)) else nle w (a / 2) (c (a / 2))
def nR (w : Nw) (c : FZ) (a : Nat) : Int := if a % 2 = 0 then nrm w (a / 2) (c (a / 2)) else nrl w (a / 2) (c (a / 2))
def nA (w : Nw) (c : FZ) : Ac := (nN w, 2 * nm w, nU w, nV w, nC w c, fun a => decide (0 < nR w c a))
def NWF (w : Nw) (K : Int) : Prop := ∀ l, l < nm w → nF w l < nN w ∧ nT w l < nN w ∧ ∀ c, nok w l c → (nmo w l c ≤ K ∧ nle w l c ≤ K) ∧ (-K ≤ nmo w l c ∧ -K ≤ nle w l c)
/-- the laws of cost and room -/
def NL (w : Nw) : Prop := ∀ l, l < nm w → ∀ c k d : Int, nok w l c → 0 < k → (k ≤ nrm w l c → d = nmo w l c → nok w l (c + k) ∧ (0 < nrm w l (c + k) → d ≤ nmo w l (c + k)) ∧ (0 < nrl w l (c + k) → -d ≤ nle w l (c + k))) ∧ (k ≤ nrl w l c → -d = nle w l c → nok w l (c - k) ∧ (0 < nrm w l (c - k) → d ≤ nmo w l (c - k)) ∧ (0 < nrl w l (c - k) → -d ≤ nle w l (c - k)))
def RC (w : Nw) (c q : FZ) : Prop := zAR (nA w c) q ∧ ∀ l, l < nm w → nok w l (c l)
theorem zAW_n {w : Nw} {K : Int} {c : FZ} (h : NWF w K) (ho : ∀ l, l < nm w → nok w l (c l)) : zAW (nA w c) K := by
  intro j hj
  have hj : j / 2 < nm w := by have : j < 2 * nm w := hj; omega
  obtain ⟨h1, h2, h3⟩ := h _ hj
  obtain ⟨⟨h4, h5⟩, _⟩ := h3 _ (ho _ hj)
  show nU w j < nN w ∧ nV w j < nN w ∧ nC w c j ≤ K
  unfold nU nV nC
  split <;> (refine ⟨?_, ?_, ?_⟩ <;> assumption)
theorem nC_lo {w : Nw} {K : Int} {c : FZ} (h : NWF w K) (ho : ∀ l, l < nm w → nok w l (c l)) {j : Nat} (hj : j < 2 * nm w) : -K ≤ nC w c j := by
  have hj : j / 2 < nm w := by omega
  obtain ⟨h1, h2, h3⟩ := h _ hj
  obtain ⟨_, h4, h5⟩ := h3 _ (ho _ hj)
  unfold nC
  split <;> assumption
def psh (c : FZ) (a : Nat) (k : Int) : FZ := upZ c (a / 2) (if a % 2 = 0 then c (a / 2) + k else c (a / 2) - k)
theorem RC_l {w : Nw} {c q : FZ} : RC w c q ↔ ∀ l, l < nm w → nok w l (c l) ∧ (0 < nrm w l (c l) → q (nT w l) - q (nF w l) ≤ nmo w l (c l)) ∧ (0 < nrl w l (c l) → -(q (nT w l) - q (nF w l)) ≤ nle w l (c l)) := by
  constructor
  · rintro ⟨h1, h2⟩ l hl
    refine ⟨h2 l hl, fun hr => ?_, fun hr => ?_⟩
    · have e1 : (2 * l) % 2 = 0 := by omega
      have e2 : (2 * l) / 2 = l := by omega
      have := h1 (2 * l) (show 2 * l < 2 * nm w by omega) (by show decide (0 < nR w c (2 * l)) = true; unfold nR; rw [if_pos e1, e2]; exact decide_eq_true hr)
      have h3 : q (nV w (2 * l)) ≤ q (nU w (2 * l)) + nC w c (2 * l) := this
      unfold nV nU nC at h3
      rw [if_pos e1, if_pos e1, if_pos e1, e2] at h3
      omega
    · have e1 : ¬ (2 * l + 1) % 2 = 0 := by omega
      have e2 : (2 * l + 1) / 2 = l := by omega
      have := h1 (2 * l + 1) (show 2 * l + 1 < 2 * nm w by omega) (by show decide (0 < nR w c (2 * l + 1)) = true; unfold nR; rw [if_neg e1, e2]; exact decide_eq_true hr)
      have h3 : q (nV w (2 * l + 1)) ≤ q (nU w (2 * l + 1)) + nC w c (2 * l + 1) := this
      unfold nV nU nC at h3
      rw [if_neg e1, if_neg e1, if_neg e1, e2] at h3
      omega
  · intro h
    refine ⟨fun j hj hr => ?_, fun l hl => (h l hl).1⟩
    have hj : j / 2 < nm w := by have : j < 2 * nm w := hj; omega
    obtain ⟨h1, h2, h3⟩ := h _ hj
    have hr : 0 < nR w c j := of_decide_eq_true hr
    show q (nV w j) ≤ q (nU w j) + nC w c j
    unfold nV nU nC
    unfold nR at hr
    by_cases e : j % 2 = 0
    · rw [if_pos e] at hr
      rw [if_pos e, if_pos e, if_pos e]
      have := h2 hr; omega
    · rw [if_neg e] at hr
      rw [if_neg e, if_neg e, if_neg e]
      have := h3 hr; omega
theorem RC_psh {w : Nw} {c q : FZ} {a : Nat} {k : Int} (hL : NL w) (h : RC w c q) (ha : a < 2 * nm w) (hk : 0 < k) (hr : k ≤ nR w c a) (ht : q (nV w a) = q (nU w a) + nC w c a) : RC w (psh c a k) q := by
  rw [RC_l] at h ⊢
  intro l hl
  by_cases e : l = a / 2
  · subst e
    obtain ⟨h1, h2, h3⟩ := h _ hl
    obtain ⟨g1, g2⟩ := hL _ hl (c (a / 2)) k (q (nT w (a / 2)) - q (nF w (a / 2))) h1 hk
    unfold psh
    rw [upZ_e]
    unfold nV nU nC at ht
    unfold nR at hr
    by_cases e : a % 2 = 0
    · rw [if_pos e] at hr ⊢
      rw [if_pos e, if_pos e, if_pos e] at ht
      exact g1 hr (by omega)
    · rw [if_neg e] at hr ⊢
      rw [if_neg e, if_neg e, if_neg e] at ht
      exact g2 hr (by omega)
  · unfold psh
    rw [upZ_n e]
    exact h l hl
/-- what comes in less what goes out -/
def nt (w : Nw) (y c : FZ) (v n : Nat) : Int := smZ (fun l => (y l + c l) * (i1 (nT w l) v - i1 (nF w l) v)) n
theorem nt_psh {w : Nw} {y c : FZ} {a v : Nat} {k : Int} (ha : a < 2 * nm w) : nt w y (psh c a k) v (nm w) = nt w y c v (nm w) + k * (i1 (nV w a) v - i1 (nU w a) v) := by
  have e : nt w y (psh c a k) v (nm w) = smZ (upZ (fun l => (y l + c l) * (i1 (nT w l) v - i1 (nF w l) v)) (a / 2) ((y (a / 2) + psh c a k (a / 2)) * (i1 (nT w (a / 2)) v - i1 (nF w (a / 2)) v))) (nm w) := by
    refine smZ_congr (fun l hl => ?_)
    by_cases e : l = a / 2
    · subst e; rw [upZ_e]
    · rw [upZ_n e]; (try dsimp only); unfold psh; rw [upZ_n e]
  rw [e, smZ_up (by omega)]
  unfold psh nV nU
  rw [upZ_e]
  show nt w y c v (nm w) - _ + _ = _
  by_cases e : a % 2 = 0
  · rw [if_pos e, if_pos e, if_pos e]; grind
  · rw [if_neg e, if_neg e, if_neg e]; grind
theorem nt_sw {w : Nw} {K : Int} (hw : NWF w K) (y c g : FZ) : smZ (fun v => g v * nt w y c v (nm w)) (nN w) = smZ (fun l => (y l + c l) * (g (nT w l) - g (nF w l))) (nm w) := by
  have key : ∀ n, n ≤ nm w → smZ (fun v => g v * nt w y c v n) (nN w) = smZ (fun l => (y l + c l) * (g (nT w l) - g (nF w l))) n := by
    intro n
    induction n with
    | zero =>
      intro _
      exact smZ_0 (fun i _ => by show g i * 0 = 0; omega)
    | succ n ih =>
      intro hn
      obtain ⟨h1, h2, _⟩ := hw n (by omega)
      rw [smZ_s, ← ih (by omega)]
      have e : ∀ v, g v * nt w y c v (n + 1) = g v * nt w y c v n + ((y n + c n) * (g v * i1 (nT w n) v) + (-(y n + c n)) * (g v * i1 (nF w n) v)) := by
        intro v
        have : nt w y c v (n + 1) = nt w y c v n + (y n + c n) * (i1 (nT w n) v - i1 (nF w n) v) := rfl
        rw [this]; grind
      rw [smZ_congr (fun v _ => e v), smZ_add, smZ_add, smZ_mul, smZ_mul, smZ_i1 g h2, smZ_i1 g h1]
      grind
  exact key _ (Nat.le_refl _)
/-- nothing more is lacking -/
theorem cut0 {w : Nw} {K Fr : Int} (hw : NWF w K) {y c X far : FZ} (hX : ∀ v, v < nN w → X v = nt w y c v (nm w)) (h3 : ∀ l, l < nm w → (nrl w l (c l) ≤ 0 → y l + c l ≤ 0) ∧ (nrm w l (c l) ≤ 0 → 0 ≤ y l + c l)) (hf : zAX (nA w c) Fr far (2 * nm w)) (hb : ∀ j, j < 2 * nm w → far (nU w j) ≠ Fr → far (nU w j) + nC w c j < Fr) (hn : ∀ v, v < nN w → far v ≠ Fr → 0 ≤ X v) (hu : ∀ v, v < nN w → far v = Fr → X v ≤ 0) : ∀ v, v < nN w → X v = 0 := by
  have nx : ∀ j, j < 2 * nm w → far (nU w j) ≠ Fr → 0 < nR w c j → far (nV w j) ≠ Fr := by
    intro j hj h1 h2
    have : far (nV w j) ≤ far (nU w j) + nC w c j := hf j hj (decide_eq_true h2) h1
    have := hb j hj h1
    omega
  have s1 := nt_sw hw y c (fun v => if far v = Fr then 0 else 1)
  have s2 : smZ (fun l => (y l + c l) * ((fun v => if far v = Fr then 0 else 1) (nT w l) - (fun v => if far v = Fr then 0 else 1) (nF w l))) (nm w) ≤ smZ (fun _ => 0) (nm w) := by
    refine smZ_le (fun l hl => ?_)
    have n1 := nx (2 * l) (by omega)
    have n2 := nx (2 * l + 1) (by omega)
    unfold nU nV nR at n1 n2
    rw [if_pos (by omega), if_pos (by omega), if_pos (by omega), show 2 * l / 2 = l by omega] at n1
    rw [if_neg (by omega), if_neg (by omega), if_neg (by omega), show (2 * l + 1) / 2 = l by omega] at n2
    obtain ⟨z1, z2⟩ := h3 l hl
    try dsimp only
    by_cases a1 : far (nT w l) = Fr <;> by_cases a2 : far (nF w l) = Fr
    · rw [if_pos a1, if_pos a2]; omega
    · rw [if_pos a1, if_neg a2]
      by_cases a3 : 0 < nrm w l (c l)
      · exact absurd a1 (n1 a2 a3)
      · have := z2 (by omega); omega
    · rw [if_neg a1, if_pos a2]
      by_cases a3 : 0 < nrl w l (c l)
      · exact absurd a2 (n2 a1 a3)
      · have := z1 (by omega); omega
    · rw [if_neg a1, if_neg a2]; omega
  rw [smZ_0 (fun _ _ => rfl), ← s1] at s2
  have s3 : smZ (fun v => (fun v => if far v = Fr then 0 else 1) v * nt w y c v (nm w)) (nN w) = smZ (fun v => if far v = Fr then 0 else X v) (nN w) := by
    refine smZ_congr (fun v hv => ?_)
    try dsimp only
    rw [← hX v hv]
    split <;> omega
  rw [s3] at s2
  have r0 : ∀ v, v < nN w → far v ≠ Fr → X v = 0 := by
    intro v hv hfv
    have := smZ_mem (f := fun v => if far v = Fr then 0 else X v) (n := nN w) (fun i hi => by
      try dsimp only
      split
      · exact Int.le_refl _
      · next h => exact hn i hi h) hv
    (try dsimp only at this)
    rw [if_neg hfv] at this
    have := hn v hv hfv
    omega
  have t1 := nt_sw hw y c (fun _ => 1)
  have t2 : smZ (fun v => -X v) (nN w) = 0 := by
    have e : smZ (fun v => -X v) (nN w) = smZ (fun v => -1 * (1 * nt w y c v (nm w))) (nN w) := smZ_congr (fun v hv => by (try dsimp only); rw [← hX v hv]; omega)
    rw [e, smZ_mul, t1, smZ_0 (fun i _ => by simp)]
    rfl
  intro v hv
  by_cases hfv : far v = Fr
  · have := smZ_mem (f := fun v => -X v) (n := nN w) (fun i hi => by
      try dsimp only
      by_cases h : far i = Fr
      · have := hu i hi h; omega
      · have := r0 i hi h; omega) hv
    rw [t2] at this
    (try dsimp only at this)
    have := hu v hv hfv
    omega
  · exact r0 v hv hfv
