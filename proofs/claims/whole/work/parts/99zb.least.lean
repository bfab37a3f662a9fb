/-- the class's network -/
def xmo (b c : Int) : Int := if b = -1 then 1 else if c < b then -63 else 65
def xle (b c : Int) : Int := if b = -1 then 1 else if b < c then -63 else 65
def xrm (b c : Int) : Int := if c < b then b - c else 1000000000
def xrl (b c : Int) : Int := if b = -1 then c else if b < c then c - b else c
def xph (b c : Int) : Int := if b = -1 then 0 else if c < b then b - c else c - b
def xw (N m : Nat) (F T : Nat → Nat) (b : FZ) : Nw := (N, m, F, T, fun l c => xmo (b l) c, fun l c => xle (b l) c, fun l c => xrm (b l) c, fun l c => xrl (b l) c, fun l c => 0 ≤ c ∧ -1 ≤ b l)
theorem xw_NWF {N m : Nat} {F T : Nat → Nat} {b : FZ} (h : ∀ l, l < m → F l < N ∧ T l < N) : NWF (xw N m F T b) 65 := by
  intro l hl
  refine ⟨(h l hl).1, (h l hl).2, fun c _ => ?_⟩
  show (xmo (b l) c ≤ 65 ∧ xle (b l) c ≤ 65) ∧ (-65 ≤ xmo (b l) c ∧ -65 ≤ xle (b l) c)
  unfold xmo xle
  split <;> (try split) <;> (try split) <;> omega
theorem xw_NL {N m : Nat} {F T : Nat → Nat} {b : FZ} : NL (xw N m F T b) := by
  intro l hl c k d ho hk
  have ho : 0 ≤ c ∧ -1 ≤ b l := ho
  constructor
  · intro h1 h2
    have h1 : k ≤ xrm (b l) c := h1
    have h2 : d = xmo (b l) c := h2
    show (0 ≤ c + k ∧ -1 ≤ b l) ∧ (0 < xrm (b l) (c + k) → d ≤ xmo (b l) (c + k)) ∧ (0 < xrl (b l) (c + k) → -d ≤ xle (b l) (c + k))
    unfold xrm at h1 ⊢
    unfold xmo at h2 ⊢
    unfold xrl xle
    by_cases e1 : b l = -1
    · simp only [if_pos e1] at h2 ⊢; omega
    · simp only [if_neg e1] at h2 ⊢
      by_cases e2 : c < b l
      · simp only [if_pos e2] at h1 h2 ⊢
        split <;> (try split) <;> omega
      · simp only [if_neg e2] at h1 h2 ⊢
        rw [if_neg (show ¬ c + k < b l by omega), if_neg (show ¬ c + k < b l by omega)]
        split <;> omega
  · intro h1 h2
    have h1 : k ≤ xrl (b l) c := h1
    have h2 : -d = xle (b l) c := h2
    show (0 ≤ c - k ∧ -1 ≤ b l) ∧ (0 < xrm (b l) (c - k) → d ≤ xmo (b l) (c - k)) ∧ (0 < xrl (b l) (c - k) → -d ≤ xle (b l) (c - k))
    unfold xrl at h1 ⊢
    unfold xle at h2 ⊢
    unfold xrm xmo
    by_cases e1 : b l = -1
    · simp only [if_pos e1] at h1 h2 ⊢; omega
    · simp only [if_neg e1] at h1 h2 ⊢
      by_cases e2 : b l < c
      · simp only [if_pos e2] at h1 h2 ⊢
        split <;> (try split) <;> omega
      · simp only [if_neg e2] at h1 h2 ⊢
        rw [if_neg (show ¬ b l < c - k by omega), if_neg (show ¬ b l < c - k by omega)]
        split <;> omega
theorem xw_NS {N m : Nat} {F T : Nat → Nat} {b : FZ} : NS (xw N m F T b) 1000000000 := by
  intro l hl c k d ho hk
  have ho : 0 ≤ c ∧ -1 ≤ b l := ho
  constructor
  · intro h1 h2
    have h1 : k ≤ xrm (b l) c := h1
    have h2 : d = xmo (b l) c := h2
    show ¬ (0 < xrl (b l) (c + k) ∧ -d = xle (b l) (c + k)) ∧ (k = xrm (b l) c → k < 1000000000 → ¬ (0 < xrm (b l) (c + k) ∧ d = xmo (b l) (c + k)))
    unfold xrm at h1 ⊢
    unfold xmo at h2 ⊢
    unfold xrl xle
    by_cases e1 : b l = -1
    · simp only [if_pos e1] at h2 ⊢
      rw [if_neg (show ¬ c < b l by omega)]; omega
    · simp only [if_neg e1] at h2 ⊢
      by_cases e2 : c < b l
      · simp only [if_pos e2] at h1 h2 ⊢
        split <;> (try split) <;> omega
      · simp only [if_neg e2] at h1 h2 ⊢
        rw [if_neg (show ¬ c + k < b l by omega), if_neg (show ¬ c + k < b l by omega)]
        split <;> omega
  · intro h1 h2
    have h1 : k ≤ xrl (b l) c := h1
    have h2 : -d = xle (b l) c := h2
    show ¬ (0 < xrm (b l) (c - k) ∧ d = xmo (b l) (c - k)) ∧ (k = xrl (b l) c → k < 1000000000 → ¬ (0 < xrl (b l) (c - k) ∧ -d = xle (b l) (c - k)))
    unfold xrl at h1 ⊢
    unfold xle at h2 ⊢
    unfold xrm xmo
    by_cases e1 : b l = -1
    · simp only [if_pos e1] at h1 h2 ⊢; omega
    · simp only [if_neg e1] at h1 h2 ⊢
      by_cases e2 : b l < c
      · simp only [if_pos e2] at h1 h2 ⊢
        split <;> (try split) <;> omega
      · simp only [if_neg e2] at h1 h2 ⊢
        rw [if_neg (show ¬ b l < c - k by omega), if_neg (show ¬ b l < c - k by omega)]
        split <;> omega
theorem pigeon : ∀ (m : Nat) (L : List Nat), L.length < m → ∃ r, r < m ∧ ¬ r ∈ L := by
  intro m
  induction m with
  | zero => intro L h; omega
  | succ m ih =>
    intro L h
    by_cases hm : m ∈ L
    · have h1 := List.length_erase_of_mem hm
      have h0 : 0 < L.length := List.length_pos_of_mem hm
      obtain ⟨r, r1, r2⟩ := ih (L.erase m) (by omega)
      exact ⟨r, by omega, fun h2 => r2 ((List.mem_erase_of_ne (by omega)).mpr h2)⟩
    · exact ⟨m, by omega, hm⟩
theorem off64 (p : FZ) {N : Nat} (hN : N < 64) : ∃ r : Int, ∀ v, v < N → (p v + r) % 64 ≠ 63 := by
  obtain ⟨r, r1, r2⟩ := pigeon 64 ((List.range N).map (fun v => ((p v) % 64).toNat)) (by simp; exact hN)
  refine ⟨63 - (r : Int), fun v hv h => r2 ?_⟩
  refine List.mem_map.mpr ⟨v, List.mem_range.mpr hv, ?_⟩
  omega
theorem xw_opt {N m : Nat} {F T : Nat → Nat} {b c c2 p : FZ} (hw : ∀ l, l < m → F l < N ∧ T l < N) (hN : N < 64) (h : RC (xw N m F T b) c p) (z1 : ∀ v, v < N → nt (xw N m F T b) (fun _ => 0) c v m = 0) (z2 : ∀ v, v < N → nt (xw N m F T b) (fun _ => 0) c2 v m = 0) (hc2 : ∀ l, l < m → 0 ≤ c2 l) : smZ (fun l => xph (b l) (c l)) m ≤ smZ (fun l => xph (b l) (c2 l)) m := by
  obtain ⟨r, hr⟩ := off64 p hN
  have h' := RC_l.mp h
  let g : FZ := fun v => (p v + r) / 64
  have s1 := nt_sw (xw_NWF (b := b) hw) (fun _ => 0) c g
  have s2 := nt_sw (xw_NWF (b := b) hw) (fun _ => 0) c2 g
  have e1 : smZ (fun v => g v * nt (xw N m F T b) (fun _ => 0) c v (nm (xw N m F T b))) (nN (xw N m F T b)) = 0 := smZ_0 (fun v hv => by
    have := z1 v hv
    show g v * nt (xw N m F T b) (fun _ => 0) c v m = 0
    rw [this]; omega)
  have e2 : smZ (fun v => g v * nt (xw N m F T b) (fun _ => 0) c2 v (nm (xw N m F T b))) (nN (xw N m F T b)) = 0 := smZ_0 (fun v hv => by
    have := z2 v hv
    show g v * nt (xw N m F T b) (fun _ => 0) c2 v m = 0
    rw [this]; omega)
  rw [e1] at s1
  rw [e2] at s2
  have s1 : 0 = smZ (fun l => (0 + c l) * (g (T l) - g (F l))) m := s1
  have s2 : 0 = smZ (fun l => (0 + c2 l) * (g (T l) - g (F l))) m := s2
  have key : smZ (fun l => xph (b l) (c l) + (0 + c2 l) * (g (T l) - g (F l))) m ≤ smZ (fun l => xph (b l) (c2 l) + (0 + c l) * (g (T l) - g (F l))) m := by
    refine smZ_le (fun l hl => ?_)
    obtain ⟨a1, a2, a3⟩ := h' l hl
    have a1 : 0 ≤ c l ∧ -1 ≤ b l := a1
    have a2 : 0 < xrm (b l) (c l) → p (T l) - p (F l) ≤ xmo (b l) (c l) := a2
    have a3 : 0 < xrl (b l) (c l) → -(p (T l) - p (F l)) ≤ xle (b l) (c l) := a3
    obtain ⟨w1, w2⟩ := hw l hl
    have m1 := hr _ w1
    have m2 := hr _ w2
    have c20 := hc2 l hl
    have ge : ∀ v, g v = (p v + r) / 64 := fun v => rfl
    have gT := ge (T l)
    have gF := ge (F l)
    generalize g (T l) = gt at gT ⊢
    generalize g (F l) = gf at gF ⊢
    have t1 : gt - gf ≤ if b l = -1 then 0 else if c l < b l then -1 else 1 := by
      have := a2 (by unfold xrm; split <;> omega)
      unfold xmo at this
      split
      · next q => rw [if_pos q] at this; omega
      · next q =>
        rw [if_neg q] at this
        split
        · next q => rw [if_pos q] at this; omega
        · next q => rw [if_neg q] at this; omega
    have t2 : 0 < c l → -(gt - gf) ≤ if b l = -1 then 0 else if b l < c l then -1 else 1 := by
      intro hc
      have := a3 (by unfold xrl; split <;> (try split) <;> omega)
      unfold xle at this
      split
      · next q => rw [if_pos q] at this; omega
      · next q =>
        rw [if_neg q] at this
        split
        · next q => rw [if_pos q] at this; omega
        · next q => rw [if_neg q] at this; omega
    generalize gt - gf = d at t1 t2 ⊢
    have fin : (c2 l - c l) * d ≤ xph (b l) (c2 l) - xph (b l) (c l) := by
      by_cases hh : c l < c2 l
      · have q1 := Int.mul_le_mul_of_nonneg_left t1 (show 0 ≤ c2 l - c l by omega)
        refine Int.le_trans q1 ?_
        unfold xph
        split
        · omega
        · split <;> (try split) <;> omega
      · by_cases hh2 : c2 l = c l
        · rw [hh2]; simp
        · have t2 := t2 (by omega)
          have q1 := Int.mul_le_mul_of_nonneg_left t2 (show 0 ≤ c l - c2 l by omega)
          have q2 : (c2 l - c l) * d = (c l - c2 l) * (-d) := by grind
          rw [q2]
          refine Int.le_trans q1 ?_
          unfold xph
          split
          · omega
          · split <;> (try split) <;> omega
    have : (c2 l - c l) * d = (0 + c2 l) * d - (0 + c l) * d := by grind
    omega
  rw [smZ_add, smZ_add, ← s1, ← s2] at key
  omega
/-- the reference's -/
def rw' (N m : Nat) (F T : Nat → Nat) (k cp : FZ) : Nw := (N, m, F, T, fun l _ => k l, fun l _ => -k l, fun l c => cp l - c, fun _ c => c, fun l c => 0 ≤ c ∧ c ≤ cp l)
theorem rw_NWF {N m : Nat} {F T : Nat → Nat} {k cp : FZ} (h : ∀ l, l < m → F l < N ∧ T l < N ∧ 0 ≤ k l ∧ k l ≤ 1) : NWF (rw' N m F T k cp) 1 := by
  intro l hl
  obtain ⟨h1, h2, h3, h4⟩ := h l hl
  refine ⟨h1, h2, fun c _ => ?_⟩
  show (k l ≤ 1 ∧ -k l ≤ 1) ∧ (-1 ≤ k l ∧ -1 ≤ -k l)
  omega
theorem rw_NL {N m : Nat} {F T : Nat → Nat} {k cp : FZ} : NL (rw' N m F T k cp) := by
  intro l hl c a d ho ha
  have ho : 0 ≤ c ∧ c ≤ cp l := ho
  constructor
  · intro h1 h2
    have h1 : a ≤ cp l - c := h1
    have h2 : d = k l := h2
    show (0 ≤ c + a ∧ c + a ≤ cp l) ∧ (0 < cp l - (c + a) → d ≤ k l) ∧ (0 < c + a → -d ≤ -k l)
    omega
  · intro h1 h2
    have h1 : a ≤ c := h1
    have h2 : -d = -k l := h2
    show (0 ≤ c - a ∧ c - a ≤ cp l) ∧ (0 < cp l - (c - a) → d ≤ k l) ∧ (0 < c - a → -d ≤ -k l)
    omega
theorem rw_opt {N m : Nat} {F T : Nat → Nat} {k cp y f f2 p : FZ} (hw : ∀ l, l < m → F l < N ∧ T l < N ∧ 0 ≤ k l ∧ k l ≤ 1) (h : RC (rw' N m F T k cp) f p) (z1 : ∀ v, v < N → nt (rw' N m F T k cp) y f v m = 0) (z2 : ∀ v, v < N → nt (rw' N m F T k cp) y f2 v m = 0) (hf2 : ∀ l, l < m → 0 ≤ f2 l ∧ f2 l ≤ cp l) : smZ (fun l => k l * f l) m ≤ smZ (fun l => k l * f2 l) m := by
  have h' := RC_l.mp h
  have s1 := nt_sw (rw_NWF (cp := cp) hw) y f p
  have s2 := nt_sw (rw_NWF (cp := cp) hw) y f2 p
  have e1 : smZ (fun v => p v * nt (rw' N m F T k cp) y f v (nm (rw' N m F T k cp))) (nN (rw' N m F T k cp)) = 0 := smZ_0 (fun v hv => by
    have := z1 v hv
    show p v * nt (rw' N m F T k cp) y f v m = 0
    rw [this]; omega)
  have e2 : smZ (fun v => p v * nt (rw' N m F T k cp) y f2 v (nm (rw' N m F T k cp))) (nN (rw' N m F T k cp)) = 0 := smZ_0 (fun v hv => by
    have := z2 v hv
    show p v * nt (rw' N m F T k cp) y f2 v m = 0
    rw [this]; omega)
  rw [e1] at s1
  rw [e2] at s2
  have s1 : 0 = smZ (fun l => (y l + f l) * (p (T l) - p (F l))) m := s1
  have s2 : 0 = smZ (fun l => (y l + f2 l) * (p (T l) - p (F l))) m := s2
  have key : smZ (fun l => k l * f l + (y l + f2 l) * (p (T l) - p (F l))) m ≤ smZ (fun l => k l * f2 l + (y l + f l) * (p (T l) - p (F l))) m := by
    refine smZ_le (fun l hl => ?_)
    obtain ⟨a1, a2, a3⟩ := h' l hl
    have a1 : 0 ≤ f l ∧ f l ≤ cp l := a1
    have a2 : 0 < cp l - f l → p (T l) - p (F l) ≤ k l := a2
    have a3 : 0 < f l → -(p (T l) - p (F l)) ≤ -k l := a3
    have b1 := hf2 l hl
    generalize p (T l) - p (F l) = d at a2 a3 ⊢
    have fin : (f2 l - f l) * d ≤ (f2 l - f l) * k l := by
      by_cases hh : f l < f2 l
      · exact Int.mul_le_mul_of_nonneg_left (a2 (by omega)) (by omega)
      · by_cases hh2 : f2 l = f l
        · rw [hh2]; simp
        · have q1 := Int.mul_le_mul_of_nonneg_left (a3 (by omega)) (show 0 ≤ f l - f2 l by omega)
          have q2 : (f2 l - f l) * d = (f l - f2 l) * (-d) := by grind
          have q3 : (f2 l - f l) * k l = (f l - f2 l) * (-k l) := by grind
          rw [q2, q3]; exact q1
    have r1 : (f2 l - f l) * d = (y l + f2 l) * d - (y l + f l) * d := by grind
    have r2 : (f2 l - f l) * k l = k l * f2 l - k l * f l := by grind
    omega
  rw [smZ_add, smZ_add, ← s1, ← s2] at key
  omega
/-- the one against the other: j links of the graph, m pairs of the reference -/
def nG (F T : Nat → Nat) (c : FZ) (v j : Nat) : Int := smZ (fun l => c l * (i1 (T l) v - i1 (F l) v)) j
theorem nG_s (F T : Nat → Nat) (c : FZ) (v j : Nat) : nG F T c v (j + 1) = nG F T c v j + c j * (i1 (T j) v - i1 (F j) v) := rfl
abbrev upNn (f : Nat → Nat) (x v : Nat) : Nat → Nat := fun y => if y = x then v else f y
def PR2 (F0 T0 : Nat → Nat) (b : FZ) (j m : Nat) (F T : Nat → Nat) (k cp y : FZ) : Prop := (∀ c2 : FZ, (∀ l, l < j → 0 ≤ c2 l ∧ c2 l ≤ 2000000000) → ∃ f2 : FZ, (∀ i, i < m → 0 ≤ f2 i ∧ f2 i ≤ cp i) ∧ (∀ v, smZ (fun i => (y i + f2 i) * (i1 (T i) v - i1 (F i) v)) m = nG F0 T0 c2 v j) ∧ smZ (fun i => k i * f2 i) m ≤ smZ (fun l => xph (b l) (c2 l)) j) ∧ (∀ f : FZ, (∀ i, i < m → 0 ≤ f i ∧ f i ≤ cp i) → ∃ c2 : FZ, (∀ l, l < j → 0 ≤ c2 l) ∧ (∀ v, nG F0 T0 c2 v j = smZ (fun i => (y i + f i) * (i1 (T i) v - i1 (F i) v)) m) ∧ smZ (fun l => xph (b l) (c2 l)) j ≤ smZ (fun i => k i * f i) m)
theorem PR2_0 (F0 T0 : Nat → Nat) (b : FZ) (F T : Nat → Nat) (k cp y : FZ) : PR2 F0 T0 b 0 0 F T k cp y := ⟨fun _ _ => ⟨fun _ => 0, fun i hi => absurd hi (by omega), fun _ => rfl, Int.le_refl _⟩, fun _ _ => ⟨fun _ => 0, fun i hi => absurd hi (by omega), fun _ => rfl, Int.le_refl _⟩⟩
theorem nG_up {F T : Nat → Nat} {c : FZ} {v j x : Nat} {z : Int} (h : j ≤ x) : nG F T (upZ c x z) v j = nG F T c v j := smZ_congr (fun l hl => by rw [upZ_n (by omega)])
theorem PR2_sl {F0 T0 : Nat → Nat} {b : FZ} {j m : Nat} {F T : Nat → Nat} {k cp y : FZ} (h : PR2 F0 T0 b j m F T k cp y) (he : F0 j = T0 j) (hb : 0 ≤ b j) : PR2 F0 T0 b (j + 1) m F T k cp y := by
  constructor
  · intro c2 hc
    obtain ⟨f2, g1, g2, g3⟩ := h.1 c2 (fun l hl => hc l (by omega))
    refine ⟨f2, g1, fun v => ?_, ?_⟩
    · rw [g2 v, nG_s, he, show i1 (T0 j) v - i1 (T0 j) v = 0 by omega]; omega
    · rw [smZ_s]
      have : 0 ≤ xph (b j) (c2 j) := by unfold xph; split <;> (try split) <;> omega
      omega
  · intro f hf
    obtain ⟨c2, g1, g2, g3⟩ := h.2 f hf
    refine ⟨upZ c2 j (b j), fun l hl => ?_, fun v => ?_, ?_⟩
    · by_cases e : l = j
      · subst e; rw [upZ_e]; exact hb
      · rw [upZ_n e]; exact g1 l (by omega)
    · rw [nG_s, nG_up (Nat.le_refl _), g2 v, he, show i1 (T0 j) v - i1 (T0 j) v = 0 by omega]; omega
    · rw [smZ_s, upZ_e, smZ_congr (g := fun l => xph (b l) (c2 l)) (fun l hl => by rw [upZ_n (by omega)])]
      have : xph (b j) (b j) = 0 := by unfold xph; split <;> (try split) <;> omega
      omega
theorem PR2_cg {F0 T0 : Nat → Nat} {b : FZ} {j m : Nat} {F T F' T' : Nat → Nat} {k cp y k' cp' y' : FZ} (h : PR2 F0 T0 b j m F T k cp y) (he : ∀ i, i < m → F' i = F i ∧ T' i = T i ∧ k' i = k i ∧ cp' i = cp i ∧ y' i = y i) : PR2 F0 T0 b j m F' T' k' cp' y' := by
  have s1 : ∀ (f : FZ) v, smZ (fun i => (y' i + f i) * (i1 (T' i) v - i1 (F' i) v)) m = smZ (fun i => (y i + f i) * (i1 (T i) v - i1 (F i) v)) m := fun f v => smZ_congr (fun i hi => by obtain ⟨a1, a2, a3, a4, a5⟩ := he i hi; rw [a1, a2, a5])
  have s2 : ∀ (f : FZ), smZ (fun i => k' i * f i) m = smZ (fun i => k i * f i) m := fun f => smZ_congr (fun i hi => by obtain ⟨a1, a2, a3, a4, a5⟩ := he i hi; rw [a3])
  constructor
  · intro c2 hc
    obtain ⟨f2, g1, g2, g3⟩ := h.1 c2 hc
    refine ⟨f2, fun i hi => ?_, fun v => ?_, ?_⟩
    · rw [(he i hi).2.2.2.1]; exact g1 i hi
    · rw [s1]; exact g2 v
    · rw [s2]; exact g3
  · intro f hf
    obtain ⟨c2, g1, g2, g3⟩ := h.2 f (fun i hi => by have := hf i hi; rw [(he i hi).2.2.2.1] at this; exact this)
    refine ⟨c2, g1, fun v => ?_, ?_⟩
    · rw [s1]; exact g2 v
    · rw [s2]; exact g3
theorem PR2_end {F0 T0 : Nat → Nat} {b : FZ} {j m : Nat} {F T : Nat → Nat} {k cp y : FZ} (h : PR2 F0 T0 b j m F T k cp y) (hb : b j = -1) (h1 : F m = F0 j) (h2 : T m = T0 j) (h3 : k m = 0) (h4 : cp m = 1000000000000000) (h5 : y m = 0) : PR2 F0 T0 b (j + 1) (m + 1) F T k cp y := by
  constructor
  · intro c2 hc
    obtain ⟨f2, g1, g2, g3⟩ := h.1 c2 (fun l hl => hc l (by omega))
    have hj := hc j (by omega)
    refine ⟨upZ f2 m (c2 j), fun i hi => ?_, fun v => ?_, ?_⟩
    · by_cases e : i = m
      · subst e; rw [upZ_e, h4]; omega
      · rw [upZ_n e]; exact g1 i (by omega)
    · rw [smZ_s, smZ_congr (g := fun i => (y i + f2 i) * (i1 (T i) v - i1 (F i) v)) (fun i hi => by rw [upZ_n (by omega)]), g2 v, nG_s, upZ_e, h1, h2, h5]
      simp
    · rw [smZ_s, smZ_s, smZ_congr (g := fun i => k i * f2 i) (fun i hi => by rw [upZ_n (by omega)]), h3]
      have : xph (b j) (c2 j) = 0 := by unfold xph; rw [if_pos hb]
      omega
  · intro f hf
    obtain ⟨c2, g1, g2, g3⟩ := h.2 f (fun i hi => hf i (by omega))
    have hm := hf m (by omega)
    refine ⟨upZ c2 j (f m), fun l hl => ?_, fun v => ?_, ?_⟩
    · by_cases e : l = j
      · subst e; rw [upZ_e]; omega
      · rw [upZ_n e]; exact g1 l (by omega)
    · rw [nG_s, nG_up (Nat.le_refl _), g2 v, upZ_e, smZ_s, h1, h2, h5]
      simp
    · rw [smZ_s, smZ_s, smZ_congr (g := fun l => xph (b l) (c2 l)) (fun l hl => by rw [upZ_n (by omega)]), h3]
      have : ∀ z, xph (b j) z = 0 := fun z => by unfold xph; rw [if_pos hb]
      rw [this]; omega
theorem PR2_ed {F0 T0 : Nat → Nat} {b : FZ} {j m : Nat} {F T : Nat → Nat} {k cp y : FZ} (h : PR2 F0 T0 b j m F T k cp y) (hb : 0 ≤ b j) (h1 : F m = F0 j) (h2 : T m = T0 j) (h3 : k m = 1) (h4 : cp m = 1000000000000000) (h5 : y m = 0) (i1' : F (m + 1) = T0 j) (i2 : T (m + 1) = F0 j) (i3 : k (m + 1) = 1) (i4 : cp (m + 1) = b j) (i5 : y (m + 1) = -b j) : PR2 F0 T0 b (j + 1) (m + 2) F T k cp y := by
  constructor
  · intro c2 hc
    obtain ⟨f2, g1, g2, g3⟩ := h.1 c2 (fun l hl => hc l (by omega))
    have hj := hc j (by omega)
    refine ⟨upZ (upZ f2 m (if b j < c2 j then c2 j - b j else 0)) (m + 1) (if b j < c2 j then 0 else b j - c2 j), fun i hi => ?_, fun v => ?_, ?_⟩
    · by_cases e : i = m + 1
      · subst e; rw [upZ_e, i4]; split <;> omega
      · rw [upZ_n e]
        by_cases e2 : i = m
        · subst e2; rw [upZ_e, h4]; split <;> omega
        · rw [upZ_n e2]; exact g1 i (by omega)
    · rw [show m + 2 = m + 1 + 1 from rfl, smZ_s, smZ_s, smZ_congr (g := fun i => (y i + f2 i) * (i1 (T i) v - i1 (F i) v)) (fun i hi => by rw [upZ_n (by omega), upZ_n (by omega)]), g2 v, nG_s, upZ_e, upZ_n (show m ≠ m + 1 by omega), upZ_e, h1, h2, h5, i1', i2, i5]
      split <;> grind
    · rw [show m + 2 = m + 1 + 1 from rfl, smZ_s, smZ_s, smZ_s, smZ_congr (g := fun i => k i * f2 i) (fun i hi => by rw [upZ_n (by omega), upZ_n (by omega)]), upZ_e, upZ_n (show m ≠ m + 1 by omega), upZ_e, h3, i3]
      unfold xph at *
      split <;> (try split) <;> (try split) <;> omega
  · intro f hf
    obtain ⟨c2, g1, g2, g3⟩ := h.2 f (fun i hi => hf i (by omega))
    have hm := hf m (by omega)
    have hm1 := hf (m + 1) (by omega)
    rw [i4] at hm1
    refine ⟨upZ c2 j (b j + f m - f (m + 1)), fun l hl => ?_, fun v => ?_, ?_⟩
    · by_cases e : l = j
      · subst e; rw [upZ_e]; omega
      · rw [upZ_n e]; exact g1 l (by omega)
    · rw [nG_s, nG_up (Nat.le_refl _), g2 v, upZ_e, show m + 2 = m + 1 + 1 from rfl, smZ_s, smZ_s, h1, h2, h5, i1', i2, i5]
      grind
    · rw [smZ_s, show m + 2 = m + 1 + 1 from rfl, smZ_s, smZ_s, smZ_congr (g := fun l => xph (b l) (c2 l)) (fun l hl => by rw [upZ_n (by omega)]), h3, i3, upZ_e]
      unfold xph at *
      split <;> (try split) <;> omega
