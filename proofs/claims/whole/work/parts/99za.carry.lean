/-- the chain from a lack back to what has too much -/
def PF (a : Ac) (Fr : Int) (X far : FZ) (bY : Nat → Option Nat) (rk : Nat → Nat) (P e : Nat → Nat) (n : Nat) : Prop := (∀ i, i ≤ n → P i < zN a ∧ far (P i) ≠ Fr) ∧ (∀ i, i < n → bY (P i) = some (e i) ∧ e i < zM a ∧ zA a (e i) = true ∧ zV a (e i) = P i ∧ zU a (e i) = P (i + 1) ∧ far (P (i + 1)) + zC a (e i) = far (P i) ∧ rk (P (i + 1)) < rk (P i)) ∧ bY (P n) = none ∧ 0 < X (P n) ∧ far (P n) = 0
theorem PF_ex {a : Ac} {Fr K K' : Int} {p X far : FZ} {bY : Nat → Option Nat} {rk : Nat → Nat} (wA : zAW a K') (h : zOT a Fr K p X far bY rk) : ∀ m s, rk s ≤ m → s < zN a → far s ≠ Fr → ∃ P e n, n ≤ rk s ∧ P 0 = s ∧ PF a Fr X far bY rk P e n := by
  intro m
  induction m with
  | zero =>
    intro s hm hs hf
    rcases (h.2 s hs).2 with q | ⟨q1, _, q2, q3, q4⟩
    · exact absurd q.1 hf
    rcases q4 with ⟨r1, r2, r3⟩ | ⟨j, j1, j2, j3, j4, j5, j6, j7⟩
    · exact ⟨fun _ => s, fun _ => 0, 0, Nat.zero_le _, rfl, fun i hi => ⟨hs, hf⟩, fun i hi => absurd hi (by omega), r1, r2, r3⟩
    · omega
  | succ m ih =>
    intro s hm hs hf
    rcases (h.2 s hs).2 with q | ⟨q1, _, q2, q3, q4⟩
    · exact absurd q.1 hf
    rcases q4 with ⟨r1, r2, r3⟩ | ⟨j, j1, j2, j3, j4, j5, j6, j7⟩
    · exact ⟨fun _ => s, fun _ => 0, 0, Nat.zero_le _, rfl, fun i hi => ⟨hs, hf⟩, fun i hi => absurd hi (by omega), r1, r2, r3⟩
    · obtain ⟨P, e, n, g0, g1, g2, g3, g4, g5, g6⟩ := ih (zU a j) (by omega) (wA j j2).1 j5
      refine ⟨fun i => match i with | 0 => s | i + 1 => P i, fun i => match i with | 0 => j | i + 1 => e i, n + 1, by omega, rfl, ?_, ?_, g4, g5, g6⟩
      · intro i hi
        cases i with
        | zero => exact ⟨hs, hf⟩
        | succ i => exact g2 i (by omega)
      · intro i hi
        cases i with
        | zero =>
          show bY s = some j ∧ j < zM a ∧ zA a j = true ∧ zV a j = s ∧ zU a j = P 0 ∧ far (P 0) + zC a j = far s ∧ rk (P 0) < rk s
          rw [g1]
          exact ⟨j1, j2, j3, j4, rfl, j6, j7⟩
        | succ i => exact g3 i (by omega)
theorem PF_rk {a : Ac} {Fr : Int} {X far : FZ} {bY : Nat → Option Nat} {rk P e : Nat → Nat} {n : Nat} (h : PF a Fr X far bY rk P e n) : ∀ d i, i + d + 1 ≤ n → rk (P (i + d + 1)) < rk (P i) := by
  intro d
  induction d with
  | zero => intro i hi; exact (h.2.1 i (by omega)).2.2.2.2.2.2
  | succ d ih =>
    intro i hi
    have h1 := ih i (by omega)
    have h2 := (h.2.1 (i + d + 1) (by omega)).2.2.2.2.2.2
    have e : i + (d + 1) + 1 = i + d + 1 + 1 := by omega
    rw [e]; omega
theorem PF_lt {a : Ac} {Fr : Int} {X far : FZ} {bY : Nat → Option Nat} {rk P e : Nat → Nat} {n : Nat} (h : PF a Fr X far bY rk P e n) {i j : Nat} (hij : i < j) (hj : j ≤ n) : rk (P j) < rk (P i) := by
  have := PF_rk h (j - i - 1) i (by omega)
  rwa [show i + (j - i - 1) + 1 = j by omega] at this
theorem PF_far {a : Ac} {Fr K : Int} {X far : FZ} {bY : Nat → Option Nat} {rk P e : Nat → Nat} {n : Nat} (wA : zAW a K) (h : PF a Fr X far bY rk P e n) : ∀ d i, i + d = n → far (P i) ≤ K * (d : Int) := by
  intro d
  induction d with
  | zero => intro i hi; rw [show i = n by omega, h.2.2.2.2]; simp
  | succ d ih =>
    intro i hi
    obtain ⟨_, g2, _, _, _, g6, _⟩ := h.2.1 i (by omega)
    have := ih (i + 1) (by omega)
    have := (wA _ g2).2.2
    have e : K * ((d + 1 : Nat) : Int) = K * (d : Int) + K := by rw [Int.natCast_add, Int.mul_add]; simp
    omega
/-- no link is on it twice -/
theorem PF_ne {w : Nw} {c : FZ} {Fr : Int} {X far : FZ} {bY : Nat → Option Nat} {rk P e : Nat → Nat} {n : Nat} (h : PF (nA w c) Fr X far bY rk P e n) {i j : Nat} (hij : i < j) (hj : j < n) : e i / 2 ≠ e j / 2 := by
  intro he
  obtain ⟨_, _, _, a4, a5, _, _⟩ := h.2.1 i (by omega)
  obtain ⟨_, _, _, b4, b5, _, _⟩ := h.2.1 j hj
  have l1 := PF_lt h hij (by omega)
  have l2 := PF_lt h (show i < j + 1 by omega) (by omega)
  have a4 : nV w (e i) = P i := a4
  have a5 : nU w (e i) = P (i + 1) := a5
  have b4 : nV w (e j) = P j := b4
  have b5 : nU w (e j) = P (j + 1) := b5
  unfold nV at a4 b4
  unfold nU at a5 b5
  by_cases e1 : e i % 2 = 0 <;> by_cases e2 : e j % 2 = 0
  · rw [if_pos e1] at a4; rw [if_pos e2, ← he, a4] at b4; rw [b4] at l1; omega
  · rw [if_pos e1] at a4; rw [if_neg e2, ← he, a4] at b5; rw [b5] at l2; omega
  · rw [if_neg e1] at a4; rw [if_pos e2, ← he, a4] at b5; rw [b5] at l2; omega
  · rw [if_neg e1] at a4; rw [if_neg e2, ← he, a4] at b4; rw [b4] at l1; omega
/-- carrying along it -/
def Pu (w : Nw) (y q c : FZ) (P e : Nat → Nat) (k : Int) (i : Nat) (ci : FZ) : Prop := RC w ci q ∧ (∀ l, l < nm w → ci l = c l ∨ ∃ j, j < i ∧ e j / 2 = l) ∧ (∀ l, l < nm w → ci l ≤ c l + k) ∧ ∀ v, nt w y ci v (nm w) = nt w y c v (nm w) + k * (i1 (P 0) v - i1 (P i) v)
theorem Pu_0 {w : Nw} {y q c : FZ} {P e : Nat → Nat} {k : Int} (h : RC w c q) (hk : 0 < k) : Pu w y q c P e k 0 c := ⟨h, fun _ _ => .inl rfl, fun _ _ => by omega, fun v => by rw [show i1 (P 0) v - i1 (P 0) v = 0 by omega]; omega⟩
theorem Pu_fr {w : Nw} {y q c : FZ} {P e : Nat → Nat} {k : Int} {i : Nat} {ci : FZ} {Fr : Int} {X far : FZ} {bY : Nat → Option Nat} {rk : Nat → Nat} {n : Nat} (h : Pu w y q c P e k i ci) (hP : PF (nA w c) Fr X far bY rk P e n) (hi : i < n) : ci (e i / 2) = c (e i / 2) := by
  have hl : e i < 2 * nm w := (hP.2.1 i hi).2.1
  rcases h.2.1 (e i / 2) (by omega) with h1 | ⟨j, j1, j2⟩
  · exact h1
  · exact absurd j2 (PF_ne hP j1 hi)
theorem Pu_st {w : Nw} {y q c : FZ} {P e : Nat → Nat} {k : Int} {i : Nat} {ci : FZ} {Fr : Int} {X far : FZ} {bY : Nat → Option Nat} {rk : Nat → Nat} {n : Nat} (hL : NL w) (h : Pu w y q c P e k i ci) (hP : PF (nA w c) Fr X far bY rk P e n) (hi : i < n) (hk : 0 < k) (hr : k ≤ nR w c (e i)) (hq : ∀ i, i ≤ n → q (P i) = far (P i)) : Pu w y q c P e k (i + 1) (psh ci (e i) k) := by
  have hf := Pu_fr h hP hi
  obtain ⟨_, g2, g3, g4, g5, g6, _⟩ := hP.2.1 i hi
  have g2 : e i < 2 * nm w := g2
  have g4 : nV w (e i) = P i := g4
  have g5 : nU w (e i) = P (i + 1) := g5
  have g6 : far (P (i + 1)) + nC w c (e i) = far (P i) := g6
  have eC : nC w ci (e i) = nC w c (e i) := by unfold nC; rw [hf]
  have eR : nR w ci (e i) = nR w c (e i) := by unfold nR; rw [hf]
  refine ⟨RC_psh hL h.1 g2 hk (by rw [eR]; exact hr) (by rw [g4, g5, eC, hq i (by omega), hq (i + 1) (by omega)]; omega), fun l hl => ?_, fun l hl => ?_, fun v => ?_⟩
  · by_cases e1 : l = e i / 2
    · exact .inr ⟨i, by omega, e1.symm⟩
    · unfold psh
      rw [upZ_n e1]
      rcases h.2.1 l hl with h1 | ⟨j, j1, j2⟩
      · exact .inl h1
      · exact .inr ⟨j, by omega, j2⟩
  · by_cases e1 : l = e i / 2
    · subst e1
      unfold psh
      rw [upZ_e, hf]
      split <;> omega
    · unfold psh
      rw [upZ_n e1]
      exact h.2.2.1 l hl
  · rw [nt_psh g2, h.2.2.2 v, g4, g5]
    grind
/-- tight arcs: for the number of rounds -/
def tg (w : Nw) (q c : FZ) (a : Nat) : Bool := decide (0 < nR w c a ∧ q (nV w a) = q (nU w a) + nC w c a)
def NS (w : Nw) (Mx : Int) : Prop := ∀ l, l < nm w → ∀ c k d : Int, nok w l c → 0 < k → (k ≤ nrm w l c → d = nmo w l c → ¬ (0 < nrl w l (c + k) ∧ -d = nle w l (c + k)) ∧ (k = nrm w l c → k < Mx → ¬ (0 < nrm w l (c + k) ∧ d = nmo w l (c + k)))) ∧ (k ≤ nrl w l c → -d = nle w l c → ¬ (0 < nrm w l (c - k) ∧ d = nmo w l (c - k)) ∧ (k = nrl w l c → k < Mx → ¬ (0 < nrl w l (c - k) ∧ -d = nle w l (c - k))))
def Pt (w : Nw) (q c : FZ) (e : Nat → Nat) (k : Int) (i : Nat) (ci : FZ) : Prop := (∀ a, a < 2 * nm w → tg w q ci a = true → tg w q c a = true) ∧ ∀ j, j < i → k = nR w c (e j) → tg w q ci (e j) = false
theorem Pt_0 {w : Nw} {q c : FZ} {e : Nat → Nat} {k : Int} : Pt w q c e k 0 c := ⟨fun _ _ h => h, fun j hj => absurd hj (by omega)⟩
theorem tg_ne {w : Nw} {q c c' : FZ} {a : Nat} (h : c' (a / 2) = c (a / 2)) : tg w q c' a = tg w q c a := by
  unfold tg nR nC; rw [h]
theorem Pt_st {w : Nw} {y q c : FZ} {P e : Nat → Nat} {k Mx : Int} {i : Nat} {ci : FZ} {Fr : Int} {X far : FZ} {bY : Nat → Option Nat} {rk : Nat → Nat} {n : Nat} (hS : NS w Mx) (h : Pu w y q c P e k i ci) (ht : Pt w q c e k i ci) (hP : PF (nA w c) Fr X far bY rk P e n) (hi : i < n) (hk : 0 < k) (hM : k < Mx) (hr : k ≤ nR w c (e i)) (hq : ∀ i, i ≤ n → q (P i) = far (P i)) : Pt w q c e k (i + 1) (psh ci (e i) k) := by
  have hf := Pu_fr h hP hi
  obtain ⟨_, g2, g3, g4, g5, g6, _⟩ := hP.2.1 i hi
  have g2 : e i < 2 * nm w := g2
  have g4 : nV w (e i) = P i := g4
  have g5 : nU w (e i) = P (i + 1) := g5
  have g6 : far (P (i + 1)) + nC w c (e i) = far (P i) := g6
  have tt : q (nV w (e i)) = q (nU w (e i)) + nC w c (e i) := by rw [g4, g5, hq i (by omega), hq (i + 1) (by omega)]; omega
  have hl : e i / 2 < nm w := by omega
  have hok := h.1.2 _ hl
  rw [hf] at hok
  obtain ⟨s1, s2⟩ := hS _ hl (c (e i / 2)) k (q (nT w (e i / 2)) - q (nF w (e i / 2))) hok hk
  have fin : (∀ a, a / 2 = e i / 2 → a ≠ e i → tg w q (psh ci (e i) k) a = false) ∧ (k = nR w c (e i) → tg w q (psh ci (e i) k) (e i) = false) := by
    unfold nV nU nC at tt
    unfold nR at hr
    by_cases e1 : e i % 2 = 0
    · rw [if_pos e1] at hr
      rw [if_pos e1, if_pos e1, if_pos e1] at tt
      obtain ⟨s3, s4⟩ := s1 hr (by omega)
      refine ⟨fun a ha hn => ?_, fun hkr => ?_⟩
      · have e2 : ¬ a % 2 = 0 := by omega
        refine decide_eq_false (fun ⟨z1, z2⟩ => s3 ?_)
        unfold nR psh at z1
        unfold nV nU nC psh at z2
        rw [if_neg e2, ha, upZ_e, if_pos e1, hf] at z1
        rw [if_neg e2, if_neg e2, if_neg e2, ha, upZ_e, if_pos e1, hf] at z2
        exact ⟨z1, by omega⟩
      · unfold nR at hkr
        rw [if_pos e1] at hkr
        refine decide_eq_false (fun ⟨z1, z2⟩ => s4 hkr hM ?_)
        unfold nR psh at z1
        unfold nV nU nC psh at z2
        rw [if_pos e1, upZ_e, if_pos e1, hf] at z1
        rw [if_pos e1, if_pos e1, if_pos e1, upZ_e, if_pos e1, hf] at z2
        exact ⟨z1, by omega⟩
    · rw [if_neg e1] at hr
      rw [if_neg e1, if_neg e1, if_neg e1] at tt
      obtain ⟨s3, s4⟩ := s2 hr (by omega)
      refine ⟨fun a ha hn => ?_, fun hkr => ?_⟩
      · have e2 : a % 2 = 0 := by omega
        refine decide_eq_false (fun ⟨z1, z2⟩ => s3 ?_)
        unfold nR psh at z1
        unfold nV nU nC psh at z2
        rw [if_pos e2, ha, upZ_e, if_neg e1, hf] at z1
        rw [if_pos e2, if_pos e2, if_pos e2, ha, upZ_e, if_neg e1, hf] at z2
        exact ⟨z1, by omega⟩
      · unfold nR at hkr
        rw [if_neg e1] at hkr
        refine decide_eq_false (fun ⟨z1, z2⟩ => s4 hkr hM ?_)
        unfold nR psh at z1
        unfold nV nU nC psh at z2
        rw [if_neg e1, upZ_e, if_neg e1, hf] at z1
        rw [if_neg e1, if_neg e1, if_neg e1, upZ_e, if_neg e1, hf] at z2
        exact ⟨z1, by omega⟩
  have other : ∀ a, a / 2 ≠ e i / 2 → tg w q (psh ci (e i) k) a = tg w q ci a := fun a ha => tg_ne (by unfold psh; rw [upZ_n ha])
  refine ⟨fun a ha h1 => ?_, fun j hj hkr => ?_⟩
  · by_cases e1 : a = e i
    · subst e1
      exact decide_eq_true ⟨by omega, tt⟩
    · by_cases e2 : a / 2 = e i / 2
      · rw [fin.1 a e2 e1] at h1; exact absurd h1 (by decide)
      · rw [other a e2] at h1
        exact ht.1 a ha h1
  · by_cases e1 : j = i
    · subst e1; exact fin.2 hkr
    · rw [other _ (PF_ne hP (show j < i by omega) hi)]
      exact ht.2 j (by omega) hkr
def Ms (w : Nw) (q c X : FZ) : Nat := cntP (tg w q c) (2 * nm w) + cntP (fun v => decide (X v ≠ 0)) (nN w)
def xP (X : FZ) (s t : Nat) (k : Int) : FZ := upZ (upZ X t (X t - k)) s (X s + k)
theorem xP_v {X : FZ} {s t : Nat} {k : Int} (h : s ≠ t) (v : Nat) : xP X s t k v = X v + k * (i1 s v - i1 t v) := by
  unfold xP
  by_cases e : v = s
  · subst e
    rw [upZ_e, i1, i1, if_pos rfl, if_neg (Ne.symm h)]; omega
  · rw [upZ_n e]
    by_cases e2 : v = t
    · subst e2
      rw [upZ_e, i1, i1, if_pos rfl, if_neg h]; omega
    · rw [upZ_n e2, i1, i1, if_neg (Ne.symm e), if_neg (Ne.symm e2)]; omega
theorem Ms_lt {w : Nw} {q c X ci : FZ} {e : Nat → Nat} {k : Int} {n s t : Nat} (h : Pt w q c e k n ci) (he : ∀ j, j < n → e j < 2 * nm w ∧ tg w q c (e j) = true) (hs : s < nN w) (ht : t < nN w) (hne : s ≠ t) (hk : 0 < k) (h1 : k ≤ -X s) (h2 : k ≤ X t) (ha : k = -X s ∨ k = X t ∨ ∃ j, j < n ∧ k = nR w c (e j)) : Ms w q ci (xP X s t k) < Ms w q c X := by
  have xs : xP X s t k s = X s + k := by unfold xP; rw [upZ_e]
  have xt : xP X s t k t = X t - k := by unfold xP; rw [upZ_n (Ne.symm hne), upZ_e]
  have xi : ∀ v, v < nN w → decide (xP X s t k v ≠ 0) = true → decide (X v ≠ 0) = true := by
    intro v hv hx
    have hx := of_decide_eq_true hx
    refine decide_eq_true ?_
    by_cases e1 : v = s
    · subst e1; omega
    · by_cases e2 : v = t
      · subst e2; omega
      · unfold xP at hx
        rw [upZ_n e1, upZ_n e2] at hx; exact hx
  have m1 := cntP_inc (P := tg w q ci) (Q := tg w q c) (n := 2 * nm w) h.1
  have m2 := cntP_inc (P := fun v => decide (xP X s t k v ≠ 0)) (Q := fun v => decide (X v ≠ 0)) (n := nN w) xi
  unfold Ms
  rcases ha with ha | ha | ⟨j, j1, j2⟩
  · have := cntP_inc_lt (P := fun v => decide (xP X s t k v ≠ 0)) (Q := fun v => decide (X v ≠ 0)) (n := nN w) (b := s) xi hs (decide_eq_false (by rw [xs]; omega)) (decide_eq_true (by omega))
    omega
  · have := cntP_inc_lt (P := fun v => decide (xP X s t k v ≠ 0)) (Q := fun v => decide (X v ≠ 0)) (n := nN w) (b := t) xi ht (decide_eq_false (by rw [xt]; omega)) (decide_eq_true (by omega))
    omega
  · have := cntP_inc_lt (P := tg w q ci) (Q := tg w q c) (n := 2 * nm w) (b := e j) h.1 (he j j1).1 (h.2 j j1 j2) (he j j1).2
    omega
theorem Ms_le (w : Nw) (q c X : FZ) : Ms w q c X ≤ 2 * nm w + nN w := by
  have h1 := cntP_le (tg w q c) (2 * nm w)
  have h2 := cntP_le (fun v => decide (X v ≠ 0)) (nN w)
  unfold Ms; omega
/-- all that is too much -/
def ps (X : FZ) (n : Nat) : Int := smZ (fun v => if 0 < X v then X v else 0) n
theorem ps_0 (X : FZ) (n : Nat) : 0 ≤ ps X n := by
  have := smZ_le (f := fun _ => 0) (g := fun v => if 0 < X v then X v else 0) (n := n) (fun i _ => by (try dsimp only); split <;> omega)
  rw [smZ_0 (fun _ _ => rfl)] at this; exact this
theorem ps_xP {X : FZ} {s t n : Nat} {k : Int} (ht : t < n) (hne : s ≠ t) (hk : 0 < k) (h1 : k ≤ -X s) (h2 : k ≤ X t) : ps (xP X s t k) n = ps X n - k := by
  have e : ps (xP X s t k) n = smZ (upZ (fun v => if 0 < X v then X v else 0) t (X t - k)) n := by
    refine smZ_congr (fun v hv => ?_)
    by_cases e1 : v = s
    · subst e1
      rw [upZ_n hne]
      unfold xP
      rw [upZ_e, if_neg (by omega), if_neg (by omega)]
    · unfold xP
      rw [upZ_n e1]
      by_cases e2 : v = t
      · subst e2
        rw [upZ_e, upZ_e]; split <;> omega
      · rw [upZ_n e2, upZ_n e2]
  rw [e, smZ_up ht, if_pos (by omega)]
  show ps X n - _ + _ = _
  omega
/-- the potential of a round -/
theorem round_q {w : Nw} {K Fr D : Int} {c X p far : FZ} {bY : Nat → Option Nat} {rk : Nat → Nat} {s : Nat} (hw : NWF w K) (hFr : 0 < Fr) (hK : 0 ≤ K) (hc : RC w c p) (hp : ∀ v, v < nN w → 0 ≤ p v ∧ (0 < X v → p v ≤ 0) ∧ (X v < 0 → D ≤ p v)) (ho : zOT (nA w c) Fr K p X far bY rk) (hs : s < nN w) (hx : X s < 0) (hf : far s ≠ Fr) (hm : ∀ v, v < nN w → X v < 0 → far v ≠ Fr → far s ≤ far v) : ∃ q P e n, n < nN w ∧ P 0 = s ∧ PF (nA w c) Fr X far bY rk P e n ∧ RC w c q ∧ (∀ i, i ≤ n → q (P i) = far (P i)) ∧ (∀ v, v < nN w → 0 ≤ q v ∧ (0 < X v → q v ≤ 0) ∧ (X v < 0 → far s ≤ q v)) ∧ (far s = D → q = p) ∧ D ≤ far s ∧ far s ≤ K * (n : Int) := by
  have wA : zAW (nA w c) K := zAW_n hw hc.2
  have lo := fun {j : Nat} (hj : j < 2 * nm w) => nC_lo hw hc.2 hj
  obtain ⟨P, e, n, g0, g1, hP⟩ := PF_ex wA ho _ s (Nat.le_refl _) hs hf
  have hn : n < nN w := by have : rk s < nN w := (ho.2 s hs).1; omega
  have pf : ∀ v, v < nN w → far v ≠ Fr → p v ≤ far v ∧ far v + K < Fr ∧ (0 < X v → far v ≤ 0) := by
    intro v hv hfv
    rcases (ho.2 v hv).2 with q | ⟨q1, q2, q3, q4, _⟩
    · exact absurd q.1 hfv
    · exact ⟨q3, q2, q4⟩
  have d1 : D ≤ far s := by have := (hp s hs).2.2 hx; have := (pf s hs hf).1; omega
  have d2 : far s ≤ K * (n : Int) := by have := PF_far wA hP n 0 (by omega); rwa [g1] at this
  by_cases hD : far s = D
  · refine ⟨p, P, e, n, hn, g1, hP, hc, ?_, fun v hv => ?_, fun _ => rfl, d1, d2⟩
    · have key : ∀ i, i ≤ n → far (P i) - p (P i) ≤ 0 := by
        intro i
        induction i with
        | zero => intro _; rw [g1]; have := (hp s hs).2.2 hx; omega
        | succ i ih =>
          intro hi
          have h1 := ih (by omega)
          obtain ⟨_, z2, z3, z4, z5, z6, _⟩ := hP.2.1 i (by omega)
          have := hc.1 _ z2 z3
          rw [z4, z5] at this
          omega
      intro i hi
      have h1 := key i hi
      have h2 := hP.1 i hi
      have := (pf _ h2.1 h2.2).1
      omega
    · have := hp v hv
      rw [hD]; exact this
  · refine ⟨fun v => if far v = Fr then p v + Fr + K else far v, P, e, n, hn, g1, hP, ⟨?_, hc.2⟩, fun i hi => if_neg (hP.1 i hi).2, fun v hv => ?_, fun h => absurd h hD, d1, d2⟩
    · intro j hj hA
      obtain ⟨w1, w2, w3⟩ := wA j hj
      have hr := hc.1 j hj hA
      have hlo := lo hj
      have hlo : -K ≤ zC (nA w c) j := hlo
      dsimp only
      by_cases u1 : far (zU (nA w c) j) = Fr
      · rw [if_pos u1]
        by_cases v1 : far (zV (nA w c) j) = Fr
        · rw [if_pos v1]; omega
        · rw [if_neg v1]
          have := (pf _ w2 v1).2.1
          have := (hp _ w1).1
          omega
      · have h1 := ho.1 j hj hA u1
        have h2 := (pf _ w1 u1).2.1
        rw [if_neg u1, if_neg (by omega)]
        exact h1
    · have h0 := hp v hv
      dsimp only
      by_cases v1 : far v = Fr
      · rw [if_pos v1]
        refine ⟨by omega, fun hx' => ?_, fun _ => ?_⟩
        · rcases (ho.2 v hv).2 with q | ⟨q1, _⟩
          · omega
          · exact absurd v1 q1
        · have := (pf s hs hf).2.1; omega
      · rw [if_neg v1]
        have h2 := pf v hv v1
        exact ⟨by omega, h2.2.2, fun hx' => hm v hv hx' v1⟩
