/-- what links hang together: the least relation that holds them -/
def Cn (P : Nat → Prop) (f t : Nat → Nat) (u v : Nat) : Prop := ∀ R : Nat → Nat → Prop, (∀ x, R x x) → (∀ x y, R x y → R y x) → (∀ x y z, R x y → R y z → R x z) → (∀ j, P j → R (f j) (t j)) → R u v
section
variable {P Q : Nat → Prop} {f t : Nat → Nat} {u v x : Nat}
theorem Cn.rf (u : Nat) : Cn P f t u u := fun _ h _ _ _ => h u
theorem Cn.sy (h : Cn P f t u v) : Cn P f t v u := fun R a b c d => b _ _ (h R a b c d)
theorem Cn.tr (h : Cn P f t u v) (h' : Cn P f t v x) : Cn P f t u x := fun R a b c d => c _ _ _ (h R a b c d) (h' R a b c d)
theorem Cn.ln {j : Nat} (h : P j) : Cn P f t (f j) (t j) := fun _ _ _ _ d => d j h
theorem Cn.mono (hq : ∀ j, P j → Q j) (h : Cn P f t u v) : Cn Q f t u v := fun R a b c d => h R a b c (fun j hj => d j (hq j hj))
theorem Cn.gen (hq : ∀ j, P j → Cn Q f t (f j) (t j)) (h : Cn P f t u v) : Cn Q f t u v := h (Cn Q f t) Cn.rf (fun _ _ => Cn.sy) (fun _ _ _ => Cn.tr) hq
theorem Cn.iff (hq : ∀ j, P j ↔ Q j) : Cn P f t u v ↔ Cn Q f t u v := ⟨Cn.mono (fun j h => (hq j).mp h), Cn.mono (fun j h => (hq j).mpr h)⟩
theorem cn_add {j : Nat} : Cn (fun i => P i ∨ i = j) f t u v ↔ Cn P f t u v ∨ (Cn P f t u (f j) ∧ Cn P f t (t j) v) ∨ (Cn P f t u (t j) ∧ Cn P f t (f j) v) := by
  constructor
  · intro h
    refine h (fun u v => Cn P f t u v ∨ (Cn P f t u (f j) ∧ Cn P f t (t j) v) ∨ (Cn P f t u (t j) ∧ Cn P f t (f j) v)) ?_ ?_ ?_ ?_
    · intro x; exact Or.inl (Cn.rf x)
    · rintro x y (h | ⟨h1, h2⟩ | ⟨h1, h2⟩)
      · exact Or.inl h.sy
      · exact Or.inr (Or.inr ⟨h2.sy, h1.sy⟩)
      · exact Or.inr (Or.inl ⟨h2.sy, h1.sy⟩)
    · rintro x y z (h | ⟨h1, h2⟩ | ⟨h1, h2⟩) (g | ⟨g1, g2⟩ | ⟨g1, g2⟩)
      · exact Or.inl (h.tr g)
      · exact Or.inr (Or.inl ⟨h.tr g1, g2⟩)
      · exact Or.inr (Or.inr ⟨h.tr g1, g2⟩)
      · exact Or.inr (Or.inl ⟨h1, h2.tr g⟩)
      · exact Or.inr (Or.inl ⟨h1, g2⟩)
      · exact Or.inl (h1.tr g2)
      · exact Or.inr (Or.inr ⟨h1, h2.tr g⟩)
      · exact Or.inl (h1.tr g2)
      · exact Or.inr (Or.inr ⟨h1, g2⟩)
    · rintro i (h | h)
      · exact Or.inl (Cn.ln h)
      · subst h
        exact Or.inr (Or.inl ⟨Cn.rf _, Cn.rf _⟩)
  · have hm : ∀ {a b : Nat}, Cn P f t a b → Cn (fun i => P i ∨ i = j) f t a b := fun h => h.mono (fun _ => Or.inl)
    have hj : Cn (fun i => P i ∨ i = j) f t (f j) (t j) := Cn.ln (Or.inr rfl)
    rintro (h | ⟨h1, h2⟩ | ⟨h1, h2⟩)
    · exact hm h
    · exact (hm h1).tr (hj.tr (hm h2))
    · exact (hm h1).tr (hj.sy.tr (hm h2))
/-- labels that tell what hangs together -/
theorem lab_add {N : Nat → Prop} {S S' : Nat → Nat} {j : Nat} (hf : N (f j)) (ht : N (t j)) (h : ∀ x y, N x → N y → (S x = S y ↔ Cn P f t x y)) (hS : ∀ x, N x → S' x = if S x = S (t j) then S (f j) else S x) : ∀ x y, N x → N y → (S' x = S' y ↔ Cn (fun i => P i ∨ i = j) f t x y) := by
  intro x y hx hy
  rw [hS x hx, hS y hy, cn_add, ← h x y hx hy, ← h x (f j) hx hf, ← h (t j) y ht hy, ← h x (t j) hx ht, ← h (f j) y hf hy]
  by_cases h1 : S x = S (t j) <;> by_cases h2 : S y = S (t j)
  · rw [if_pos h1, if_pos h2]
    exact ⟨fun _ => Or.inl (h1.trans h2.symm), fun _ => rfl⟩
  · rw [if_pos h1, if_neg h2]
    refine ⟨fun q => Or.inr (Or.inr ⟨h1, q⟩), ?_⟩
    rintro (q | ⟨q1, q2⟩ | ⟨q1, q2⟩)
    · exact absurd (q.symm.trans h1) h2
    · exact absurd q2.symm h2
    · exact q2
  · rw [if_neg h1, if_pos h2]
    refine ⟨fun q => Or.inr (Or.inl ⟨q, h2.symm⟩), ?_⟩
    rintro (q | ⟨q1, q2⟩ | ⟨q1, q2⟩)
    · exact absurd (q.trans h2) h1
    · exact q1
    · exact absurd q1 h1
  · rw [if_neg h1, if_neg h2]
    refine ⟨Or.inl, ?_⟩
    rintro (q | ⟨q1, q2⟩ | ⟨q1, q2⟩)
    · exact q
    · exact absurd q2.symm h2
    · exact absurd q1 h1
theorem lab_add' {N : Nat → Prop} {S S' : Nat → Nat} {j : Nat} (hf : N (f j)) (ht : N (t j)) (h : ∀ x y, N x → N y → (S x = S y ↔ Cn P f t x y)) (hS : ∀ x, N x → S' x = if S x = S (f j) then S (t j) else S x) : ∀ x y, N x → N y → (S' x = S' y ↔ Cn (fun i => P i ∨ i = j) f t x y) := by
  intro x y hx hy
  rw [hS x hx, hS y hy, cn_add, ← h x y hx hy, ← h x (f j) hx hf, ← h (t j) y ht hy, ← h x (t j) hx ht, ← h (f j) y hf hy]
  by_cases h1 : S x = S (f j) <;> by_cases h2 : S y = S (f j)
  · rw [if_pos h1, if_pos h2]
    exact ⟨fun _ => Or.inl (h1.trans h2.symm), fun _ => rfl⟩
  · rw [if_pos h1, if_neg h2]
    refine ⟨fun q => Or.inr (Or.inl ⟨h1, q⟩), ?_⟩
    rintro (q | ⟨q1, q2⟩ | ⟨q1, q2⟩)
    · exact absurd (q.symm.trans h1) h2
    · exact q2
    · exact absurd q2.symm h2
  · rw [if_neg h1, if_pos h2]
    refine ⟨fun q => Or.inr (Or.inr ⟨q, h2.symm⟩), ?_⟩
    rintro (q | ⟨q1, q2⟩ | ⟨q1, q2⟩)
    · exact absurd (q.trans h2) h1
    · exact absurd q1 h1
    · exact q1
  · rw [if_neg h1, if_neg h2]
    refine ⟨Or.inl, ?_⟩
    rintro (q | ⟨q1, q2⟩ | ⟨q1, q2⟩)
    · exact q
    · exact absurd q1 h1
    · exact absurd q2.symm h2
end
/-- links: the edges, then END's; END is 20 -/
def lvP (G : Gr) : Nat → Bool := fun x => decide (qK G x = 3)
def nL (G : Gr) : Nat := cntP (lvP G) (qB G)
def lk (G : Gr) : Nat := qE G + nL G + 1
def lfS (G : Gr) (i : Nat) : Nat → Nat
  | 0 => 0
  | n + 1 => if qK G n = 3 ∧ cntP (lvP G) n = i then n else lfS G i n
def lfB (G : Gr) (i : Nat) : Nat := lfS G i (qB G)
theorem lfS_eq {G : Gr} {b n : Nat} (hb : b < n) (h3 : qK G b = 3) : lfS G (cntP (lvP G) b) n = b := by
  induction n with
  | zero => exact absurd hb (Nat.not_lt_zero _)
  | succ n ih =>
    show (if qK G n = 3 ∧ cntP (lvP G) n = cntP (lvP G) b then n else lfS G (cntP (lvP G) b) n) = b
    by_cases h : qK G n = 3 ∧ cntP (lvP G) n = cntP (lvP G) b
    · rw [if_pos h]
      exact cntP_un (P := lvP G) (decide_eq_true h.1) (decide_eq_true h3) h.2
    · rw [if_neg h]
      by_cases q : b = n
      · subst q; exact absurd ⟨h3, rfl⟩ h
      · exact ih (by omega)
theorem lfB_eq {G : Gr} {b : Nat} (hb : b < qB G) (h3 : qK G b = 3) : lfB G (cntP (lvP G) b) = b := lfS_eq hb h3
theorem lfB_ok {G : Gr} {i : Nat} (hi : i < nL G) : lfB G i < qB G ∧ qK G (lfB G i) = 3 ∧ cntP (lvP G) (lfB G i) = i := by
  obtain ⟨b, h1, h2, h3⟩ := cntP_ex hi
  have h4 : qK G b = 3 := of_decide_eq_true h2
  have h5 := lfB_eq h1 h4
  rw [h3] at h5
  rw [h5]
  exact ⟨h1, h4, h3⟩
def lF (G : Gr) (j : Nat) : Nat := if j < qE G then qF G j else if j < qE G + nL G then lfB G (j - qE G) else 20
def lT (G : Gr) (j : Nat) : Nat := if j < qE G then qT G j else if j < qE G + nL G then 20 else 0
def nod (G : Gr) (x : Nat) : Prop := x < qB G ∨ x = 20
theorem lF_e {G : Gr} {e : Nat} (h : e < qE G) : lF G e = qF G e := if_pos h
theorem lT_e {G : Gr} {e : Nat} (h : e < qE G) : lT G e = qT G e := if_pos h
theorem lk_le {G : Gr} (w : WG G) : lk G ≤ qE G + qB G + 1 := by
  have := cntP_le (lvP G) (qB G)
  unfold lk nL; omega
theorem lF_nod {G : Gr} (w : WG G) (j : Nat) : nod G (lF G j) := by
  unfold lF
  split
  · exact Or.inl (w.2.2.2.1 j (by assumption)).1
  · split
    · exact Or.inl (lfB_ok (by omega)).1
    · exact Or.inr rfl
theorem lT_nod {G : Gr} (w : WG G) (h0 : 0 < qB G) (j : Nat) : nod G (lT G j) := by
  unfold lT
  split
  · exact Or.inl (w.2.2.2.1 j (by assumption)).2.1
  · split
    · exact Or.inr rfl
    · exact Or.inl h0
/-- the order in which links are taken -/
def ky (G : Gr) (l : Nat) : Nat := if l < qE G then 100 + (1000000 - qG G l) * 64 + l else l - qE G
theorem ky_inj {G : Gr} (w : WG G) {a b : Nat} (ha : a < lk G) (hb : b < lk G) (h : ky G a = ky G b) : a = b := by
  have h1 := w.1
  have h2 := w.2.1
  have h3 := lk_le w
  unfold ky at h
  by_cases qa : a < qE G <;> by_cases qb : b < qE G
  · rw [if_pos qa, if_pos qb] at h; omega
  · rw [if_pos qa, if_neg qb] at h; omega
  · rw [if_neg qa, if_pos qb] at h; omega
  · rw [if_neg qa, if_neg qb] at h; omega
theorem ky_lt {G : Gr} (w : WG G) {a b : Nat} (ha : a < qE G) (hb : b < qE G) : ky G a < ky G b ↔ (qG G b < qG G a ∨ qG G a = qG G b ∧ a < b) := by
  have h2 := w.2.1
  have ga := (w.2.2.2.1 a ha).2.2
  have gb := (w.2.2.2.1 b hb).2.2
  unfold ky
  rw [if_pos ha, if_pos hb]
  omega
def Bf (G : Gr) (l j : Nat) : Prop := j < lk G ∧ ky G j < ky G l
def tW (G : Gr) (e : Nat) : Prop := ¬ Cn (Bf G e) (lF G) (lT G) (lF G e) (lT G e)
def tT (G : Gr) (l : Nat) : Prop := l < lk G ∧ (qE G ≤ l ∨ tW G l)
def Qa (G : Gr) (j : Nat) : Prop := j < qE G ∧ qW G j = false
def Qf (G : Gr) (e j : Nat) : Prop := Qa G j ∧ ky G j < ky G e
def lgt (G : Gr) (e : Nat) : Prop := ¬ Cn (Qf G e) (qF G) (qT G) (qF G e) (qT G e)
/-- what holds along the tree holds along all links -/
theorem tree_gen {G : Gr} {R : Nat → Nat → Prop} (a : ∀ x, R x x) (b : ∀ x y, R x y → R y x) (c : ∀ x y z, R x y → R y z → R x z) (d : ∀ l, tT G l → R (lF G l) (lT G l)) : ∀ l, l < lk G → R (lF G l) (lT G l) := by
  have key : ∀ K l, ky G l < K → l < lk G → R (lF G l) (lT G l) := by
    intro K
    induction K with
    | zero => intro l h; exact absurd h (Nat.not_lt_zero _)
    | succ K ih =>
      intro l h hl
      by_cases q : tT G l
      · exact d l q
      · by_cases q1 : qE G ≤ l
        · exact absurd ⟨hl, Or.inl q1⟩ q
        · have q2 : Cn (Bf G l) (lF G) (lT G) (lF G l) (lT G l) := Classical.not_not.mp (fun z => q ⟨hl, Or.inr z⟩)
          exact q2 R a b c (fun j hj => ih j (by have := hj.2; omega) hj.1)
  intro l hl
  exact key (ky G l + 1) l (Nat.lt_succ_self _) hl
theorem light_gen {G : Gr} {R : Nat → Nat → Prop} (a : ∀ x, R x x) (b : ∀ x y, R x y → R y x) (c : ∀ x y z, R x y → R y z → R x z) (d : ∀ l, Qa G l → lgt G l → R (qF G l) (qT G l)) : ∀ l, Qa G l → R (qF G l) (qT G l) := by
  have key : ∀ K l, ky G l < K → Qa G l → R (qF G l) (qT G l) := by
    intro K
    induction K with
    | zero => intro l h; exact absurd h (Nat.not_lt_zero _)
    | succ K ih =>
      intro l h hl
      by_cases q : lgt G l
      · exact d l hl q
      · have q2 : Cn (Qf G l) (qF G) (qT G) (qF G l) (qT G l) := Classical.not_not.mp q
        exact q2 R a b c (fun j hj => ih j (by have := hj.2; omega) hj.1)
  intro l hl
  exact key (ky G l + 1) l (Nat.lt_succ_self _) hl
theorem end_free {G : Gr} (w : WG G) (h0 : 0 < qB G) (hk : qK G 0 ≠ 3) {l : Nat} (h1 : qE G ≤ l) (h2 : l < lk G) : ¬ Cn (Bf G l) (lF G) (lT G) (lF G l) (lT G l) := by
  intro hc
  have hB := w.1
  have hl := lk_le w
  have hj : ∀ j, Bf G l j → qE G ≤ j ∧ j < l := by
    rintro j ⟨q1, q2⟩
    unfold ky at q2
    rw [if_neg (show ¬ l < qE G by omega)] at q2
    by_cases q : j < qE G
    · rw [if_pos q] at q2; omega
    · rw [if_neg q] at q2; omega
  by_cases hm : l < qE G + nL G
  · obtain ⟨m1, m2, m3⟩ := lfB_ok (show l - qE G < nL G by omega)
    have := hc (fun x y => x = lfB G (l - qE G) ↔ y = lfB G (l - qE G)) (fun _ => Iff.rfl) (fun _ _ q => q.symm) (fun _ _ _ q q' => q.trans q') ?_
    · unfold lF lT at this
      rw [if_neg (by omega), if_pos hm, if_neg (by omega), if_pos hm] at this
      have := this.mp rfl
      omega
    · intro j q
      obtain ⟨q1, q2⟩ := hj j q
      have hm' : j < qE G + nL G := by omega
      unfold lF lT
      rw [if_neg (by omega), if_pos hm', if_neg (by omega), if_pos hm']
      obtain ⟨n1, n2, n3⟩ := lfB_ok (show j - qE G < nL G by omega)
      constructor
      · intro z; rw [z] at n3; omega
      · intro z; omega
  · have := hc (fun x y => x = 0 ↔ y = 0) (fun _ => Iff.rfl) (fun _ _ q => q.symm) (fun _ _ _ q q' => q.trans q') ?_
    · unfold lF lT at this
      rw [if_neg (by omega), if_neg hm, if_neg (by omega), if_neg hm] at this
      exact absurd (this.mpr rfl) (by decide)
    · intro j q
      obtain ⟨q1, q2⟩ := hj j q
      have hm' : j < qE G + nL G := by
        unfold lk at h2; omega
      unfold lF lT
      rw [if_neg (by omega), if_pos hm', if_neg (by omega), if_pos hm']
      obtain ⟨n1, n2, n3⟩ := lfB_ok (show j - qE G < nL G by omega)
      constructor
      · intro z; rw [z] at n2; exact absurd n2 hk
      · intro z; cases z
theorem tree_free {G : Gr} (w : WG G) (h0 : 0 < qB G) (hk : qK G 0 ≠ 3) {l : Nat} (h : tT G l) : ¬ Cn (Bf G l) (lF G) (lT G) (lF G l) (lT G l) := h.2.elim (fun q => end_free w h0 hk q h.1) id
/-- the tree has no ring -/
theorem acyc {G : Gr} (w : WG G) (h0 : 0 < qB G) (hk : qK G 0 ≠ 3) : ∀ l, tT G l → ¬ Cn (fun j => tT G j ∧ j ≠ l) (lF G) (lT G) (lF G l) (lT G l) := by
  have key : ∀ K l, tT G l → ky G l < K → ¬ Cn (fun j => tT G j ∧ ky G j < K ∧ j ≠ l) (lF G) (lT G) (lF G l) (lT G l) := by
    intro K
    induction K with
    | zero => intro l _ h; exact absurd h (Nat.not_lt_zero _)
    | succ K ih =>
      intro l hl hlK hc
      by_cases hf : ∃ f, tT G f ∧ ky G f = K
      · obtain ⟨f, f1, f2⟩ := hf
        have hfr := tree_free w h0 hk f1
        by_cases q : l = f
        · subst q
          apply hfr
          refine hc.mono ?_
          rintro j ⟨j1, j2, j3⟩
          refine ⟨j1.1, ?_⟩
          by_cases z : ky G j = ky G l
          · exact absurd (ky_inj w j1.1 hl.1 z) j3
          · omega
        · have hl2 : ky G l < K := by
            by_cases z : ky G l = K
            · exact absurd (ky_inj w hl.1 f1.1 (z.trans f2.symm)) q
            · omega
          have hc2 : Cn (fun i => (tT G i ∧ ky G i < K ∧ i ≠ l) ∨ i = f) (lF G) (lT G) (lF G l) (lT G l) := by
            refine hc.mono ?_
            rintro j ⟨j1, j2, j3⟩
            by_cases z : ky G j = K
            · exact Or.inr (ky_inj w j1.1 f1.1 (z.trans f2.symm))
            · exact Or.inl ⟨j1, by omega, j3⟩
          have sub : ∀ {a b : Nat}, Cn (fun i => tT G i ∧ ky G i < K ∧ i ≠ l) (lF G) (lT G) a b → Cn (Bf G f) (lF G) (lT G) a b := fun h => h.mono (fun j hj => ⟨hj.1.1, by rw [f2]; exact hj.2.1⟩)
          have hll : Cn (Bf G f) (lF G) (lT G) (lF G l) (lT G l) := Cn.ln ⟨hl.1, by rw [f2]; exact hl2⟩
          rcases cn_add.mp hc2 with h | ⟨h1, h2⟩ | ⟨h1, h2⟩
          · exact ih l hl hl2 h
          · exact hfr ((sub h1).sy.tr (hll.tr (sub h2).sy))
          · exact hfr ((sub h2).tr (hll.sy.tr (sub h1)))
      · have hl2 : ky G l < K := by
          by_cases z : ky G l = K
          · exact absurd ⟨l, hl, z⟩ hf
          · omega
        refine ih l hl hl2 (hc.mono ?_)
        rintro j ⟨j1, j2, j3⟩
        refine ⟨j1, ?_, j3⟩
        by_cases z : ky G j = K
        · exact absurd ⟨j, j1, z⟩ hf
        · omega
  intro l hl hc
  refine key (100 + 1000000 * 64 + 100) l hl ?_ (hc.mono (fun j hj => ⟨hj.1, ?_, hj.2⟩))
  · have h1 := hl.1
    have h2 := lk_le w
    have h3 := w.1
    have h4 := w.2.1
    unfold ky; split <;> omega
  · have h1 := hj.1.1
    have h2 := lk_le w
    have h3 := w.1
    have h4 := w.2.1
    unfold ky; split <;> omega
/-- all hangs together -/
theorem all_cn {G : Gr} (w : WG G) (h3 : allB (spi (qF G) (qT G) (qE G) rM (qB G)) (qB G) = true) : ∀ x, nod G x → Cn (fun j => j < lk G) (lF G) (lT G) 20 x := by
  have hz : Cn (fun j => j < lk G) (lF G) (lT G) 20 0 := by
    have h1 : Cn (fun j => j < lk G) (lF G) (lT G) (lF G (qE G + nL G)) (lT G (qE G + nL G)) := Cn.ln (show qE G + nL G < lk G by unfold lk; omega)
    unfold lF lT at h1
    rw [if_neg (by omega), if_neg (by omega), if_neg (by omega), if_neg (by omega)] at h1
    exact h1
  rintro x (hx | rfl)
  · have h4 := allB_iff.mp h3 x hx
    refine spi_in (S := fun b => Cn (fun j => j < lk G) (lF G) (lT G) 20 b) ?_ ?_ _ x h4
    · intro b hb
      have : b = 0 := of_decide_eq_true hb
      subst this
      exact hz
    · intro e he q
      have hl : Cn (fun j => j < lk G) (lF G) (lT G) (lF G e) (lT G e) := Cn.ln (show e < lk G by unfold lk; omega)
      rw [lF_e he, lT_e he] at hl
      exact q.tr hl
  · exact Cn.rf _
theorem tree_cn {G : Gr} (w : WG G) (h3 : allB (spi (qF G) (qT G) (qE G) rM (qB G)) (qB G) = true) {x : Nat} (hx : nod G x) : Cn (tT G) (lF G) (lT G) 20 x := by
  refine (all_cn w h3 x hx).gen (fun j hj => ?_)
  exact tree_gen (R := Cn (tT G) (lF G) (lT G)) Cn.rf (fun _ _ => Cn.sy) (fun _ _ _ => Cn.tr) (fun l hl => Cn.ln hl) j hj
/-- potentials: what they are, and that there is but one -/
def Pot (G : Gr) (p : Nat → Int64) : Prop := (∀ e, Qa G e → lgt G e → p (qT G e) = p (qF G e) + lN (aD G e)) ∧ (∀ b, b < qB G → (∀ c, c < b → ¬ Cn (Qa G) (qF G) (qT G) c b) → p b = 0)
theorem pot_un {G : Gr} {p p' : Nat → Int64} (h : Pot G p) (h' : Pot G p') : ∀ b, b < qB G → p b = p' b := by
  have hR : ∀ x y, Cn (Qa G) (qF G) (qT G) x y → p x - p' x = p y - p' y := by
    intro x y hc
    refine hc (fun x y => p x - p' x = p y - p' y) (fun _ => rfl) (fun _ _ q => q.symm) (fun _ _ _ q q' => q.trans q') ?_
    refine light_gen (R := fun x y => p x - p' x = p y - p' y) (fun _ => rfl) (fun _ _ q => q.symm) (fun _ _ _ q q' => q.trans q') ?_
    intro l hl hg
    show p (qF G l) - p' (qF G l) = p (qT G l) - p' (qT G l)
    rw [h.1 l hl hg, h'.1 l hl hg]
    generalize p (qF G l) = a
    generalize p' (qF G l) = b
    generalize lN (aD G l) = c
    rw [Int64.sub_eq_add_neg, Int64.sub_eq_add_neg, Int64.neg_add, Int64.sub_eq_add_neg, Int64.add_assoc, ← Int64.add_assoc c, Int64.add_comm c, Int64.add_assoc (-b) c, Int64.add_right_neg, Int64.add_zero]
  intro b
  induction b using Nat.strongRecOn with
  | _ b ih =>
    intro hb
    by_cases q : ∃ c, c < b ∧ Cn (Qa G) (qF G) (qT G) c b
    · obtain ⟨c, c1, c2⟩ := q
      have h1 := ih c c1 (by omega)
      have h2 := hR c b c2
      rw [h1, Int64.sub_self] at h2
      have h3 : p b = p b - p' b + p' b := by rw [Int64.sub_add_cancel]
      rw [h3, ← h2, Int64.zero_add]
    · have q' : ∀ c, c < b → ¬ Cn (Qa G) (qF G) (qT G) c b := fun c c1 c2 => q ⟨c, c1, c2⟩
      rw [h.2 b hb q', h'.2 b hb q']
