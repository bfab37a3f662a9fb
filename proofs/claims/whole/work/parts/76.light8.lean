/-- the lights of the class -/
def LPt (G : Gr) (P : Nat → Prop) (m : Nat → Nat) (p : Nat → Int64) : Prop := (∀ b, b < qB G → m b ≤ b ∧ m (m b) = m b) ∧ (∀ x y, x < qB G → y < qB G → (m x = m y ↔ Cn P (qF G) (qT G) x y)) ∧ (∀ e, P e → lgt G e → p (qT G e) = p (qF G e) + lN (aD G e))
def LH (r : Nat) (G : Gr) (m : Nat → Nat) (p : Nat → Int64) (H : Hp) : Prop := (∀ b, b < qB G → gI H (r + 2) 23 b = nI (m b)) ∧ (∀ b, b < qB G → gJ H (r + 2) 20 b = p b)
abbrev LLT : List (Nat × Nat × Option Nat) := [(2, 20, none), (2, 23, none)]
theorem x7_light_2 {r : Nat} {G : Gr} {H : Hp} {k : Hp → Option (Unit × Hp)} {Q : Unit → Hp → Prop} (hb : gI H (r + 2) 1 10 = nI (qB G)) (w : WG G) (K : ∀ H', Ch TT LLT H H' → LH r G (fun b => b) (fun _ => 0) H' → ok (k H') Q) : ok (L_X7_lighten_2 r k FU 0 H) Q := by
  have hB := w.1
  refine ok_g1 (qB G) (fun i H' => Ch TT LLT H H' ∧ (∀ b, b < i → gI H' (r + 2) 23 b = nI b) ∧ ∀ b, b < i → gJ H' (r + 2) 20 b = 0) ?_ ?_ rfl ⟨Ch.rf H, fun c hc => absurd hc (Nat.not_lt_zero _), fun c hc => absurd hc (Nat.not_lt_zero _)⟩ (FUgt (by omega))
  · rintro i n H1 hi ⟨hC, hI, hJ⟩ K1
    have a1 : gI H1 (r + 2) 1 10 = nI (qB G) := by rw [hC.gi _ _ _ rfl]; exact hb
    rw [L_X7_lighten_2]
    simp (disch := omega) only [a1, nI_le_iff, if_neg, gd_nI, nI_clamp, hl, vl, l1, nIadd]
    refine K1 _ ⟨?_, fun b hb => ?_, fun b hb => ?_⟩
    · exact Ch.sJ rfl rfl (Ch.sI rfl rfl hC)
    · rw [gI_sJ, gI_sI]
      by_cases q : b = i
      · rw [if_pos ⟨rfl, rfl, q⟩, q]
      · rw [if_neg (fun z => q z.2.2)]; exact hI b (by omega)
    · rw [gJ_sJ]
      by_cases q : b = i
      · rw [if_pos ⟨rfl, rfl, q⟩]
      · rw [if_neg (fun z => q z.2.2), gJ_sI]; exact hJ b (by omega)
  · rintro n H1 ⟨hC, hI, hJ⟩
    have a1 : gI H1 (r + 2) 1 10 = nI (qB G) := by rw [hC.gi _ _ _ rfl]; exact hb
    rw [L_X7_lighten_2]
    simp (disch := omega) only [a1, nI_le_iff, if_pos]
    exact K _ hC ⟨hI, hJ⟩
def mj (m : Nat → Nat) (a b : Nat) : Nat → Nat := fun x => if m x = b ∨ m x = a then (if b < a then b else a) else m x
theorem LP_join {G : Gr} (w : WG G) {P P' : Nat → Prop} {m : Nat → Nat} {p : Nat → Int64} {e : Nat} {s : Int64} (hP : ∀ j, P j → j < qE G) (he : e < qE G) (h : LPt G P m p) (hP' : ∀ j, P' j ↔ (P j ∨ j = e)) (hne : m (qF G e) ≠ m (qT G e)) (hs : s = p (qF G e) + lN (aD G e) - p (qT G e)) : LPt G P' (mj m (m (qF G e)) (m (qT G e))) (fun x => if m x = m (qT G e) then p x + s else p x) := by
  obtain ⟨h1, h2, h3⟩ := h
  have wf := w.2.2.2.1 e he
  have f1 := h1 _ wf.1
  have t1 := h1 _ wf.2.1
  have mx : ∀ x, mj m (m (qF G e)) (m (qT G e)) x = if m (qT G e) < m (qF G e) then (if m x = m (qF G e) then m (qT G e) else m x) else (if m x = m (qT G e) then m (qF G e) else m x) := by
    intro x
    unfold mj
    by_cases q : m (qT G e) < m (qF G e)
    · rw [if_pos q, if_pos q]
      by_cases q1 : m x = m (qF G e)
      · rw [if_pos (Or.inr q1), if_pos q1]
      · rw [if_neg q1]
        by_cases q2 : m x = m (qT G e)
        · rw [if_pos (Or.inl q2), q2]
        · rw [if_neg (fun z => z.elim q2 q1)]
    · rw [if_neg q, if_neg q]
      by_cases q2 : m x = m (qT G e)
      · rw [if_pos (Or.inl q2), if_pos q2]
      · rw [if_neg q2]
        by_cases q1 : m x = m (qF G e)
        · rw [if_pos (Or.inr q1), q1]
        · rw [if_neg (fun z => z.elim q2 q1)]
  refine ⟨fun b hb => ?_, fun x y hx hy => ?_, fun f hf hg => ?_⟩
  · obtain ⟨b1, b2⟩ := h1 b hb
    by_cases q : m (qT G e) < m (qF G e)
    · have e1 : ∀ x, mj m (m (qF G e)) (m (qT G e)) x = if m x = m (qF G e) then m (qT G e) else m x := fun x => by rw [mx, if_pos q]
      by_cases q1 : m b = m (qF G e)
      · rw [e1 b, if_pos q1]
        refine ⟨by omega, ?_⟩
        rw [e1, t1.2, if_neg (fun z => hne z.symm)]
      · rw [e1 b, if_neg q1]
        refine ⟨b1, ?_⟩
        rw [e1, b2, if_neg q1]
    · have e1 : ∀ x, mj m (m (qF G e)) (m (qT G e)) x = if m x = m (qT G e) then m (qF G e) else m x := fun x => by rw [mx, if_neg q]
      by_cases q1 : m b = m (qT G e)
      · rw [e1 b, if_pos q1]
        refine ⟨by omega, ?_⟩
        rw [e1, f1.2, if_neg hne]
      · rw [e1 b, if_neg q1]
        refine ⟨b1, ?_⟩
        rw [e1, b2, if_neg q1]
  · rw [Cn.iff hP']
    by_cases q : m (qT G e) < m (qF G e)
    · exact lab_add' (N := fun x => x < qB G) wf.1 wf.2.1 h2 (fun z _ => by rw [mx, if_pos q]) x y hx hy
    · exact lab_add (N := fun x => x < qB G) wf.1 wf.2.1 h2 (fun z _ => by rw [mx, if_neg q]) x y hx hy
  · dsimp only
    rcases (hP' f).mp hf with q | q
    · have hfe := hP f q
      have wff := w.2.2.2.1 f hfe
      have hm : m (qF G f) = m (qT G f) := (h2 _ _ wff.1 wff.2.1).mpr (Cn.ln q)
      rw [hm, h3 f q hg]
      by_cases z : m (qT G f) = m (qT G e)
      · rw [if_pos z, if_pos z]; grind
      · rw [if_neg z, if_neg z]
    · subst q
      rw [if_pos rfl, if_neg hne, hs]
      grind
theorem x7_joinTrees {r e : Nat} {G : Gr} {H : Hp} {P P' : Nat → Prop} {m : Nat → Nat} {p : Nat → Int64} (hG : CG r G H) (w : WG G) (he : e < qE G) (hA : ∀ e, e < qE G → gJ H (r + 2) 21 e = lN (aD G e)) (hP : ∀ j, P j → j < qE G) (hP' : ∀ j, P' j ↔ (P j ∨ j = e)) (hlg : lgt G e ↔ ¬ Cn P (qF G) (qT G) (qF G e) (qT G e)) (h : LPt G P m p) (hH : LH r G m p H) : ok (f_X7_joinTrees r (nI e) H) (fun _ H' => Ch TT LLT H H' ∧ ∃ m' p', LPt G P' m' p' ∧ LH r G m' p' H') := by
  have hB := w.1
  have hE := w.2.1
  have wf := w.2.2.2.1 e he
  obtain ⟨a1, a2, -, -, -, -, -, a8, a9, -⟩ := id hG
  have f1 := (h.1 _ wf.1).1
  have t1 := (h.1 _ wf.2.1).1
  unfold f_X7_joinTrees
  simp (disch := omega) only [gd_nI, nI_clamp, a8, a9, hH.1, hH.2, hA, vl, nI_inj]
  refine ok_if (fun hc => ?_) (fun hc => ?_)
  · refine ok_s ⟨Ch.rf H, m, p, ⟨h.1, fun x y hx hy => ?_, fun f hf hg => ?_⟩, hH⟩
    · rw [Cn.iff hP']
      exact lab_add (N := fun x => x < qB G) wf.1 wf.2.1 h.2.1 (fun z _ => by
        by_cases q : m z = m (qT G e)
        · rw [if_pos q, q, hc]
        · rw [if_neg q]) x y hx hy
    · rcases (hP' f).mp hf with q | q
      · exact h.2.2 f q hg
      · subst q
        exact absurd ((h.2.1 _ _ wf.1 wf.2.1).mp hc) (hlg.mp hg)
  · have hJ := LP_join w hP he h hP' hc rfl
    refine ok_g1 (qB G) (fun i H' => Ch TT LLT H H' ∧ (∀ b, b < qB G → gI H' (r + 2) 23 b = nI (if b < i then mj m (m (qF G e)) (m (qT G e)) b else m b)) ∧ (∀ b, b < qB G → gJ H' (r + 2) 20 b = if b < i ∧ m b = m (qT G e) then p b + (p (qF G e) + lN (aD G e) - p (qT G e)) else p b)) ?_ ?_ rfl ⟨Ch.rf H, fun b hb => by rw [if_neg (by omega)]; exact hH.1 b hb, fun b hb => by rw [if_neg (by omega)]; exact hH.2 b hb⟩ (FUgt (by omega))
    · rintro i n H1 hi ⟨hC, hI, hJ1⟩ K1
      have c1 : gI H1 (r + 2) 1 10 = nI (qB G) := by rw [hC.gi _ _ _ rfl]; exact a1
      have i1 := hI i hi
      have i2 := hJ1 i hi
      rw [if_neg (by omega)] at i1
      rw [if_neg (by omega)] at i2
      have mi := (h.1 i hi).1
      have mn : (if nI (m (qT G e)) < nI (m (qF G e)) then nI (m (qT G e)) else nI (m (qF G e))) = nI (if m (qT G e) < m (qF G e) then m (qT G e) else m (qF G e)) := by
        simp (disch := omega) only [nI_lt_iff]
        split <;> rfl
      have step : ∀ b (X Y : Int32), b ≠ i → X = nI (if b < i then mj m (m (qF G e)) (m (qT G e)) b else m b) → X = nI (if b < i + 1 then mj m (m (qF G e)) (m (qT G e)) b else m b) := by
        intro b X Y q hX
        rw [hX]
        have : (b < i) = (b < i + 1) := by apply propext; omega
        simp only [this]
      have stepJ : ∀ b (X : Int64), b ≠ i → X = (if b < i ∧ m b = m (qT G e) then p b + (p (qF G e) + lN (aD G e) - p (qT G e)) else p b) → X = (if b < i + 1 ∧ m b = m (qT G e) then p b + (p (qF G e) + lN (aD G e) - p (qT G e)) else p b) := by
        intro b X q hX
        rw [hX]
        have : (b < i) = (b < i + 1) := by apply propext; omega
        simp only [this]
      rw [L_X7_joinTrees_77]
      simp (disch := omega) only [c1, nI_le_iff, if_neg, gd_nI, nI_clamp, i1, i2, nI_inj, hl, vl, l1, nIadd, mn]
      refine ok_if (fun hd => K1 _ ⟨?_, fun b hb => ?_, fun b hb => ?_⟩) (fun hd => ok_if (fun hf => K1 _ ⟨?_, fun b hb => ?_, fun b hb => ?_⟩) (fun hf => K1 _ ⟨hC, fun b hb => ?_, fun b hb => ?_⟩))
      · exact Ch.sI rfl rfl (Ch.sJ rfl rfl hC)
      · rw [gI_sI]
        by_cases q : b = i
        · rw [if_pos ⟨rfl, rfl, q⟩, q, if_pos (show i < i + 1 by omega)]
          unfold mj
          rw [if_pos (Or.inl hd)]
        · rw [if_neg (fun z => q z.2.2), gI_sJ]
          exact step b _ 0 q (hI b hb)
      · rw [gJ_sI, gJ_sJ]
        by_cases q : b = i
        · rw [if_pos ⟨rfl, rfl, q⟩, q, if_pos ⟨by omega, hd⟩]
        · rw [if_neg (fun z => q z.2.2)]
          exact stepJ b _ q (hJ1 b hb)
      · exact Ch.sI rfl rfl hC
      · rw [gI_sI]
        by_cases q : b = i
        · rw [if_pos ⟨rfl, rfl, q⟩, q, if_pos (show i < i + 1 by omega)]
          unfold mj
          rw [if_pos (Or.inr hf)]
        · rw [if_neg (fun z => q z.2.2)]
          exact step b _ 0 q (hI b hb)
      · rw [gJ_sI]
        by_cases q : b = i
        · rw [q, i2, if_neg (fun z => hd z.2)]
        · exact stepJ b _ q (hJ1 b hb)
      · by_cases q : b = i
        · rw [q, i1, if_pos (show i < i + 1 by omega)]
          unfold mj
          rw [if_neg (fun z => z.elim hd hf)]
        · exact step b _ 0 q (hI b hb)
      · by_cases q : b = i
        · rw [q, i2, if_neg (fun z => hd z.2)]
        · exact stepJ b _ q (hJ1 b hb)
    · rintro n H1 ⟨hC, hI, hJ1⟩
      have c1 : gI H1 (r + 2) 1 10 = nI (qB G) := by rw [hC.gi _ _ _ rfl]; exact a1
      rw [L_X7_joinTrees_77]
      simp (disch := omega) only [c1, nI_le_iff, if_pos]
      refine ok_s ⟨hC, _, _, hJ, fun b hb => ?_, fun b hb => ?_⟩
      · rw [hI b hb, if_pos hb]
      · rw [hJ1 b hb]
        dsimp only
        by_cases q : m b = m (qT G e)
        · rw [if_pos ⟨hb, q⟩, if_pos q]
        · rw [if_neg (fun z => q z.2), if_neg q]
