theorem Cn_ft {P : Nat → Prop} {f t f' t' : Nat → Nat} (h : ∀ j, P j → f j = f' j ∧ t j = t' j) {u v : Nat} : Cn P f t u v ↔ Cn P f' t' u v := by
  constructor
  · intro q R a b c d
    exact q R a b c (fun j hj => by rw [(h j hj).1, (h j hj).2]; exact d j hj)
  · intro q R a b c d
    exact q R a b c (fun j hj => by rw [← (h j hj).1, ← (h j hj).2]; exact d j hj)
noncomputable def lgB (G : Gr) (e : Nat) : Bool := @decide (Qa G e ∧ lgt G e) (Classical.propDecidable _)
theorem lgB_iff {G : Gr} {e : Nat} : lgB G e = true ↔ Qa G e ∧ lgt G e := by
  unfold lgB
  exact @decide_eq_true_iff _ (Classical.propDecidable _)
theorem grT_l {G : Gr} {e : Nat} : grT G true (fun _ => False) e ↔ (Qa G e ∧ lgt G e) := by
  unfold grT lgt
  have h1 : cnd G true e ↔ Qa G e := ⟨fun h => ⟨h.1, h.2 rfl⟩, fun h => ⟨h.1, fun _ => h.2⟩⟩
  rw [h1]
  constructor
  · rintro ⟨q1, q2⟩
    refine ⟨q1, fun z => q2 ?_⟩
    have hp : ∀ j, Qf G e j ↔ Pk G true (fun _ => False) e j := fun j => ⟨fun u => Or.inr ⟨⟨u.1.1, fun _ => u.1.2⟩, u.2⟩, fun u => u.elim (fun v => v.elim) (fun v => ⟨⟨v.1.1, v.1.2 rfl⟩, v.2⟩)⟩
    rw [lF_e q1.1, lT_e q1.1, ← Cn.iff hp]
    exact (Cn_ft (fun j hj => ⟨(lF_e hj.1.1).symm, (lT_e hj.1.1).symm⟩)).mp z
  · rintro ⟨q1, q2⟩
    refine ⟨q1, fun z => q2 ?_⟩
    have hp : ∀ j, Qf G e j ↔ Pk G true (fun _ => False) e j := fun j => ⟨fun u => Or.inr ⟨⟨u.1.1, fun _ => u.1.2⟩, u.2⟩, fun u => u.elim (fun v => v.elim) (fun v => ⟨⟨v.1.1, v.1.2 rfl⟩, v.2⟩)⟩
    rw [lF_e q1.1, lT_e q1.1, ← Cn.iff hp] at z
    exact (Cn_ft (fun j hj => ⟨(lF_e hj.1.1).symm, (lT_e hj.1.1).symm⟩)).mpr z
theorem grT_t {G : Gr} (w : WG G) {e : Nat} (he : e < qE G) : grT G false (fun j => qE G ≤ j ∧ j < lk G) e ↔ tW G e := by
  unfold grT tW
  have hk : qE G < lk G := by unfold lk; omega
  have hp : ∀ j, Pk G false (fun j => qE G ≤ j ∧ j < lk G) e j ↔ Bf G e j := by
    intro j
    constructor
    · rintro (⟨u1, u2⟩ | ⟨u1, u2⟩)
      · refine ⟨u2, ?_⟩
        unfold ky
        rw [if_neg (by omega), if_pos he]
        by_cases z : j - qE G < 100
        · omega
        · have h1 : nL G ≤ qB G := cntP_le _ _
          have h2 := w.1
          unfold lk at u2
          omega
      · exact ⟨by have := u1.1; omega, u2⟩
    · rintro ⟨u1, u2⟩
      by_cases z : j < qE G
      · exact Or.inr ⟨⟨z, fun q => Bool.noConfusion q⟩, u2⟩
      · exact Or.inl ⟨by omega, u1⟩
  rw [Cn.iff hp]
  exact ⟨fun q => q.2, fun q => ⟨⟨he, fun z => Bool.noConfusion z⟩, q⟩⟩
/-- the lights' trees have no ring -/
theorem acycL {G : Gr} (w : WG G) : ∀ l, lgB G l = true → ¬ Cn (fun j => lgB G j = true ∧ j ≠ l) (qF G) (qT G) (qF G l) (qT G l) := by
  have hE := w.2.1
  have hlt : ∀ l, lgB G l = true → l < lk G := fun l hl => by have := (lgB_iff.mp hl).1.1; unfold lk; omega
  have key : ∀ K l, lgB G l = true → ky G l < K → ¬ Cn (fun j => lgB G j = true ∧ ky G j < K ∧ j ≠ l) (qF G) (qT G) (qF G l) (qT G l) := by
    intro K
    induction K with
    | zero => intro l _ h; exact absurd h (Nat.not_lt_zero _)
    | succ K ih =>
      intro l hl hlK hc
      by_cases hf : ∃ f, lgB G f = true ∧ ky G f = K
      · obtain ⟨f, f1, f2⟩ := hf
        have hfr := (lgB_iff.mp f1).2
        by_cases q : l = f
        · subst q
          apply hfr
          refine hc.mono ?_
          rintro j ⟨j1, j2, j3⟩
          refine ⟨(lgB_iff.mp j1).1, ?_⟩
          by_cases z : ky G j = ky G l
          · exact absurd (ky_inj w (hlt j j1) (hlt l hl) z) j3
          · omega
        · have hl2 : ky G l < K := by
            by_cases z : ky G l = K
            · exact absurd (ky_inj w (hlt l hl) (hlt f f1) (z.trans f2.symm)) q
            · omega
          have hc2 : Cn (fun i => (lgB G i = true ∧ ky G i < K ∧ i ≠ l) ∨ i = f) (qF G) (qT G) (qF G l) (qT G l) := by
            refine hc.mono ?_
            rintro j ⟨j1, j2, j3⟩
            by_cases z : ky G j = K
            · exact Or.inr (ky_inj w (hlt j j1) (hlt f f1) (z.trans f2.symm))
            · exact Or.inl ⟨j1, by omega, j3⟩
          have sub : ∀ {a b : Nat}, Cn (fun i => lgB G i = true ∧ ky G i < K ∧ i ≠ l) (qF G) (qT G) a b → Cn (Qf G f) (qF G) (qT G) a b := fun h => h.mono (fun j hj => ⟨(lgB_iff.mp hj.1).1, by rw [f2]; exact hj.2.1⟩)
          have hll : Cn (Qf G f) (qF G) (qT G) (qF G l) (qT G l) := Cn.ln ⟨(lgB_iff.mp hl).1, by rw [f2]; exact hl2⟩
          rcases cn_add.mp hc2 with h | ⟨h1, h2⟩ | ⟨h1, h2⟩
          · exact ih l hl hl2 h
          · exact hfr ((sub h1).sy.tr (hll.tr (sub h2).sy))
          · exact hfr ((sub h2).tr (hll.sy.tr (sub h1)))
      · have hl2 : ky G l < K := by
          by_cases z : ky G l = K
          · exact absurd ⟨l, hl, z⟩ hf
          · omega
        refine ih l hl hl2 (hc.mono ?_)
        rintro j ⟨j1, j2, j3⟩
        refine ⟨j1, ?_, j3⟩
        by_cases z : ky G j = K
        · exact absurd ⟨j, j1, z⟩ hf
        · omega
  have kb : ∀ l, lgB G l = true → ky G l < 100 + 1000000 * 64 + 100 := by
    intro l hl
    have h1 := (lgB_iff.mp hl).1.1
    unfold ky; rw [if_pos h1]; omega
  intro l hl hc
  exact key (100 + 1000000 * 64 + 100) l hl (kb l hl) (hc.mono (fun j hj => ⟨hj.1, kb j hj.1, hj.2⟩))
def upJ (f : Nat → Int64) (x : Nat) (v : Int64) : Nat → Int64 := fun y => if y = x then v else f y
theorem upJ_eq (f : Nat → Int64) (x : Nat) (v : Int64) : upJ f x v x = v := if_pos rfl
theorem upJ_ne {f : Nat → Int64} {x : Nat} {v : Int64} {y : Nat} (h : y ≠ x) : upJ f x v y = f y := if_neg h
/-- potentials while they spread from a root -/
def Us (G : Gr) (sn : Nat → Bool) (j : Nat) : Prop := lgB G j = true ∧ sn (qF G j) = true ∧ sn (qT G j) = true
def PI (G : Gr) (s0 : Nat → Bool) (rt : Nat) (p0 : Nat → Int64) (sn : Nat → Bool) (p : Nat → Int64) : Prop := (∀ x, x < qB G → s0 x = true → sn x = true) ∧ sn rt = true ∧ (∀ x, x < qB G → sn x = true → s0 x = true ∨ Cn (Us G sn) (qF G) (qT G) rt x) ∧ (∀ e, lgB G e = true → sn (qF G e) = true → sn (qT G e) = true → p (qT G e) = p (qF G e) + lN (aD G e)) ∧ (∀ x, x < qB G → (s0 x = true ∨ x = rt) → p x = p0 x)
theorem PI_step {G : Gr} (w : WG G) {s0 sn : Nat → Bool} {rt e x y : Nat} {p0 p : Nat → Int64} {v : Int64} (h0 : ∀ e, lgB G e = true → s0 (qF G e) = s0 (qT G e)) (h : PI G s0 rt p0 sn p) (he : lgB G e = true) (hx : sn x = true) (hy : sn y = false) (hv : (x = qF G e ∧ y = qT G e ∧ v = p x + lN (aD G e)) ∨ (x = qT G e ∧ y = qF G e ∧ v = p x - lN (aD G e))) : PI G s0 rt p0 (upB sn y true) (upJ p y v) := by
  obtain ⟨h1, h2, h3, h4, h5⟩ := h
  have ee := (lgB_iff.mp he).1.1
  have wf := w.2.2.2.1 e ee
  have hxy : x ≠ y := fun z => by rw [z, hy] at hx; cases hx
  have hxB : x < qB G := by rcases hv with ⟨q, -⟩ | ⟨q, -⟩ <;> omega
  have hyB : y < qB G := by rcases hv with ⟨-, q, -⟩ | ⟨-, q, -⟩ <;> omega
  have s0y : s0 y = false := by
    cases z : s0 y with
    | false => rfl
    | true => rw [h1 y hyB z] at hy; cases hy
  have up : ∀ z, sn z = true → upB sn y true z = true := by
    intro z hz
    by_cases q : z = y
    · rw [q, upB_eq]
    · rw [upB_ne q]; exact hz
  have usm : ∀ {a b : Nat}, Cn (Us G sn) (qF G) (qT G) a b → Cn (Us G (upB sn y true)) (qF G) (qT G) a b := fun q => q.mono (fun j hj => ⟨hj.1, up _ hj.2.1, up _ hj.2.2⟩)
  have newly : ∀ c, c < qB G → sn c = true → ∀ f, lgB G f = true → ((c = qF G f ∧ y = qT G f) ∨ (c = qT G f ∧ y = qF G f)) → Cn (Us G sn) (qF G) (qT G) rt c := by
    intro c hc hsc f hf hcf
    rcases h3 c hc hsc with q | q
    · exfalso
      have := h0 f hf
      rcases hcf with ⟨u1, u2⟩ | ⟨u1, u2⟩
      · rw [← u1, ← u2, q, s0y] at this; cases this
      · rw [← u1, ← u2, q, s0y] at this; cases this
    · exact q
  have nx : Cn (Us G sn) (qF G) (qT G) rt x := by
    refine newly x hxB hx e he ?_
    rcases hv with ⟨q1, q2, -⟩ | ⟨q1, q2, -⟩
    · exact Or.inl ⟨q1, q2⟩
    · exact Or.inr ⟨q1, q2⟩
  have ey : Us G (upB sn y true) e := by
    refine ⟨he, ?_, ?_⟩
    · rcases hv with ⟨q1, q2, -⟩ | ⟨q1, q2, -⟩
      · rw [← q1]; exact up x hx
      · rw [← q2, upB_eq]
    · rcases hv with ⟨q1, q2, -⟩ | ⟨q1, q2, -⟩
      · rw [← q2, upB_eq]
      · rw [← q1]; exact up x hx
  have cxy : Cn (Us G (upB sn y true)) (qF G) (qT G) x y := by
    rcases hv with ⟨q1, q2, -⟩ | ⟨q1, q2, -⟩
    · have := Cn.ln (f := qF G) (t := qT G) ey
      rw [← q1, ← q2] at this; exact this
    · have := Cn.ln (f := qF G) (t := qT G) ey
      rw [← q1, ← q2] at this; exact this.sy
  have only : ∀ f, lgB G f = true → f ≠ e → ∀ c, sn c = true → c < qB G → ¬ ((c = qF G f ∧ y = qT G f) ∨ (c = qT G f ∧ y = qF G f)) := by
    intro f hf hfe c hc hcB hcf
    have nc := newly c hcB hc f hf hcf
    have sub : ∀ {a b : Nat}, Cn (Us G sn) (qF G) (qT G) a b → Cn (fun j => lgB G j = true ∧ j ≠ f) (qF G) (qT G) a b := fun q => q.mono (fun j hj => ⟨hj.1, fun z => by
      rw [z] at hj
      rcases hcf with ⟨u1, u2⟩ | ⟨u1, u2⟩
      · have := hj.2.2; rw [← u2, hy] at this; cases this
      · have := hj.2.1; rw [← u2, hy] at this; cases this⟩)
    have lexy : Cn (fun j => lgB G j = true ∧ j ≠ f) (qF G) (qT G) x y := by
      have := Cn.ln (P := fun j => lgB G j = true ∧ j ≠ f) (f := qF G) (t := qT G) (j := e) ⟨he, fun z => hfe z.symm⟩
      rcases hv with ⟨q1, q2, -⟩ | ⟨q1, q2, -⟩
      · rw [q1, q2]; exact this
      · rw [q1, q2]; exact this.sy
    have ccy : Cn (fun j => lgB G j = true ∧ j ≠ f) (qF G) (qT G) c y := (sub nc).sy.tr ((sub nx).tr lexy)
    apply acycL w f hf
    rcases hcf with ⟨u1, u2⟩ | ⟨u1, u2⟩
    · rw [← u1, ← u2]; exact ccy
    · rw [← u1, ← u2]; exact ccy.sy
  refine ⟨fun z hz hs => up z (h1 z hz hs), up rt h2, fun z hz hs => ?_, fun f hf hs1 hs2 => ?_, fun z hz hs => ?_⟩
  · by_cases q : z = y
    · rw [q]; exact Or.inr ((usm nx).tr cxy)
    · rw [upB_ne q] at hs
      rcases h3 z hz hs with u | u
      · exact Or.inl u
      · exact Or.inr (usm u)
  · by_cases q : f = e
    · rw [q]
      rcases hv with ⟨q1, q2, q3⟩ | ⟨q1, q2, q3⟩
      · rw [← q1, ← q2, upJ_eq, upJ_ne hxy, q3]
      · rw [← q1, ← q2, upJ_eq, upJ_ne hxy, q3]; grind
    · have wff := w.2.2.2.1 f (lgB_iff.mp hf).1.1
      have fne : qF G f ≠ qT G f := fun z => (lgB_iff.mp hf).2 (by rw [z]; exact Cn.rf _)
      by_cases q1 : qF G f = y
      · exfalso
        have q2 : qT G f ≠ y := fun z => fne (q1.trans z.symm)
        rw [upB_ne q2] at hs2
        exact only f hf q _ hs2 wff.2.1 (Or.inr ⟨rfl, q1.symm⟩)
      · by_cases q2 : qT G f = y
        · exfalso
          rw [upB_ne q1] at hs1
          exact only f hf q _ hs1 wff.1 (Or.inl ⟨rfl, q2.symm⟩)
        · rw [upB_ne q1] at hs1
          rw [upB_ne q2] at hs2
          rw [upJ_ne q1, upJ_ne q2]
          exact h4 f hf hs1 hs2
  · have : z ≠ y := by
      intro q
      rcases hs with u | u
      · rw [q, s0y] at u; cases u
      · rw [← q, u, h2] at hy; cases hy
    rw [upJ_ne this]
    exact h5 z hz hs
