/-- rows of routines not yet made -/
def FR (nr : Nat) (H : Hp) : Prop := ∀ r, nr ≤ r → r < 8 → gI H 0 1 r = nI 0 ∧ gI H 0 2 r = nI 0 ∧ gI H 0 3 r = bI false
def fpFR : List (Nat × Option Nat) := [(1, none), (2, none), (3, none)]
theorem FR_ch {rs : Nat → Bool} {L : List (Nat × Nat × Option Nat)} {nr : Nat} {H H' : Hp} (h : FR nr H) (q : Ch rs L H H') (hL : nol L 0 fpFR = true) : FR nr H' := by
  intro r h1 h2
  obtain ⟨a1, a2, a3⟩ := h r h1 h2
  refine ⟨?_, ?_, ?_⟩
  · rw [(q.m hL (k := 1) (o := none) (by simp [fpFR]) rfl).1]; exact a1
  · rw [(q.m hL (k := 2) (o := none) (by simp [fpFR]) rfl).1]; exact a2
  · rw [(q.m hL (k := 3) (o := none) (by simp [fpFR]) rfl).1]; exact a3
/-- a routine just made -/
def G00 : Gr := (0, 0, fun _ => 0, fun _ => 0, fun _ => 0, fun _ => 0, fun _ => 0, fun _ => false)
def R00 : Rt := (G00, false, fun _ => 0, fun _ => 0, (fun _ => 0, fun _ => 0, fun _ => 0, 0), (0, fun _ => 0, fun _ => 0, 0), fun _ => 0)
theorem WG_00 : WG G00 := ⟨by decide, by decide, fun b hb => absurd hb (Nat.not_lt_zero _), fun b hb => absurd hb (Nat.not_lt_zero _), fun b hb => absurd hb (Nat.not_lt_zero _), fun b hb => absurd hb (Nat.not_lt_zero _)⟩
theorem PR_00 : PR R00 := ⟨WG_00, fun _ => Nat.zero_le _, fun _ _ => rfl, fun z => Bool.noConfusion z⟩
theorem zr_I {H : Hp} {nr : Nat} {v : Int32} {g k i : Nat} (h : g ≠ nr + 2) : gI (zr H nr v) g k i = gI H g k i := if_neg h
theorem zr_J {H : Hp} {nr : Nat} {v : Int32} {g k i : Nat} (h : g ≠ nr + 2) : gJ (zr H nr v) g k i = gJ H g k i := if_neg h
theorem zr_R {H : Hp} {nr : Nat} {v : Int32} {g k i : Nat} (h : g ≠ nr + 2) : gR (zr H nr v) g k i = gR H g k i := if_neg h
theorem zr_I0 {H : Hp} {nr : Nat} {v : Int32} {k i : Nat} (h : ¬ (k = 0 ∧ i = 0)) : gI (zr H nr v) (nr + 2) k i = nI 0 := by
  show (if nr + 2 = nr + 2 then (if k = 0 ∧ i = 0 then v else 0) else H.1 (nr + 2) k i) = _
  rw [if_pos rfl, if_neg h]; rfl
theorem rt_I {H : Hp} {nr g k i : Nat} (h : ¬ (g = 1 ∧ k = 0 ∧ i = 3)) : gI (Hrt H nr) g k i = gI (zr H nr (nI nr)) g k i := by
  unfold Hrt
  rw [gI_ne h]; rfl
theorem rt_J {H : Hp} {nr g k i : Nat} : gJ (Hrt H nr) g k i = gJ (zr H nr (nI nr)) g k i := rfl
theorem rt_R {H : Hp} {nr g k i : Nat} (h : ¬ (g = 1 ∧ k = 1 ∧ i = nr)) : gR (Hrt H nr) g k i = gR (zr H nr (nI nr)) g k i := if_neg h
theorem eq_routine {nr : Nat} {H : Hp} (h : Rel nr H) (hG : GB nr H) (hF : FR nr H) (h8 : nr < 8) : ok (f_X9_routine (Hrt H nr)) (fun y H2 => y = nI nr ∧ Rel (nr + 1) H2 ∧ GB (nr + 1) H2 ∧ FR (nr + 1) H2) := by
  obtain ⟨⟨r1, r2, r3, r4, r5⟩, ρ, w, hr, hK, hC, hM⟩ := h
  have i0 : ∀ k i, gI (Hrt H nr) 0 k i = gI H 0 k i := fun k i => by rw [rt_I (by omega), zr_I (by omega)]
  have j0 : ∀ k i, gJ (Hrt H nr) 0 k i = gJ H 0 k i := fun k i => by rw [rt_J, zr_J (by omega)]
  unfold f_X9_routine
  have e0 : gI (sI (Hrt H nr) 0 0 34 0) 0 0 0 = nI nr := by rw [gI_ne (by omega), i0]; exact r2
  rw [hl_e, e0, if_neg (show ¬ nI nr = 8 from fun z => by
    have z' : nI nr = nI 8 := z
    rw [nI_inj (by omega) (by omega)] at z'
    omega), hl_e, gI_eq, ← nI_succ]
  have q : Ch TT [(0, 0, some 0), (0, 0, some 34)] (Hrt H nr) (sI (sI (Hrt H nr) 0 0 34 0) 0 0 0 (nI (nr + 1))) := Ch.sI rfl rfl (Ch.sI rfl rfl (Ch.rf _))
  have g0 : gI (sI (sI (Hrt H nr) 0 0 34 0) 0 0 0 (nI (nr + 1))) 0 0 0 = nI (nr + 1) := gI_eq _ _ _ _ _
  have gg : ∀ g k i, gR (sI (sI (Hrt H nr) 0 0 34 0) 0 0 0 (nI (nr + 1))) g k i = gR (Hrt H nr) g k i := fun _ _ _ => rfl
  have o1 : ∀ g k i, g ≠ 0 → gI (sI (sI (Hrt H nr) 0 0 34 0) 0 0 0 (nI (nr + 1))) g k i = gI (Hrt H nr) g k i := fun g k i hg => by rw [gI_ne (by omega), gI_ne (by omega)]
  have o2 : ∀ g k i, gJ (sI (sI (Hrt H nr) 0 0 34 0) 0 0 0 (nI (nr + 1))) g k i = gJ (Hrt H nr) g k i := fun _ _ _ => rfl
  generalize sI (sI (Hrt H nr) 0 0 34 0) 0 0 0 (nI (nr + 1)) = H2 at q g0 gg o1 o2 ⊢
  have hmr : ∀ r a, MR r a H → MR r a H2 := fun r a hm => by
    obtain ⟨m1, m2, m3, m4⟩ := MR_eq (H' := Hrt H nr) hm i0 j0
    refine ⟨MG_ch m1 q rfl, ?_, fun e he => ?_, fun z => MF_ch (m4 z) q rfl⟩
    · rw [q.gi _ _ _ rfl]; exact m2
    · rw [q.gi _ _ _ rfl]; exact m3 e he
  have hne : ∀ r, r < nr → r ≠ nr := fun r hr' => by omega
  obtain ⟨k1, k2, k3, k4, k5⟩ := hK
  refine ok_s ⟨?_, ⟨⟨by omega, g0, ?_, fun i hi => ?_, fun i hi hi8 => ?_⟩, upR ρ nr R00, w, fun r hrn => ?_, ⟨k1, k2, k3, fun f hf => ?_, fun f hf => ?_⟩, ?_, ?_⟩, fun g k i r hgr => ?_, fun r h1 h2 => ?_⟩
  · rw [nI_succ]; exact Int32.add_sub_cancel _ _
  · rw [o1 _ _ _ (by omega)]; unfold Hrt; rw [gI_eq]
  · rw [gg]
    by_cases z : i = nr
    · rw [z]; exact if_pos ⟨rfl, rfl, rfl⟩
    · rw [rt_R (by omega), zr_R (by omega)]; exact r4 i (by omega)
  · rw [gg, rt_R (by omega), zr_R (by omega)]; exact r5 i (by omega) hi8
  · by_cases z : r = nr
    · subst z
      rw [upR_eq]
      obtain ⟨f1, f2, f3⟩ := hF r (Nat.le_refl _) h8
      have zz : ∀ k i, ¬ (k = 0 ∧ i = 0) → gI H2 (r + 2) k i = nI 0 := fun k i hki => by rw [o1 _ _ _ (by omega), rt_I (by omega), zr_I0 hki]
      refine ⟨PR_00, ⟨?_, ⟨zz _ _ (by omega), zz _ _ (by omega), fun b hb => absurd hb (Nat.not_lt_zero _), fun b hb => absurd hb (Nat.not_lt_zero _), fun b hb => zz _ _ (by omega), fun b hb => zz _ _ (by omega), fun b hb => absurd hb (Nat.not_lt_zero _), fun b hb => absurd hb (Nat.not_lt_zero _), fun b hb => absurd hb (Nat.not_lt_zero _), fun b hb => absurd hb (Nat.not_lt_zero _), fun b hb => absurd hb (Nat.not_lt_zero _)⟩, zz _ _ (by omega), fun e he => zz _ _ (by omega), fun y => Bool.noConfusion y⟩, ⟨⟨?_, ?_, fun b hb => absurd hb (Nat.not_lt_zero _), fun b hb => absurd hb (Nat.not_lt_zero _), fun b hb => absurd hb (Nat.not_lt_zero _), fun b hb => absurd hb (Nat.not_lt_zero _), fun b hb => absurd hb (Nat.not_lt_zero _), fun b hb => absurd hb (Nat.not_lt_zero _)⟩, ?_, fun b hb => absurd hb (Nat.not_lt_zero _), fun y => Bool.noConfusion y⟩⟩
      · rw [o1 _ _ _ (by omega), rt_I (by omega)]
        show (if r + 2 = r + 2 then (if (0 : Nat) = 0 ∧ (0 : Nat) = 0 then nI r else 0) else H.1 (r + 2) 0 0) = nI r
        rw [if_pos rfl, if_pos ⟨rfl, rfl⟩]
      · rw [q.gi _ _ _ rfl, i0]; exact f1
      · rw [q.gi _ _ _ rfl, i0]; exact f2
      · rw [q.gi _ _ _ rfl, i0]; exact f3
    · rw [upR_ne z]
      obtain ⟨b1, b2, b3⟩ := hr r (by omega)
      refine ⟨b1, CR_eq b2 (fun k i => ?_) (fun k i => ?_), hmr _ _ b3⟩
      · rw [o1 _ _ _ (by omega), rt_I (by omega), zr_I (by omega)]
      · rw [o2, rt_J, zr_J (by omega)]
  · obtain ⟨a1, a2, a3⟩ := k4 f hf
    rw [upR_ne (hne _ a1)]
    exact ⟨by omega, a2, a3⟩
  · rw [upR_ne (hne _ (k4 f (by omega)).1)]
    exact k5 f hf
  · obtain ⟨c1, c2, c3, c4, c5⟩ := hC
    have ii : ∀ k i, k ≠ 0 → gI H2 1 k i = gI H 1 k i := fun k i hk => by rw [o1 _ _ _ (by omega), rt_I (by omega), zr_I (by omega)]
    refine ⟨by rw [ii _ _ (by omega)]; exact c1, by rw [ii _ _ (by omega)]; exact c2, by rw [ii _ _ (by omega)]; exact c3, by rw [ii _ _ (by omega)]; exact c4, fun f hf => ?_⟩
    obtain ⟨d1, d2, d3⟩ := c5 f hf
    refine ⟨?_, ?_, ?_⟩
    · rw [gg, rt_R (by omega), zr_R (by omega)]; exact d1
    · rw [ii _ _ (by omega)]; exact d2
    · rw [o2, rt_J, zr_J (by omega)]; exact d3
  · obtain ⟨m1, m2, m3, m4, m5⟩ := MK_eq (H' := Hrt H nr) hM i0 j0
    refine ⟨by rw [q.gi _ _ _ rfl]; exact m1, by rw [q.gi _ _ _ rfl]; exact m2, by rw [q.gi _ _ _ rfl]; exact m3, by rw [q.gi _ _ _ rfl]; exact m4, fun f hf => ?_⟩
    obtain ⟨n1, n2, n3⟩ := m5 f hf
    exact ⟨by rw [q.gi _ _ _ rfl]; exact n1, by rw [q.gi _ _ _ rfl]; exact n2, by rw [q.gj _ _ _ rfl]; exact n3⟩
  · rw [gg] at hgr
    by_cases z : g = 1 ∧ k = 1 ∧ i = nr
    · obtain ⟨rfl, rfl, rfl⟩ := z
      have hh : (some i : Option Nat) = some r := (if_pos (⟨rfl, rfl, rfl⟩ : 1 = 1 ∧ 1 = 1 ∧ i = i)).symm.trans hgr
      cases hh
      omega
    · rw [rt_R z] at hgr
      by_cases z2 : g = nr + 2
      · have hh : (none : Option Nat) = some r := (if_pos z2).symm.trans hgr
        cases hh
      · rw [zr_R z2] at hgr
        have := hG g k i r hgr
        omega
  · have hF2 := FR_ch (nr := nr) (H := Hrt H nr) (H' := H2) (fun r h1 h2 => by rw [i0, i0, i0]; exact hF r h1 h2) q rfl
    exact hF2 r (by omega) h2
theorem eq_routine8 {H : Hp} (h : Rel 8 H) : gI H 1 0 3 = 8 ∧ ok (f_X9_routine H) (fun y H2 => y = -1 ∧ H2 = sI H 0 0 34 0 ∧ Rel 8 H2) := by
  have hR := Rel_no h
  refine ⟨h.1.2.2.1, ?_⟩
  unfold f_X9_routine
  rw [hl_e, if_pos (show gI (sI H 0 0 34 0) 0 0 0 = 8 from hR.1.2.1)]
  exact ok_s ⟨rfl, rfl, hR⟩
