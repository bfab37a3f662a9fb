/-- way, along, told on both sides -/
theorem MR_c {r : Nat} {a : Rt} {L : List (Nat × Nat × Option Nat)} {H H' : Hp} (h : MR r a H) (q : Ch TT L H H') (h1 : L.all (fun x => x.1 != 0) = true) : MR r a H' := MR_eq h (fun k i => (q.c0 h1 k i).1) (fun k i => (q.c0 h1 k i).2)
abbrev LW2 : List (Nat × Nat × Option Nat) := [(0, 0, some 34), (0, 0, some 47), (0, 45, none), (0, 46, none)]
theorem isWay_no {a : Int32} {l : Int64} {H : Hp} (h : f_X9_isDone a (sI H 0 0 47 0) = some (0, sI H 0 0 47 0)) : f_X9_isWay a l H = some (0, sI H 0 0 47 0) := by
  unfold f_X9_isWay
  rw [hl_e, h, bnd_s, if_pos rfl]
theorem Rel_un {nr : Nat} {H H1 : Hp} (h : Rel nr H) (q : Ch TT LUN H H1) : Rel nr H1 := Rel_q (L1 := LUN) (L2 := []) h q rfl rfl rfl (Ch.rf _) rfl rfl
theorem Rel_wy {nr : Nat} {H H1 : Hp} (h : Rel nr H) (q : Ch TT LW2 H H1) : Rel nr H1 := Rel_q (L1 := []) (L2 := LW2) h (Ch.rf _) rfl rfl rfl q rfl rfl
def Same (r : Nat) (H1 H2 : Hp) : Prop := ∃ len, len ≤ 20 ∧ gI H1 (r + 2) 2 9 = nI len ∧ gI H2 0 0 47 = nI len ∧ ∀ i, i < len → gI H1 (r + 2) 24 i = gI H2 0 45 i ∧ gI H1 (r + 2) 25 i = gI H2 0 46 i
theorem lN_j {n m : Nat} (hn : n < 2 ^ 62) (hm : m < 2 ^ 62) (h : lN n = lN m) : n = m := (j_eq (by omega) (by omega)).mp h
theorem way_both {nr r : Nat} {a : Rt} {H : Hp} (h : Rel nr H) (hr : r < nr) (hP : PR a) (hC : CR r a H) (hM : MR r a H) (hd : rD a = true) (l : Int64) : ok (f_X7_unfold r l H) (fun v H1 => Ch TT LUN H H1 ∧ (v = 0 ∨ v = 1) ∧ ok (f_X9_isWay (nI r) l (sI H1 0 0 34 0)) (fun u H2 => Ch TT LW2 H1 H2 ∧ u = v ∧ Same r H1 H2)) := by
  have w := hP.1
  have hB := w.1
  have hw := (hP.2.2.2 hd).1
  have f := hC.2.2.2.2 hd
  have w6 := (why_0 hw).2.2
  refine ok_m (x7_unfold hC.2.1 w hw f.2.1 l) ?_
  rintro v H1 ⟨q1, hv⟩
  have hM1 := MR_34 (MR_c hM q1 rfl) 0
  have hRR1 := (Rel_no (Rel_un h q1)).1
  refine ⟨q1, hv.elim (fun z => Or.inl z.1) (fun ⟨_, _, _, _, z, _⟩ => Or.inr z), ok_m (x9_isWay hRR1 hr (by rw [hM1.2.1, hd]) hM1.1 w hw (hM1.2.2.2 hd).1 l) ?_⟩
  rintro u H2 ⟨q2, hu⟩
  refine ⟨Ch.tr (fun _ q => q) rfl (Ch.sI rfl rfl (Ch.rf H1)) q2, ?_⟩
  rcases hv with ⟨v1, v2, v3⟩ | ⟨n, len, n1, n2, n3, n4, n5, n6⟩
  · rcases hu with ⟨u1, u2, u3⟩ | ⟨n', len', m1, m2, -⟩
    · exact ⟨u1.trans v1.symm, 0, by omega, v3, u3, fun i hi => absurd hi (Nat.not_lt_zero _)⟩
    · exact absurd ⟨n', m1, m2⟩ v2
  · rcases hu with ⟨u1, u2, u3⟩ | ⟨n', len', m1, m2, m3, m4, m5, m6⟩
    · exact absurd ⟨n, n1, n2⟩ u2
    · have e : n' = n := lN_j (by omega) (by omega) (m2.symm.trans n2)
      subst e
      have e2 := Lay_len m6 n6
      subst e2
      exact ⟨m3.trans n3.symm, len', by omega, n5, m5, fun i hi => Lay_eq n6 m6 hi⟩
theorem wy_no {nr : Nat} {H : Hp} (h : Rel nr H) {a : Int32} (l : Int64) (ha : ¬ (0 ≤ a ∧ a < nI nr) ∨ ∃ r, r < nr ∧ a = nI r ∧ gI H 0 3 r = 0) : ∃ H2, f_X9_isWay a l (sI H 0 0 34 0) = some (0, H2) ∧ Rel nr H2 := by
  have q : Ch TT LW2 H (sI (sI H 0 0 34 0) 0 0 47 0) := Ch.sI rfl rfl (Ch.sI rfl rfl (Ch.rf H))
  have hR := Rel_wy h q
  refine ⟨_, isWay_no ?_, hR⟩
  rcases ha with ha | ⟨r, hr, rfl, h0⟩
  · exact dn_no hR.1 ha
  · rw [dn_yes hR.1 hr, q.gi 0 3 r rfl, if_pos h0]
theorem eq_way {nr : Nat} {H : Hp} (h : Rel nr H) (a : Int32) (l : Int64) (c : Int32) : ok (f_X8_way nr a l c H) (fun x H1 => ok (f_X9_way a l c H1) (fun y H2 => y = x ∧ Rel nr H2)) := by
  obtain ⟨hRR, ρ, w, hr, hK, hC, hM⟩ := id h
  have h8 := hRR.1
  have hno : (¬ (0 ≤ a ∧ a < nI nr) ∨ ∃ r, r < nr ∧ a = nI r ∧ gI H 0 3 r = 0) → ok (f_X9_way a l c H) (fun y H2 => y = -1 ∧ Rel nr H2) := by
    intro ha
    obtain ⟨H2, e, hR⟩ := wy_no h l ha
    unfold f_X9_way
    rw [hl_e, e, bnd_s, if_pos rfl]
    exact ok_s ⟨rfl, hR⟩
  rcases arg_cases a (n := nr) (by omega) with ⟨r, hrn, rfl⟩ | ha
  · obtain ⟨b1, b2, b3⟩ := hr r hrn
    unfold f_X8_way
    rw [fin_yes hRR hrn, bnd_s, b2.2.2.1]
    cases hd : rD (ρ r) with
    | false =>
      rw [if_pos (show bI false = 0 from rfl), nz_n]
      exact ok_s (hno (Or.inr ⟨r, hrn, rfl, by rw [b3.2.1, hd]; rfl⟩))
    | true =>
      rw [if_neg (show ¬ bI true = 0 by decide), nz_s hrn]
      refine ok_b (way_both h hrn b1 b2 b3 hd l) ?_
      rintro v H1 ⟨q1, hv, h9⟩
      have key : ∀ x, (v = 0 → x = -1) → (v = 1 → (f_X7_unfoldedBlock r c H1 = some (x, H1))) → ok (f_X9_way (nI r) l c H1) (fun y H2 => y = x ∧ Rel nr H2) := by
        intro x x0 x1
        unfold f_X9_way
        rw [hl_e]
        refine ok_b h9 ?_
        rintro u H2 ⟨q2, rfl, len, hl, s1, s2, s3⟩
        have hR := Rel_wy (Rel_un h q1) q2
        rcases hv with rfl | rfl
        · rw [if_pos rfl]; exact ok_s ⟨(x0 rfl).symm, hR⟩
        · rw [if_neg (by decide)]
          have x1' := x1 rfl
          unfold f_X7_unfoldedBlock at x1'
          rw [s1] at x1'
          rcases arg_cases c (n := len) (by omega) with ⟨i, hi, rfl⟩ | hc
          · rw [if_neg (nI_pos (by omega)), if_pos (nI_lt hi (by omega)), gd_nI (by omega) (by decide), nI_clamp (by omega)] at x1'
            rw [if_neg (nI_pos (by omega)), s2, if_neg (by rw [nI_le_iff (by omega) (by omega)]; omega), gd_nI (by omega) (by decide), nI_clamp (by omega)]
            have e := congrArg Prod.fst (Option.some.inj x1')
            exact ok_s ⟨((s3 i hi).1.symm.trans e), hR⟩
          · by_cases c0 : c < 0
            · rw [if_pos c0] at x1' ⊢
              exact ok_s ⟨congrArg Prod.fst (Option.some.inj x1'), hR⟩
            · have c1 : ¬ c < nI len := fun z => hc ⟨Int32.not_lt.mp c0, z⟩
              rw [if_neg c0, if_neg c1] at x1'
              rw [if_neg c0, s2, if_pos (Int32.not_lt.mp c1)]
              exact ok_s ⟨congrArg Prod.fst (Option.some.inj x1'), hR⟩
      rcases hv with rfl | rfl
      · rw [if_pos rfl]; exact ok_s (key _ (fun _ => rfl) (fun z => absurd z (by decide)))
      · rw [if_neg (by decide)]
        have hx : ∃ x, f_X7_unfoldedBlock r c H1 = some (x, H1) := by
          unfold f_X7_unfoldedBlock
          by_cases c0 : c < 0
          · exact ⟨_, if_pos c0⟩
          · rw [if_neg c0]
            by_cases c1 : c < gI H1 (r + 2) 2 9
            · rw [if_pos c1]
              have hlen : ∃ len, len ≤ 20 ∧ gI H1 (r + 2) 2 9 = nI len := by
                obtain ⟨u, H2, -, -, -, len, hl, s1, -⟩ := h9
                exact ⟨len, hl, s1⟩
              obtain ⟨len, hl, s1⟩ := hlen
              rw [s1] at c1
              rcases arg_cases c (n := len) (by omega) with ⟨i, hi, rfl⟩ | hc
              · rw [gd_nI (by omega) (by decide)]; exact ⟨_, rfl⟩
              · exact absurd ⟨Int32.not_lt.mp c0, c1⟩ hc
            · exact ⟨_, if_neg c1⟩
        obtain ⟨x, hx⟩ := hx
        rw [hx, bnd_s]
        exact ok_s (key x (fun z => absurd z (by decide)) (fun _ => hx))
  · have e : f_X8_way nr a l c H = some (-1, H) := by
      unfold f_X8_way
      rw [fin_no hRR ha, bnd_s, nz_n]
    rw [e]
    exact ok_s (hno (Or.inl ha))
theorem eq_along {nr : Nat} {H : Hp} (h : Rel nr H) (a : Int32) (l : Int64) (c : Int32) : ok (f_X8_along nr a l c H) (fun x H1 => ok (f_X9_along a l c H1) (fun y H2 => y = x ∧ Rel nr H2)) := by
  obtain ⟨hRR, ρ, w, hr, hK, hC, hM⟩ := id h
  have h8 := hRR.1
  have hno : (¬ (0 ≤ a ∧ a < nI nr) ∨ ∃ r, r < nr ∧ a = nI r ∧ gI H 0 3 r = 0) → ok (f_X9_along a l c H) (fun y H2 => y = -1 ∧ Rel nr H2) := by
    intro ha
    obtain ⟨H2, e, hR⟩ := wy_no h l ha
    unfold f_X9_along
    rw [hl_e, e, bnd_s, if_pos rfl]
    exact ok_s ⟨rfl, hR⟩
  rcases arg_cases a (n := nr) (by omega) with ⟨r, hrn, rfl⟩ | ha
  · obtain ⟨b1, b2, b3⟩ := hr r hrn
    unfold f_X8_along
    rw [fin_yes hRR hrn, bnd_s, b2.2.2.1]
    cases hd : rD (ρ r) with
    | false =>
      rw [if_pos (show bI false = 0 from rfl), nz_n]
      exact ok_s (hno (Or.inr ⟨r, hrn, rfl, by rw [b3.2.1, hd]; rfl⟩))
    | true =>
      rw [if_neg (show ¬ bI true = 0 by decide), nz_s hrn]
      refine ok_b (way_both h hrn b1 b2 b3 hd l) ?_
      rintro v H1 ⟨q1, hv, h9⟩
      have key : ∀ x, (v = 0 → x = -1) → (v = 1 → (f_X7_unfoldedEdge r c H1 = some (x, H1))) → ok (f_X9_along (nI r) l c H1) (fun y H2 => y = x ∧ Rel nr H2) := by
        intro x x0 x1
        unfold f_X9_along
        rw [hl_e]
        refine ok_b h9 ?_
        rintro u H2 ⟨q2, rfl, len, hl, s1, s2, s3⟩
        have hR := Rel_wy (Rel_un h q1) q2
        rcases hv with rfl | rfl
        · rw [if_pos rfl]; exact ok_s ⟨(x0 rfl).symm, hR⟩
        · rw [if_neg (by decide)]
          have x1' := x1 rfl
          unfold f_X7_unfoldedEdge at x1'
          rw [s1] at x1'
          rcases arg_cases c (n := len) (by omega) with ⟨i, hi, rfl⟩ | hc
          · rw [if_neg (nI_pos (by omega)), if_pos (nI_lt hi (by omega)), gd_nI (by omega) (by decide), nI_clamp (by omega)] at x1'
            rw [if_neg (nI_pos (by omega)), s2, if_neg (by rw [nI_le_iff (by omega) (by omega)]; omega), gd_nI (by omega) (by decide), nI_clamp (by omega)]
            have e := congrArg Prod.fst (Option.some.inj x1')
            exact ok_s ⟨((s3 i hi).2.symm.trans e), hR⟩
          · by_cases c0 : c < 0
            · rw [if_pos c0] at x1' ⊢
              exact ok_s ⟨congrArg Prod.fst (Option.some.inj x1'), hR⟩
            · have c1 : ¬ c < nI len := fun z => hc ⟨Int32.not_lt.mp c0, z⟩
              rw [if_neg c0, if_neg c1] at x1'
              rw [if_neg c0, s2, if_pos (Int32.not_lt.mp c1)]
              exact ok_s ⟨congrArg Prod.fst (Option.some.inj x1'), hR⟩
      rcases hv with rfl | rfl
      · rw [if_pos rfl]; exact ok_s (key _ (fun _ => rfl) (fun z => absurd z (by decide)))
      · rw [if_neg (by decide)]
        have hx : ∃ x, f_X7_unfoldedEdge r c H1 = some (x, H1) := by
          unfold f_X7_unfoldedEdge
          by_cases c0 : c < 0
          · exact ⟨_, if_pos c0⟩
          · rw [if_neg c0]
            by_cases c1 : c < gI H1 (r + 2) 2 9
            · rw [if_pos c1]
              have hlen : ∃ len, len ≤ 20 ∧ gI H1 (r + 2) 2 9 = nI len := by
                obtain ⟨u, H2, -, -, -, len, hl, s1, -⟩ := h9
                exact ⟨len, hl, s1⟩
              obtain ⟨len, hl, s1⟩ := hlen
              rw [s1] at c1
              rcases arg_cases c (n := len) (by omega) with ⟨i, hi, rfl⟩ | hc
              · rw [gd_nI (by omega) (by decide)]; exact ⟨_, rfl⟩
              · exact absurd ⟨Int32.not_lt.mp c0, c1⟩ hc
            · exact ⟨_, if_neg c1⟩
        obtain ⟨x, hx⟩ := hx
        rw [hx, bnd_s]
        exact ok_s (key x (fun z => absurd z (by decide)) (fun _ => hx))
  · have e : f_X8_along nr a l c H = some (-1, H) := by
      unfold f_X8_along
      rw [fin_no hRR ha, bnd_s, nz_n]
    rw [e]
    exact ok_s (hno (Or.inl ha))
