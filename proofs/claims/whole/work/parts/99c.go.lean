theorem eq_go {nr : Nat} {H : Hp} (h : Rel nr H) (a c : Int32) : ok (f_X8_go nr a c H) (fun x H1 => ok (f_X9_go a c H1) (fun y H2 => y = x ∧ Rel nr H2)) := by
  obtain ⟨ρ, w, s8, s9⟩ := h.s
  have hK := s8.2.2.1
  have h4 := hK.2.1
  have t8 := s8.t
  have t9 := s9.t
  have hno : ∀ H', Rel nr H' → (a < 1 ∨ 10000 < a ∨ ¬ gI H' 0 0 27 = 1) → ok (f_X9_go a c H') (fun y H2 => y = -1 ∧ Rel nr H2) := by
    intro H' hR hc
    unfold f_X9_go
    rw [hl_e]
    have e27 : gI (sI H' 0 0 34 0) 0 0 27 = gI H' 0 0 27 := gI_ne (by omega)
    by_cases c1 : a < 1
    · rw [if_pos c1]; exact ok_s ⟨rfl, Rel_no hR⟩
    · rw [if_neg c1]
      by_cases c2 : 10000 < a
      · rw [if_pos c2]; exact ok_s ⟨rfl, Rel_no hR⟩
      · rw [if_neg c2, e27, if_neg (hc.elim (fun z => absurd z c1) (fun z => z.elim (fun y => absurd y c2) id))]
        exact ok_s ⟨rfl, Rel_no hR⟩
  have q27 : gI H 0 0 27 = nI (wT w) := s9.2.2.2.2.1
  have q24 : gI H 1 2 4 = nI (wT w) := s8.2.2.2.2.1
  by_cases c1 : a < 1
  · have e : f_X8_go nr a c H = some (-1, H) := by unfold f_X8_go; rw [if_pos c1]
    rw [e]
    exact ok_s (hno H h (Or.inl c1))
  · by_cases c2 : 10000 < a
    · have e : f_X8_go nr a c H = some (-1, H) := by unfold f_X8_go; rw [if_neg c1, if_pos c2]
      rw [e]
      exact ok_s (hno H h (Or.inr (Or.inl c2)))
    · by_cases ht : wT w = 1
      · have c1' : ¬ a < 0 := by
          intro z
          apply c1
          rw [Int32.lt_iff_toInt_lt] at z ⊢
          have z0 : (0 : Int32).toInt = 0 := by decide
          have z1 : (1 : Int32).toInt = 1 := by decide
          omega
        obtain ⟨mo, hmo, rfl⟩ := nI_of2 (M := 10000) (n := 10000) (by decide) c1' (Int32.not_lt.mp c2)
        have hw8 : ok (f_X8_go nr (nI mo) c H) (fun x H' => ∃ n, x = nI n ∧ Dn nr c (ρ, w, 0) mo n ∧ T8 nr (itA nr c (ρ, w, 0) n).1 (setN (itA nr c (ρ, w, 0) n).2.1 (wN w + nI n)) H') := by
          unfold f_X8_go
          rw [if_neg c1, if_neg c2, q24, if_pos (by rw [ht]; rfl)]
          refine ok_b (c_stepOn t8 hK hmo) ?_
          rintro x H1 hx
          exact ok_s hx
        refine ok_m (ok_and hw8 (fun x H' e => ch_X8_go (Ch.rf H) e)) ?_
        rintro x H1 ⟨⟨n, rfl, hD, u8⟩, q1⟩
        have u9 : T9 nr ρ w H1 := T9_c t9 u8.1 q1 rfl
        have hw9 : ok (f_X9_go (nI mo) c H1) (fun x H' => ∃ n, x = nI n ∧ Dn nr c (ρ, w, 0) mo n ∧ T9 nr (itA nr c (ρ, w, 0) n).1 (setN (itA nr c (ρ, w, 0) n).2.1 (wN w + nI n)) H') := by
          unfold f_X9_go
          rw [hl_e, if_neg c1, if_neg c2, (T9_34 u9 0).2.2.2.1, if_pos (by rw [ht]; rfl)]
          exact m_go_32 (T9_34 u9 0) hK hmo (fun n H' hD' v => ok_s ⟨n, rfl, hD', v⟩)
        refine ok_m (ok_and hw9 (fun x H' e => ch_X9_go (Ch.rf H1) e)) ?_
        rintro y H2 ⟨⟨n', rfl, hD', v9⟩, q2⟩
        have hn := Dn_un hD' hD
        subst hn
        refine ⟨rfl, Rel_of (T8_c u8 v9.1 q2 rfl) v9 ?_⟩
        exact PK_it (fun r hr => (t8.2.1 r hr).1) hK (PR_it (fun r hr => (t8.2.1 r hr).1)) hD.2.1
      · have hne : ¬ nI (wT w) = 1 := by
          show ¬ nI (wT w) = nI 1
          rw [nI_inj (by omega) (by omega)]; exact ht
        have e : f_X8_go nr a c H = some (-1, H) := by unfold f_X8_go; rw [if_neg c1, if_neg c2, q24, if_neg hne]
        rw [e]
        exact ok_s (hno H h (Or.inr (Or.inr (by rw [q27]; exact hne))))
/-- begin on both sides -/
def bgW (w : Wk) : Wk := (0, wR w, wB w, wS w, 1, 0, 0)
theorem eq_begin {nr : Nat} {H : Hp} (h : Rel nr H) (a : Int32) : ok (f_X8_begin nr a H) (fun x H1 => ok (f_X9_begin a H1) (fun y H2 => y = x ∧ Rel nr H2)) := by
  obtain ⟨ρ, w, s8, s9⟩ := h.s
  have hRR := s8.1
  have h8 := hRR.1
  have hRR' : RR nr (sI H 0 0 34 0) := RR_sI hRR (by omega) (by omega)
  have hK := s8.2.2.1
  have t8 := s8.t
  have t9 := s9.t
  rcases arg_cases a (n := nr) (by omega) with ⟨r, hrn, rfl⟩ | ha
  · have c3 := (t8.2.1 r hrn).2.2.2.1
    cases hd : rD (ρ r) with
    | false =>
      have e : f_X8_begin nr (nI r) H = some (0, H) := by
        unfold f_X8_begin
        rw [fin_yes hRR hrn, bnd_s, c3, hd, if_pos (show bI false = 0 from rfl), nz_n]
      rw [e]
      refine ok_s ?_
      unfold f_X9_begin
      have m3 := (MR_34 (t9.2.1 r hrn).2 0).2.1
      rw [hd] at m3
      rw [hl_e, dn_yes hRR' hrn, bnd_s, m3, if_pos (show bI false = 0 from rfl), if_pos rfl]
      exact ok_s ⟨rfl, Rel_no h⟩
    | true =>
      have hd' : rD (dropR ρ w r) = true := hd
      have fin8 : ok (f_X8_begin nr (nI r) H) (fun x H' => x = 1 ∧ T8 nr (entR (dropR ρ w) r) (entW (bgW w) r) H') := by
        unfold f_X8_begin f_X6_startIn
        rw [fin_yes hRR hrn, bnd_s, c3, hd, if_neg (show ¬ bI true = 0 by decide), nz_s hrn]
        refine ok_b (P := fun _ H' => T8 nr (entR (dropR ρ w) r) (entW (bgW w) r) H') ?_ (fun _ H' t => ok_s ⟨rfl, t⟩)
        refine ok_b (c_drop t8 ⟨hK.1, hK.2.2.2.1⟩) ?_
        rintro _ H1 t1
        rw [hl_e, hl_e, hl_e]
        obtain ⟨x1, x2, x3, x4, x5⟩ := id t1.2.2
        have t2 : T8 nr (dropR ρ w) (bgW w) (sI (sI (sI H1 1 2 4 1) 1 2 5 0) 1 2 6 0) := by
          refine T8_w t1 (Ch.sI rfl rfl (Ch.sI rfl rfl (Ch.sI rfl rfl (Ch.rf _)))) ⟨?_, ?_, ?_, ?_, fun f hf => absurd hf (Nat.not_lt_zero _)⟩
          · rw [gI_ne (by omega), gI_ne (by omega), gI_ne (by omega)]; exact x1
          · rw [gI_ne (by omega), gI_ne (by omega), gI_eq]; rfl
          · rw [gI_ne (by omega), gI_eq]; rfl
          · rw [gI_eq]; rfl
        refine ok_b (c_enter t2 hrn hd' (by show 0 < 30; decide)) ?_
        rintro _ H2 u2
        exact ok_s u2
      refine ok_m (ok_and fin8 (fun x H' e => ch_X8_begin (Ch.rf H) e)) ?_
      rintro x H1 ⟨⟨rfl, u8⟩, q1⟩
      have u9 : T9 nr ρ w H1 := T9_c t9 u8.1 q1 rfl
      have fin9 : ok (f_X9_begin (nI r) H1) (fun x H' => x = 1 ∧ T9 nr (entR (dropR ρ w) r) (entW (bgW w) r) H') := by
        have v9 := T9_34 u9 0
        unfold f_X9_begin
        rw [hl_e]
        generalize sI H1 0 0 34 0 = H0 at v9 ⊢
        have m3 := (v9.2.1 r hrn).2.2.1
        rw [hd] at m3
        rw [dn_yes v9.1 hrn, bnd_s, m3, if_neg (show ¬ bI true = 0 by decide), if_neg (by decide)]
        refine ok_b (m_allGo v9 ⟨hK.1, hK.2.2.2.1⟩) ?_
        rintro _ H2 t1
        rw [hl_e, hl_e, hl_e]
        have t2 : T9 nr (dropR ρ w) (0, wR w, wB w, wS w, 1, wN w, wP w) (sI H2 0 0 27 1) := T9_k t1 (Or.inl rfl) rfl rfl rfl rfl ⟨Nat.le_refl _, rfl, rfl, rfl⟩
        have t3 : T9 nr (dropR ρ w) (0, wR w, wB w, wS w, 1, 0, wP w) (sI (sI H2 0 0 27 1) 0 0 29 0) := T9_k t2 (Or.inr (Or.inr (Or.inl rfl))) rfl rfl rfl rfl ⟨Nat.le_refl _, rfl, rfl, rfl⟩
        have t4 : T9 nr (dropR ρ w) (bgW w) (sI (sI (sI H2 0 0 27 1) 0 0 29 0) 0 0 30 0) := T9_k t3 (Or.inr (Or.inr (Or.inr rfl))) rfl rfl rfl rfl ⟨Nat.le_refl _, rfl, rfl, rfl⟩
        refine ok_b (m_comes t4 hrn hd' (by show 0 < 30; decide)) ?_
        rintro _ H3 u3
        exact ok_s ⟨rfl, u3⟩
      refine ok_m (ok_and fin9 (fun x H' e => ch_X9_begin (Ch.rf H1) e)) ?_
      rintro y H2 ⟨⟨rfl, v9⟩, q2⟩
      refine ⟨rfl, Rel_of (T8_c u8 v9.1 q2 rfl) v9 ?_⟩
      have b0 := (ff4_0 (why_0 ((t8.2.1 r hrn).1.2.2.2 hd).1).1).1
      refine PK_sh (ρ := ρ) ⟨by show 0 + 1 ≤ 30; omega, by show 1 ≤ 4; omega, ⟨fun _ => by show 0 < 0 + 1; omega, fun _ => rfl⟩, fun f hf => ?_, fun f hf => ?_⟩ ((shp_drop ρ w).tr (shp_ent _ r))
      · have hf' : f < 0 + 1 := hf
        have : f = 0 := by omega
        subst this
        show upN (wR w) 0 r 0 < nr ∧ rD (ρ (upN (wR w) 0 r 0)) = true ∧ upN (wB w) 0 0 0 < qB (rG (ρ (upN (wR w) 0 r 0)))
        rw [upN_eq, upN_eq]
        exact ⟨hrn, hd, b0⟩
      · have hf' : f + 1 < 0 + 1 := hf
        omega
  · have e : f_X8_begin nr a H = some (0, H) := by
      unfold f_X8_begin
      rw [fin_no hRR ha, bnd_s, nz_n]
    rw [e]
    refine ok_s ?_
    unfold f_X9_begin
    rw [hl_e, dn_no hRR' ha, bnd_s, if_pos rfl]
    exact ok_s ⟨rfl, Rel_no h⟩
