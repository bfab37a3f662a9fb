/-- both are the least change -/
theorem nG_nd {G : Gr} {bl : Nat → Nat} (hG : GG G bl) {c : FZ} {v : Nat} (hv : nod G v) : nt (wC G bl) (fun _ => 0) c (nd G v) (lk G) = nG (lF G) (lT G) c v (lk G) := by
  refine smZ_congr (fun l hl => ?_)
  show (0 + c l) * (i1 (nd G (lT G l)) (nd G v) - i1 (nd G (lF G l)) (nd G v)) = c l * (i1 (lT G l) v - i1 (lF G l) v)
  have e : ∀ x, nod G x → i1 (nd G x) (nd G v) = i1 x v := by
    intro x hx
    unfold i1
    by_cases q : x = v
    · rw [if_pos q, if_pos (by rw [q])]
    · rw [if_neg q, if_neg (fun z => q ((nd_inj hG.1 hx hv).mp z))]
  rw [e _ (lT_nod hG.1 hG.2.1 l), e _ (lF_nod hG.1 l), Int.zero_add]
theorem nG_no {G : Gr} {bl : Nat → Nat} (hG : GG G bl) {c : FZ} {v : Nat} (hv : ¬ nod G v) : nG (lF G) (lT G) c v (lk G) = 0 := by
  refine smZ_0 (fun l hl => ?_)
  have e : ∀ x, nod G x → i1 x v = 0 := by
    intro x hx
    unfold i1
    rw [if_neg (fun z => hv (by rw [← z]; exact hx))]
  show c l * (i1 (lT G l) v - i1 (lF G l) v) = 0
  rw [e _ (lT_nod hG.1 hG.2.1 l), e _ (lF_nod hG.1 l)]
  simp
theorem mend_val {G : Gr} {bl : Nat → Nat} {c p f p' : FZ} {t : PrT} (hG : GG G bl) (h1 : RC (wC G bl) c p) (h2 : ∀ v, v < qB G + 1 → nt (wC G bl) (fun _ => 0) c v (lk G) = 0) (h3 : ∀ l, l < lk G → 0 ≤ c l ∧ c l ≤ 2000000000) (hO : aOK t) (hP : PR2 (lF G) (lT G) (bz G bl) (lk G) (aM t) (aF t) (aT t) (aK t) (aP t) (aY t)) (h4 : RC (aW t) f p') (h5 : ∀ v, v < 21 → nt (aW t) (aY t) f v (aM t) = 0) : smZ (fun l => xph (bz G bl l) (c l)) (lk G) = smZ (fun l => aK t l * f l) (aM t) := by
  obtain ⟨g1, g2, g3, g4, g5⟩ := GG_n hG
  refine Int.le_antisymm ?_ ?_
  · obtain ⟨c2, q1, q2, q3⟩ := hP.2 f (fun i hi => h4.2 i hi)
    refine Int.le_trans ?_ q3
    refine xw_opt (N := qB G + 1) (m := lk G) (F := fun l => nd G (lF G l)) (T := fun l => nd G (lT G l)) (p := p) g5 (by omega) h1 h2 (fun v hv => ?_) q1
    obtain ⟨u1, u2⟩ := nd_un hG.1 (show v ≤ qB G by omega)
    have e := nG_nd hG (c := c2) u2
    rw [u1] at e
    have hlt : un G v < 21 := by rcases u2 with u | u <;> omega
    have e2 : nG (lF G) (lT G) c2 (un G v) (lk G) = 0 := by rw [q2]; exact h5 _ hlt
    show nt (wC G bl) (fun _ => 0) c2 v (lk G) = 0
    rw [e, e2]
  · obtain ⟨f2, q1, q2, q3⟩ := hP.1 c h3
    refine Int.le_trans ?_ q3
    refine rw_opt (N := 21) (cp := aP t) (F := aF t) (T := aT t) (y := aY t) (p := p') (fun l hl => ⟨(hO.2 l hl).1, (hO.2 l hl).2.1, (hO.2 l hl).2.2.1⟩) h4 h5 (fun v hv => ?_) q1
    show smZ (fun i => (aY t i + f2 i) * (i1 (aT t i) v - i1 (aF t i) v)) (aM t) = 0
    rw [q2]
    by_cases hn : nod G v
    · rw [← nG_nd hG hn]
      exact h2 _ (by have := nd_le hG.1 hn; omega)
    · exact nG_no hG hn
/-- mend of the reference -/
theorem x9_mendIn {r : Nat} {G : Gr} {bl : Nat → Nat} {H : Hp} (hr : r < 8) (hG : GG G bl) (hS : SR r G bl H) : ok (hl (sI H 0 0 52 0) (fun (H5 : Hp) => L_X9_mend_24 (nI r) (fun (H9 : Hp) => vl ((40 * nI r)) (fun (v10 : Int32) => L_X9_mend_48 (nI r) (fun (H21 : Hp) => L_X9_mend_175 (nI r) (fun (H28 : Hp) => bnd (f_X9_push 20 0 1000000000000000 0 H28) (fun w30 H29 => L_X9_mend_233 (fun (z99 : Int64) (H100 : Hp) => some (z99, H100)) FU 0 1 H29)) FU 0 H21) FU v10 H9)) FU 0 H5)) (fun x _ => ∃ t f p, x = zJ (smZ (fun l => aK t l * f l) (aM t)) ∧ aOK t ∧ PR2 (lF G) (lT G) (bz G bl) (lk G) (aM t) (aF t) (aT t) (aK t) (aP t) (aY t) ∧ RC (aW t) f p ∧ ∀ v, v < 21 → nt (aW t) (aY t) f v (aM t) = 0) := by
  obtain ⟨g1, g2, g3, g4, g5⟩ := GG_n hG
  rw [hl_e]
  refine x9_m24 (r := r) (G := G) (bl := bl) (SR_f hS (fun k i hk => gI_ne (by omega))) (by rw [gI_eq]; rfl) (fun H1 h1 => ?_)
  rw [vl_e, show (40 : Int32) * nI r = nI (40 * r) by rw [l40, nImul]]
  refine x9_m48 hr hG h1 (fun H2 h2 => ?_)
  refine x9_m175 hr hG h2 (fun H3 h3 => ?_)
  have a1 : lF G (qE G + nL G) = 20 := by unfold lF; rw [if_neg (by omega), if_neg (by omega)]
  have a2 : lT G (qE G + nL G) = 0 := by unfold lT; rw [if_neg (by omega), if_neg (by omega)]
  obtain ⟨H4, e1, e2⟩ := LyS_end hG h3 (by omega) (by unfold lk; omega)
  rw [a1, a2] at e1
  have e1 : f_X9_push 20 0 1000000000000000 0 H3 = some ((), H4) := e1
  rw [e1, bnd_s]
  obtain ⟨t, t1, t2, t3, t4⟩ := Q9_0 hG e2
  have e0 : (0 : Int64) = zJ (smZ (fun l => aK t l * f00 l) (aM t)) := by
    rw [smZ_0 (fun l _ => by show aK t l * 0 = 0; simp)]; rfl
  rw [e0]
  exact x9_m233 t4 t3 (fun f p H5 q1 q2 => ok_s ⟨t, f, p, rfl, t1, t2, q1, q2⟩)
abbrev LMD : List (Nat × Nat × Option Nat) := [(1, 7, none), (1, 8, none), (1, 9, none), (1, 10, none)]
abbrev LM9 : List (Nat × Nat × Option Nat) := [(0, 0, some 34), (0, 0, some 52), (0, 48, none), (0, 49, none), (0, 50, none), (0, 51, none), (0, 53, none), (0, 54, none), (0, 55, none)]
theorem eq_mend {nr : Nat} {H : Hp} (h : Rel nr H) (a : Int32) : ok (f_X8_mend nr a H) (fun x H1 => ok (f_X9_mend a H1) (fun y H2 => y = x ∧ Rel nr H2)) := by
  obtain ⟨hRR, ρ, w, hr, hK, hC, hM⟩ := id h
  have h8 := hRR.1
  have hR0 := Rel_no h
  rcases arg_cases a (n := nr) (by omega) with ⟨r, hrn, rfl⟩ | ha
  · obtain ⟨b1, b2, b3⟩ := hr r hrn
    have m0 := MR_34 b3 0
    cases hd : rD (ρ r) with
    | false =>
      unfold f_X8_mend
      rw [fin_yes hRR hrn, bnd_s, b2.2.2.1, hd, if_pos (show bI false = 0 from rfl), nz_n]
      refine ok_s ?_
      unfold f_X9_mend
      rw [hl_e, dn_yes hR0.1 hrn, bnd_s, m0.2.1, hd, if_pos (show bI false = 0 from rfl), if_pos rfl]
      exact ok_s ⟨rfl, hR0⟩
    | true =>
      have f := b2.2.2.2.2 hd
      have hG : GG (rG (ρ r)) (rbl (ρ r)) := ⟨b1.1, (ff4_0 (why_0 (b1.2.2.2 hd).1).1).1, b1.2.1⟩
      have hS : MdS r (rG (ρ r)) (rbl (ρ r)) H := ⟨b2.2.1.1, b2.2.1.2.1, f.1.1, fun l hl => ⟨f.1.2.1 l hl, f.1.2.2 l hl⟩, b2.2.2.2.1⟩
      obtain ⟨x, H1, e1, c, p, rfl, c1, c2, c3⟩ := x1_least hG hS
      have e8 : f_X8_mend nr (nI r) H = some (zJ (smZ (fun l => xph (bz (rG (ρ r)) (rbl (ρ r)) l) (c l)) (lk (rG (ρ r)))), H1) := by
        unfold f_X8_mend
        rw [fin_yes hRR hrn, bnd_s, b2.2.2.1, hd, if_neg (show ¬ bI true = 0 by decide), nz_s hrn, e1, bnd_s]
      have q1 := ch_X8_mend (Ch.rf H) e8
      have hR1 : Rel nr H1 := Rel_q (L1 := LMD) (L2 := []) h q1 rfl rfl rfl (Ch.rf _) rfl rfl
      have hR10 := Rel_no hR1
      rw [e8]
      refine ok_s ?_
      have m1 : MR r (ρ r) (sI H1 0 0 34 0) := MR_34 (MR_c b3 q1 rfl) 0
      have hSR : SR r (rG (ρ r)) (rbl (ρ r)) (sI H1 0 0 34 0) := ⟨m1.1.1, m1.1.2.1, m1.1.2.2.1, fun e he => ⟨m1.1.2.2.2.2.1 e he, m1.1.2.2.2.2.2.1 e he, m1.2.2.1 e he⟩⟩
      obtain ⟨y, H2, e2, t, ff, p', rfl, d1, d2, d3, d4⟩ := x9_mendIn (r := r) (by omega) hG hSR
      have e9 : f_X9_mend (nI r) H1 = some (zJ (smZ (fun l => aK t l * ff l) (aM t)), H2) := by
        unfold f_X9_mend
        rw [hl_e, dn_yes hR10.1 hrn, bnd_s, m1.2.1, hd, if_neg (show ¬ bI true = 0 by decide), if_neg (by decide)]
        exact e2
      refine ⟨_, H2, e9, ?_, Rel_q (L1 := []) (L2 := LM9) hR1 (Ch.rf _) rfl rfl rfl (ch_X9_mend (Ch.rf _) e9) rfl rfl⟩
      rw [mend_val hG c1 c2 c3 d1 d2 d3 d4]
  · unfold f_X8_mend
    rw [fin_no hRR ha, bnd_s, nz_n]
    refine ok_s ?_
    unfold f_X9_mend
    rw [hl_e, dn_no hR0.1 ha, bnd_s, if_pos rfl]
    exact ok_s ⟨rfl, hR0⟩
theorem iv_mend {nr : Nat} {H : Hp} (h : IV nr H) (a : Int32) : ∃ v H1 H2, f_X8_mend nr a H = some (v, H1) ∧ f_X9_mend a H1 = some (v, H2) ∧ IV nr H2 := by
  obtain ⟨v, H1, e1, y, H2, e2, rfl, hR⟩ := eq_mend h.1 a
  have q1 := ch_X8_mend (Ch.rf H) e1
  exact ⟨y, H1, H2, e1, e2, hR, gb_X9_mend (gb_X8_mend h.2.1 e1) e2, FR_ch (FR_ch h.2.2 q1 rfl) (ch_X9_mend (Ch.rf _) e2) rfl⟩
