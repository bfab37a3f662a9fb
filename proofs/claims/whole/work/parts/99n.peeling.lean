theorem LY_up {G : Gr} {kn : Nat → Bool} {x : Nat → Int64} {n l : Nat} {v : Int64} {H : Hp} (h : LY G kn x n H) (hv : v = x l) : LY G (upB kn l true) x n (sI (sJ H 0 41 l v) 0 42 l (bI true)) := by
  intro j hj
  obtain ⟨a1, a2, a3, a4⟩ := h j hj
  by_cases q : j = l
  · rw [q] at a1 a2 ⊢
    refine ⟨?_, ?_, ?_, fun _ => ?_⟩
    · rw [gI_ne (by omega), gI_sJ]; exact a1
    · rw [gI_ne (by omega), gI_sJ]; exact a2
    · rw [gI_eq, show upB kn l true l = true from if_pos rfl]
    · rw [gJ_sI, gJ_eq]; exact hv
  · have e : upB kn l true j = kn j := if_neg q
    rw [e]
    refine ⟨?_, ?_, ?_, fun z => ?_⟩
    · rw [gI_ne (by omega), gI_sJ]; exact a1
    · rw [gI_ne (by omega), gI_sJ]; exact a2
    · rw [gI_ne (by omega), gI_sJ]; exact a3
    · rw [gJ_sI, gJ_ne (by omega)]; exact a4 z
/-- what the reference's solving rests on, kept by it -/
def SO (r : Nat) (G : Gr) (ls : Nat → Int64) (H : Hp) : Prop := ∃ (st : Nat → Int64) (op : Nat → Nat), ∀ H', Ch TT LLY H H' → gI H' 0 1 r = nI (qB G) ∧ (∀ b, b < qB G → gJ H' 0 21 (20 * r + b) = st b) ∧ (∀ b, b < qB G → f_X9_openOf (nI r) (nI b) H' = some (nI (op b), H')) ∧ (∀ b, b < qB G → op b ≤ 30 ∧ ls b = st b + lN (op b))
theorem x9_so_42 {r : Nat} {G : Gr} {ls cN x : Nat → Int64} {kn0 : Nat → Bool} {b2 : Int32} {k : Int32 → Hp → Option (Int64 × Hp)} {Q : Int64 → Hp → Prop} {H0 H : Hp} (hr : r < 8) (w : WG G) (h0 : 0 < qB G) (hb : Bal G ls cN x) (hSO : SO r G ls H0) (hC0 : Ch TT LLY H0 H) (h43 : gI H 0 0 43 = nI (lk G)) (hy : LY G kn0 x (lk G) H) (K : ∀ kn ch H', Ch TT LLY H0 H' → gI H' 0 0 43 = nI (lk G) → LY G kn x (lk G) H' → (∀ j, kn0 j = true → kn j = true) → (ch = false → kn = kn0 ∧ ∀ u, nod G u → cntP (uk G kn u) (lk G) ≠ 1) → (ch = true → cntP kn0 (lk G) < cntP kn (lk G)) → ok (k (bI ch) H') Q) : ok (L_X9_solve_42 (nI r) b2 k FU 0 0 H) Q := by
  have hB := w.1
  have hE := w.2.1
  have hlk := lk_le w
  obtain ⟨st, op, hso⟩ := hSO
  refine ok_g2 21 (fun i a H' => ∃ kn ch, a = bI ch ∧ Ch TT LLY H0 H' ∧ gI H' 0 0 43 = nI (lk G) ∧ LY G kn x (lk G) H' ∧ (∀ j, kn0 j = true → kn j = true) ∧ (ch = false → kn = kn0 ∧ ∀ u, u < i → nod G u → cntP (uk G kn u) (lk G) ≠ 1) ∧ (ch = true → cntP kn0 (lk G) < cntP kn (lk G))) ?_ ?_ rfl ⟨kn0, false, rfl, hC0, h43, hy, fun j z => z, fun _ => ⟨rfl, fun u hu => absurd hu (Nat.not_lt_zero _)⟩, fun z => Bool.noConfusion z⟩ (FUgt (by omega))
  · rintro i n a H1 hi ⟨kn, ch, rfl, hC1, g43, gy, gm, gf, gt⟩ K1
    obtain ⟨o1, o2, o3, o4⟩ := hso H1 hC1
    have hnode : nod G i → ok (L_X9_solve_82 (nI r) b2 (bI ch) (nI i) (fun z30 z31 z32 H33 => if z31 = 1 then L_X9_solve_211 (nI r) b2 (nI i) z30 (fun z46 H47 => gd z30 61 (jn (fun y49 H50 => gd z30 61 (hl (sJ H50 0 41 (Int32.toNatClampNeg z30) y49) (fun H51 => gd z30 61 (hl (sI H51 0 42 (Int32.toNatClampNeg z30) (vp_nar .boolean 1)) (fun H52 => vl (nI i + (1 : Int32)) (fun v53 => L_X9_solve_42 (nI r) b2 k n 1 v53 H52)))))) (fun j48 => if (gI H47 0 39 (Int32.toNatClampNeg z30)) = nI i then j48 z46 H47 else j48 (-z46) H47))) FU z32 0 H33 else vl (nI i + (1 : Int32)) (fun v55 => L_X9_solve_42 (nI r) b2 k n (bI ch) v55 H33)) FU (-1) 0 0 0 H1) Q := by
      intro hnd
      refine x9_so_82 w h0 (by omega) g43 gy (fun z5 hz => ?_)
      have hcl : cntP (uk G kn i) (lk G) ≤ lk G := cntP_le _ _
      by_cases c1 : cntP (uk G kn i) (lk G) = 1
      · obtain ⟨l, hll, rfl, hul⟩ := hz (by omega)
        rw [if_pos (by rw [c1]; rfl)]
        refine x9_so_211 hr o1 w hnd o2 o3 o4 ?_
        have hval := so_val hb hnd c1 hll hul
        obtain ⟨u1, u2, u3⟩ := of_decide_eq_true hul
        have n1 := nod_le w (lF_nod w l)
        have fin : ∀ v, v = x l → ok (gd (nI l) 61 (hl (sJ H1 0 41 (Int32.toNatClampNeg (nI l)) v) (fun H51 => gd (nI l) 61 (hl (sI H51 0 42 (Int32.toNatClampNeg (nI l)) (vp_nar .boolean 1)) (fun H52 => vl (nI i + (1 : Int32)) (fun v53 => L_X9_solve_42 (nI r) b2 k n 1 v53 H52)))))) Q := by
          intro v hv
          rw [gd_nI (by omega) (by decide), nI_clamp (n := l) (by omega), hl_e, gd_nI (by omega) (by decide), hl_e, show vp_nar .boolean (1 : Int32) = bI true from rfl]
          simp only [vl, l1, nIadd]
          refine K1 _ _ ⟨upB kn l true, true, rfl, Ch.sI rfl rfl (Ch.sJ rfl rfl hC1), ?_, LY_up gy hv, fun j hj => ?_, fun z => Bool.noConfusion z, fun _ => ?_⟩
          · rw [gI_ne (by omega), gI_sJ]; exact g43
          · show (if j = l then true else kn j) = true
            by_cases q : j = l
            · rw [if_pos q]
            · rw [if_neg q]; exact gm j hj
          · rw [cnt_up hll u3]
            cases hch : ch with
            | false => rw [(gf hch).1]; omega
            | true => have := gt hch; omega
        rw [gd_nI (by omega) (by decide)]
        simp only [jn]
        rw [nI_clamp (n := l) (by omega), (gy l hll).1]
        rw [nI_clamp (n := l) (by omega)] at fin
        by_cases qf : lF G l = i
        · rw [if_pos (by rw [qf])]
          refine fin _ ?_
          rw [dlt_F _ qf (fun z => u1 (qf.trans z.symm))] at hval
          grind
        · rw [if_neg (by rw [nI_inj (by omega) (by omega)]; exact qf)]
          refine fin _ ?_
          rw [dlt_T _ (u2.elim (fun z => absurd z qf) id) qf] at hval
          grind
      · rw [if_neg (by show ¬ _ = nI 1; rw [nI_inj (by omega) (by omega)]; exact c1)]
        simp only [vl, l1, nIadd]
        refine K1 _ _ ⟨kn, ch, rfl, hC1, g43, gy, gm, fun hch => ⟨(gf hch).1, fun u hu hun => ?_⟩, gt⟩
        by_cases q : u = i
        · rw [q]; exact c1
        · exact (gf hch).2 u (by omega) hun
    rw [L_X9_solve_42, if_neg (by rw [l21, nI_le_iff (by omega) (by omega)]; omega), gd_nI (by omega) (by decide), nI_clamp (n := r) (by omega), o1]
    simp only [jn] at hnode ⊢
    by_cases q1 : i < qB G
    · rw [if_pos (nI_lt q1 (by omega))]
      exact hnode (Or.inl q1)
    · rw [if_neg (fun z => q1 ((nI_lt_iff (by omega) (by omega)).mp z))]
      by_cases q2 : i = 20
      · rw [if_pos (by rw [q2]; rfl)]
        exact hnode (Or.inr q2)
      · rw [if_neg (by rw [l20, nI_inj (by omega) (by omega)]; exact q2)]
        simp only [vl, l1, nIadd]
        refine K1 _ _ ⟨kn, ch, rfl, hC1, g43, gy, gm, fun hch => ⟨(gf hch).1, fun u hu hun => ?_⟩, gt⟩
        by_cases q : u = i
        · rw [q] at hun; exact absurd hun (fun z => z.elim q1 q2)
        · exact (gf hch).2 u (by omega) hun
  · rintro n a H1 ⟨kn, ch, rfl, hC1, g43, gy, gm, gf, gt⟩
    rw [L_X9_solve_42, if_pos (by rw [l21, nI_le_iff (by omega) (by omega)]; omega)]
    exact K kn ch H1 hC1 g43 gy gm (fun hch => ⟨(gf hch).1, fun u hu => (gf hch).2 u (by have := nod_le w hu; omega) hu⟩) gt
theorem x9_so_33 {r : Nat} {G : Gr} {ls cN x : Nat → Int64} {kn0 : Nat → Bool} {b2 : Int32} {k : Hp → Option (Int64 × Hp)} {Q : Int64 → Hp → Prop} {H0 : Hp} {ln uL : Nat → Nat} (hr : r < 8) (w : WG G) (h0 : 0 < qB G) (hk0 : qK G 0 ≠ 3) (hEL : EL G ln uL) (hb : Bal G ls cN x) (hSO : SO r G ls H0) (h43 : gI H0 0 0 43 = nI (lk G)) (hy : LY G kn0 x (lk G) H0) (ht : ∀ j, j < lk G → tb G j = false → kn0 j = true) (K : ∀ H', Ch TT LLY H0 H' → (∀ j, j < lk G → gJ H' 0 41 j = x j) → ok (k H') Q) : ok (L_X9_solve_33 (nI r) b2 k FU 1 H0) Q := by
  have hB := w.1
  have hE := w.2.1
  have hlk := lk_le w
  refine ok_w1 (fun d a H' => ∃ kn ch, a = bI ch ∧ Ch TT LLY H0 H' ∧ gI H' 0 0 43 = nI (lk G) ∧ LY G kn x (lk G) H' ∧ (∀ j, kn0 j = true → kn j = true) ∧ (ch = false → ∀ u, nod G u → cntP (uk G kn u) (lk G) ≠ 1) ∧ d + cntP kn (lk G) = lk G + (if ch = true then 1 else 0)) ?_ (d := lk G + 1 - cntP kn0 (lk G)) ⟨kn0, true, rfl, Ch.rf _, h43, hy, fun j z => z, fun z => Bool.noConfusion z, ?_⟩ (FUgt (by omega))
  · rintro d n a H1 ⟨kn, ch, rfl, hC1, g43, gy, gm, gf, gd'⟩ K1
    rw [L_X9_solve_33]
    cases ch with
    | false =>
      rw [if_pos (show bI false = 0 from rfl)]
      have hall := so_all w h0 hk0 hEL (fun j hj hb' => gm j (ht j hj hb')) (gf rfl)
      exact K H1 hC1 (fun j hj => (gy j hj).2.2.2 (hall j hj))
    | true =>
      rw [if_neg (show ¬ bI true = 0 by decide)]
      refine x9_so_42 hr w h0 hb hSO hC1 g43 gy (fun kn' ch' H2 q1 q2 q3 q4 q5 q6 => ?_)
      have hc1 : cntP kn' (lk G) ≤ lk G := cntP_le _ _
      rw [if_pos rfl] at gd'
      cases ch' with
      | false =>
        obtain ⟨e, f⟩ := q5 rfl
        subst e
        exact K1 (d - 1) _ _ (by omega) ⟨_, false, rfl, q1, q2, q3, fun j z => q4 j (gm j z), fun _ => f, by rw [if_neg (by decide)]; omega⟩
      | true =>
        have := q6 rfl
        exact K1 (lk G + 1 - cntP kn' (lk G)) _ _ (by omega) ⟨kn', true, rfl, q1, q2, q3, fun j z => q4 j (gm j z), fun z => Bool.noConfusion z, by rw [if_pos rfl]; omega⟩
  · have hc1 : cntP kn0 (lk G) ≤ lk G := cntP_le _ _
    rw [if_pos rfl]; omega
abbrev LSO : List (Nat × Nat × Option Nat) := [(0, 0, some 34), (0, 0, some 43), (0, 39, none), (0, 40, none), (0, 41, none), (0, 42, none)]
theorem LY_sg {G : Gr} {g : Nat → Nat} {kn : Nat → Bool} {x : Nat → Int64} {n : Nat} {H : Hp} (h : LY G kn x n H) : LY (sg G g) kn x n H := by
  intro j hj
  rw [lF_sg]
  exact h j hj
theorem x9_solve {nr r e : Nat} {ρ : Nat → Rt} {w : Wk} {x : Nat → Int64} {ln uL : Nat → Nat} {H : Hp} (hRR : RR nr H) (hR : ∀ r, r < nr → PR (ρ r) ∧ MR r (ρ r) H) (hK : PK nr ρ w) (hM : MK w H) (hr : r < nr) (hd : rD (ρ r) = true) (he : e < qE (rG (ρ r))) (hEL : EL (rGp (ρ r)) ln uL) (hb : Bal (rGp (ρ r)) (lsV (ρ r) w r) (rlg (ρ r)).2.1 x) : ok (f_X9_solve (nI r) (nI e) H) (fun v H' => Ch TT LSO H H' ∧ v = x e) := by
  have h8 := hRR.1
  obtain ⟨hP, m1, m2, m3, m4⟩ := hR r hr
  obtain ⟨f1, f2, f3, f4⟩ := m4 hd
  have wp := WG_gp hP hd
  have wg := hP.1
  have hB : qB (rG (ρ r)) ≤ 20 := wp.1
  have hE : qE (rG (ρ r)) ≤ 40 := wp.2.1
  obtain ⟨p0, p1⟩ := fin_facts hP hd he
  have hC0 : Ch TT LSO H (sI H 0 0 34 0) := Ch.sI rfl rfl (Ch.rf H)
  have hRR0 : RR nr (sI H 0 0 34 0) := RR_sI hRR (by omega) (by omega)
  unfold f_X9_solve
  rw [hl_e]
  generalize sI H 0 0 34 0 = H0 at hC0 hRR0 ⊢
  have hG0 := MG_ch m1 hC0 rfl
  have hd0 : gI H0 0 3 r = bI true := by rw [hC0.gi _ _ _ rfl, m2, hd]
  rw [dn_yes hRR0 hr, bnd_s, hd0, if_neg (show ¬ bI true = 0 by decide), if_neg (by decide), ie_yes hRR0 hr hG0.2.1, bnd_s, if_pos (ar_in he (by omega)), if_neg (by decide)]
  refine ok_b (x9_lay (kn := fun j => !(tb (rGp (ρ r)) j)) (x := x) (by omega) hG0 wg (fun e' he' => by rw [hC0.gi _ _ _ rfl]; exact f2.1 e' he') (fun e' he' hk => ?_) (fun j hj => ?_)) ?_
  · rw [hC0.gj _ _ _ rfl, (f3.1 e' (by omega)).2]
    have hk' : tb (rGp (ρ r)) e' = false := by
      cases z : tb (rGp (ρ r)) e' with
      | false => rfl
      | true => rw [z] at hk; cases hk
    exact (hb.1 e' (Nat.lt_trans he' (lk_gt (rGp (ρ r)))) hk').symm
  · show (!(tb (rGp (ρ r)) j)) = false
    rw [(tb_iff (G := rGp (ρ r))).mpr (Or.inl hj)]; rfl
  · rintro - H1 ⟨q1, g43, gy⟩
    have hC1 : Ch TT LSO H H1 := Ch.tr (fun _ q => q) rfl hC0 q1
    have hSO : SO r (rGp (ρ r)) (lsV (ρ r) w r) H1 := by
      refine ⟨(rlg (ρ r)).2.2.1, opn w r, fun H' q => ?_⟩
      have hC' : Ch TT LSO H H' := Ch.tr (fun _ q => q) rfl hC1 q
      refine ⟨(MG_ch m1 hC' rfl).1, fun b hb' => ?_, fun b hb' => ?_, fun b hb' => ⟨Nat.le_trans (cntP_le _ _) hK.1, rfl⟩⟩
      · rw [hC'.gj _ _ _ rfl]; exact f3.2.1 b (Nat.lt_of_lt_of_le hb' hB)
      · exact m_open h8 (fun r' hr' => (hR r' hr').1) hK (MK_ch hM hC' rfl) hr (Nat.lt_of_lt_of_le hb' hB)
    refine x9_so_33 (by omega) wp p0 p1 hEL hb hSO g43 (LY_sg gy) (fun j hj hb' => ?_) (fun H2 q2 hv => ?_)
    · show (!(tb (rGp (ρ r)) j)) = true
      rw [hb']; rfl
    · rw [gd_nI (by omega) (by decide), nI_clamp (n := e) (by omega)]
      exact ok_s ⟨Ch.tr (fun _ q => q) rfl hC1 q2, hv e (Nat.lt_trans he (lk_gt (rGp (ρ r))))⟩
theorem eq_solve {nr : Nat} {H : Hp} (h : Rel nr H) (a c : Int32) : ok (f_X8_solve nr a c H) (fun x H1 => ok (f_X9_solve a c H1) (fun y H2 => y = x ∧ Rel nr H2)) := by
  obtain ⟨hRR, ρ, w, hr, hK, hC, hM⟩ := id h
  have h8 := hRR.1
  have hR0 := Rel_no h
  rcases arg_cases a (n := nr) (by omega) with ⟨r, hrn, rfl⟩ | ha
  · obtain ⟨b1, b2, b3⟩ := hr r hrn
    have hE := b1.1.2.1
    have m0 := MR_34 b3 0
    unfold f_X8_solve f_X8_finishedWithEdge
    rw [fin_yes hRR hrn, bnd_s, b2.2.2.1]
    cases hd : rD (ρ r) with
    | false =>
      rw [if_pos (show bI false = 0 from rfl), nz_n, bnd_s, nz_n]
      refine ok_s ?_
      unfold f_X9_solve
      rw [hl_e, dn_yes hR0.1 hrn, bnd_s, m0.2.1, hd, if_pos (show bI false = 0 from rfl), if_pos rfl]
      exact ok_s ⟨rfl, hR0⟩
    | true =>
      rw [if_neg (show ¬ bI true = 0 by decide), nz_s hrn, he_x3 b2.2.1.2.1, bnd_s]
      rcases arg_cases c (n := qE (rG (ρ r))) (by omega) with ⟨e, he, rfl⟩ | hc
      · rw [if_pos (ar_in he (by omega)), if_neg (by decide), bnd_s, nz_s hrn]
        have f := b2.2.2.2.2 hd
        obtain ⟨t1, t2, t3, ln, uL, hEL, hU⟩ := f.2.2.1
        refine ok_b (x2_rebuilt h8 (fun r' hr' => ⟨(hr r' hr').1, (hr r' hr').2.1⟩) hK hC hrn hd he) ?_
        rintro v H1 ⟨q1, x, hx, rfl⟩
        have hR1 : Rel nr H1 := Rel_q (L1 := LRB) (L2 := []) h q1 rfl rfl rfl (Ch.rf _) rfl rfl
        have hM1 : MK w H1 := MK_eq hM (fun k i => (q1.c0 rfl k i).1) (fun k i => (q1.c0 rfl k i).2)
        refine ok_s (ok_m (x9_solve hR1.1 (fun r' hr' => ⟨(hr r' hr').1, MR_c (hr r' hr').2.2 q1 rfl⟩) hK hM1 hrn hd he hEL hx) ?_)
        rintro y H2 ⟨q2, rfl⟩
        exact ⟨rfl, Rel_q (L1 := []) (L2 := LSO) hR1 (Ch.rf _) rfl rfl rfl q2 rfl rfl⟩
      · rw [if_neg hc, if_pos rfl, bnd_s, nz_n]
        refine ok_s ?_
        unfold f_X9_solve
        rw [hl_e, dn_yes hR0.1 hrn, bnd_s, m0.2.1, hd, if_neg (show ¬ bI true = 0 by decide), if_neg (by decide), ie_yes hR0.1 hrn m0.1.2.1, bnd_s, if_neg hc, if_pos rfl]
        exact ok_s ⟨rfl, hR0⟩
  · unfold f_X8_solve f_X8_finishedWithEdge
    rw [fin_no hRR ha, bnd_s, nz_n, bnd_s, nz_n]
    refine ok_s ?_
    unfold f_X9_solve
    rw [hl_e, dn_no hR0.1 ha, bnd_s, if_pos rfl]
    exact ok_s ⟨rfl, hR0⟩
