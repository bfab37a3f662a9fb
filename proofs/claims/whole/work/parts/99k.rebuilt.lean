theorem netD_congr {G : Gr} {D D' : Nat → Bool} {x : Nat → Int64} {u n : Nat} (h : ∀ j, j < n → D j = D' j) : netD G D x u n = netD G D' x u n := sumJ_congr (fun j hj => by rw [h j hj])
theorem sumJ_z {f : Nat → Int64} {n : Nat} (h : ∀ i, i < n → f i = 0) : sumJ f n = 0 := by rw [sumJ_congr (g := fun _ => 0) h, sumJ_0]
theorem sumJ_neg (f : Nat → Int64) (n : Nat) : sumJ (fun i => - f i) n = - sumJ f n := by
  induction n with
  | zero => exact (show (0 : Int64) = - 0 by decide)
  | succ n ih => rw [sumJ_s, sumJ_s, ih]; grind
theorem netD_0 (G : Gr) (x : Nat → Int64) (u n : Nat) : netD G (fun _ => false) x u n = 0 := sumJ_z (fun i _ => if_neg (fun z => Bool.noConfusion z))
theorem x5_rebuild {r : Nat} {G : Gr} {ls cN : Nat → Int64} {H : Hp} (w : WG G) (h0 : 0 < qB G) (hk : qK G 0 ≠ 3) (hb : gI H (r + 2) 1 10 = nI (qB G)) (he : gI H (r + 2) 1 11 = nI (qE G)) (hL : CL r G H) (hT : CT r G G H) (hl : ∀ b, b < qB G → gJ H (r + 2) 7 b = ls b) (hc : ∀ e, e < qE G → gJ H (r + 2) 35 e = cN e) : ok (f_X5_rebuild r H) (fun _ H' => Ch TT LCY H H' ∧ ∃ x, Bal G ls cN x ∧ ∀ j, j < lk G → gJ H' (r + 2) 33 j = x j) := by
  have hB := w.1
  have hE := w.2.1
  obtain ⟨t1, t2, t3, ln, uL, hEL, hU⟩ := hT
  unfold f_X5_rebuild
  refine x5_re_2 w hb hl (fun H1 hC1 hs1 => ?_)
  have e1 : gI H1 (r + 2) 1 10 = nI (qB G) := by rw [hC1.gi _ _ _ rfl]; exact hb
  rw [e1, gd_nI (by omega) (by decide), nI_clamp (n := qB G) (by omega), hl_e]
  have hC2 : Ch TT LCY H (sJ H1 (r + 2) 32 (qB G) 0) := Ch.sJ rfl rfl hC1
  have hz : gJ (sJ H1 (r + 2) 32 (qB G) 0) (r + 2) 32 (qB G) = 0 := gJ_eq _ _ _ _ _
  have hs2 : ∀ b, b < qB G → gJ (sJ H1 (r + 2) 32 (qB G) 0) (r + 2) 32 b = - ls b := fun b hb' => by rw [gJ_ne (by omega)]; exact hs1 b hb'
  generalize sJ H1 (r + 2) 32 (qB G) 0 = H2 at hC2 hz hs2 ⊢
  have hS : SC r G (fun c => gJ H2 (r + 2) 32 c) (- sumJ ls (qB G)) (fun _ => false) (fun _ => 0) H2 := by
    refine ⟨fun j _ z => Bool.noConfusion z, fun c _ => ?_, ?_⟩
    · rw [netD_0, Int64.add_zero]
    · rw [sumJ_s, hz, Int64.add_zero, sumJ_congr (g := fun i => - ls i) (fun i hi => hs2 i hi), sumJ_neg]
  refine x5_re_44 (cN := cN) w h0 (by rw [hC2.gi _ _ _ rfl]; exact he) (CL_ch' hL hC2 rfl) (fun j hj => by rw [hC2.gi _ _ _ rfl]; exact t1 j hj) (fun e he' => by rw [hC2.gj _ _ _ rfl]; exact hc e he') hS (fun H3 D x q3 hS3 hD3 hx3 => ?_)
  have hC3 : Ch TT LCY H H3 := Ch.tr (fun _ q => q) rfl hC2 q3
  have e9 : gI H3 (r + 2) 3 9 = nI (qB G + 1) := by rw [hC3.gi _ _ _ rfl]; exact hU.1
  have hU3 : CUp r G ln uL H3 := ⟨e9, fun k hk' => by rw [hC3.gi _ _ _ rfl]; exact hU.2.1 k hk', fun k a b => by rw [hC3.gi _ _ _ rfl]; exact hU.2.2.1 k a b, by rw [hC3.gi _ _ _ rfl]; exact hU.2.2.2⟩
  rw [e9, l1, nI_sub (by omega), Nat.add_sub_cancel]
  simp only [vl]
  refine x5_re_85 w h0 (CL_ch' hL hC3 rfl) hEL hU3 hS3 hD3 hx3 (fun H4 D4 x4 q4 hS4 hD4 hx4 hz4 => ok_s ⟨Ch.tr (fun _ q => q) rfl hC3 q4, x4, ⟨hx4, fun u hu => ?_⟩, fun j hj => ?_⟩)
  · have hall : ∀ j, j < lk G → D4 j = true := fun j hj => by
      rw [hD4 j hj]
      cases hb4 : tb G j with
      | false => exact Or.inl rfl
      | true => exact Or.inr (up_all w h0 hk hEL (fun l => ⟨lF_nod w l, lT_nod w h0 l⟩) (tT_iff.mpr ⟨hj, hb4⟩))
    have hnet : ∀ c, c ≤ qB G → gJ H4 (r + 2) 32 c = gJ H2 (r + 2) 32 c + netD G (fun _ => true) x4 (un G c) (lk G) := fun c hc' => by
      rw [hS4.2.1 c hc', netD_congr (D' := fun _ => true) hall]
    have hzero : ∀ b, b < qB G → gJ H4 (r + 2) 32 b = 0 := fun b hb' => by
      obtain ⟨k, k1, k2⟩ := hEL.2.2.2.1 b (Or.inl hb')
      have hk0 : k ≠ 0 := fun z => by
        rw [z, hEL.1] at k2
        omega
      have := hz4 k (by omega) k1
      rw [k2, nd_b w hb'] at this
      exact this
    unfold s0
    by_cases q : u = 20
    · rw [if_pos q, q]
      have h20 := hnet (qB G) (Nat.le_refl _)
      have hsum := hS4.2.2
      rw [sumJ_s, sumJ_z (fun i hi => hzero i hi), h20, hz, show un G (qB G) = 20 from if_pos rfl] at hsum
      grind
    · rw [if_neg q]
      have hub : u < qB G := hu.elim id (fun z => absurd z q)
      have h1 := hnet u (by omega)
      rw [hzero u hub, hs2 u hub, show un G u = u from if_neg (by omega)] at h1
      grind
  · refine hS4.1 j hj ?_
    rw [hD4 j hj]
    cases hb4 : tb G j with
    | false => exact Or.inl rfl
    | true => exact Or.inr (up_all w h0 hk hEL (fun l => ⟨lF_nod w l, lT_nod w h0 l⟩) (tT_iff.mpr ⟨hj, hb4⟩))
abbrev LRB : List (Nat × Nat × Option Nat) := [(2, 7, none), (2, 32, none), (2, 33, none)]
def lsV (a : Rt) (w : Wk) (r b : Nat) : Int64 := (rlg a).2.2.1 b + lN (opn w r b)
theorem WG_gp {a : Rt} (hP : PR a) (hd : rD a = true) : WG (rGp a) := WG_sg hP.1 (hP.2.2.2 hd).2.1
theorem fin_facts {a : Rt} (hP : PR a) (hd : rD a = true) {e : Nat} (he : e < qE (rG a)) : 0 < qB (rG a) ∧ qK (rG a) 0 ≠ 3 := ⟨(ff4_0 (why_0 (hP.2.2.2 hd).1).1).1, not_leave hP.1 (hP.2.2.2 hd).1 (by omega)⟩
theorem x2_rebuilt {nr r e : Nat} {ρ : Nat → Rt} {w : Wk} {H : Hp} (hn : nr ≤ 8) (hR : ∀ r, r < nr → PR (ρ r) ∧ CR r (ρ r) H) (hK : PK nr ρ w) (hC : CK w H) (hr : r < nr) (hd : rD (ρ r) = true) (he : e < qE (rG (ρ r))) : ok (f_X2_rebuiltCount nr r (nI e) H) (fun v H' => Ch TT LRB H H' ∧ ∃ x, Bal (rGp (ρ r)) (lsV (ρ r) w r) (rlg (ρ r)).2.1 x ∧ v = x e) := by
  obtain ⟨hP, c1, c2, c3, c4, c5⟩ := hR r hr
  obtain ⟨f1, f2, f3, f4, f5, f6, f7⟩ := c5 hd
  have wp := WG_gp hP hd
  have hB : qB (rG (ρ r)) ≤ 20 := wp.1
  have hE : qE (rG (ρ r)) ≤ 40 := wp.2.1
  obtain ⟨p0, p1⟩ := fin_facts hP hd he
  unfold f_X2_rebuiltCount
  refine ok_g1 (qB (rG (ρ r))) (fun i H' => Ch TT LRB H H' ∧ ∀ b, b < i → gJ H' (r + 2) 7 b = lsV (ρ r) w r b) ?_ ?_ rfl ⟨Ch.rf H, fun b hb => absurd hb (Nat.not_lt_zero _)⟩ (FUgt (by omega))
  · rintro i n H1 hi ⟨hC1, hI⟩ K1
    have e1 : gI H1 (r + 2) 1 10 = nI (qB (rG (ρ r))) := by rw [hC1.gi _ _ _ rfl]; exact c2.1
    have e2 : gI H1 (r + 2) 0 0 = nI r := by rw [hC1.gi _ _ _ rfl]; exact c1
    have e3 : gJ H1 (r + 2) 36 i = (rlg (ρ r)).2.2.1 i := by rw [hC1.gj _ _ _ rfl]; exact f5.2.1 i (by omega)
    have hop : opn w r i ≤ 30 := Nat.le_trans (cntP_le _ _) hK.1
    have hx := x6_open (b := i) hn (fun r' hr' => ⟨(hR r' hr').1, by rw [hC1.gi _ _ _ rfl]; exact (hR r' hr').2.1⟩) hK (CK_ch hC hC1 rfl) hr (by omega)
    rw [L_X2_rebuiltCount_2, e1, if_neg (by rw [nI_le_iff (by omega) (by omega)]; omega), gd_nI (by omega) (by decide), e2, hx, bnd_s, gd_nI (by omega) (by decide), nI_clamp (n := i) (by omega), e3, nI_l (by omega), hl_e]
    simp only [vl, l1, nIadd]
    refine K1 _ ⟨Ch.sJ rfl rfl hC1, fun b hb => ?_⟩
    by_cases q : b = i
    · rw [q, gJ_eq]; rfl
    · rw [gJ_ne (by omega)]; exact hI b (by omega)
  · rintro n H1 ⟨hC1, hI⟩
    have e1 : gI H1 (r + 2) 1 10 = nI (qB (rG (ρ r))) := by rw [hC1.gi _ _ _ rfl]; exact c2.1
    rw [L_X2_rebuiltCount_2, e1, if_pos (by rw [nI_le_iff (by omega) (by omega)]; omega)]
    have hL1 : CL r (rGp (ρ r)) H1 := CL_ch' (CL_sg f1) hC1 rfl
    have hT1 : CT r (rGp (ρ r)) (rGp (ρ r)) H1 := by
      obtain ⟨t1, t2, t3, ln, uL, t4, u1, u2, u3, u4⟩ := f3
      refine ⟨fun j hj => ?_, ?_, ?_, ln, uL, t4, ?_, fun k hk => ?_, fun k h1 h2 => ?_, ?_⟩
      · rw [hC1.gi _ _ _ rfl]; exact t1 j hj
      · rw [hC1.gi _ _ _ rfl]; exact t2
      · rw [hC1.gj _ _ _ rfl]; exact t3
      · rw [hC1.gi _ _ _ rfl]; exact u1
      · rw [hC1.gi _ _ _ rfl]; exact u2 k hk
      · rw [hC1.gi _ _ _ rfl]; exact u3 k h1 h2
      · rw [hC1.gi _ _ _ rfl]; exact u4
    have hb1 : gI H1 (r + 2) 1 10 = nI (qB (rGp (ρ r))) := e1
    have he1 : gI H1 (r + 2) 1 11 = nI (qE (rGp (ρ r))) := by rw [hC1.gi _ _ _ rfl]; exact c2.2.1
    refine ok_b (x5_rebuild (ls := lsV (ρ r) w r) (cN := (rlg (ρ r)).2.1) wp p0 p1 hb1 he1 hL1 hT1 hI (fun e' he' => by rw [hC1.gj _ _ _ rfl]; exact (f5.1 e' (Nat.lt_of_lt_of_le he' hE)).2)) ?_
    rintro - H2 ⟨q2, x, hx, hv⟩
    have hlk : e < lk (rGp (ρ r)) := Nat.lt_trans he (lk_gt (rGp (ρ r)))
    rw [gd_nI (by omega) (by decide), nI_clamp (n := e) (by omega)]
    exact ok_s ⟨Ch.tr (fun _ q => q) rfl hC1 q2, x, hx, hv e hlk⟩
