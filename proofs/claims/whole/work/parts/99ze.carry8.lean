/-- the nearest lack -/
theorem zOT_rg {a : Ac} {Fr K : Int} {p X far : FZ} {bY : Nat → Option Nat} {rk : Nat → Nat} (h : zOT a Fr K p X far bY rk) (hp : ∀ v, v < zN a → 0 ≤ p v) (hK : 0 ≤ K) (hF0 : 0 < Fr) {v : Nat} (hv : v < zN a) : 0 ≤ far v ∧ far v ≤ Fr := by
  have := hp v hv
  rcases (h.2 v hv).2 with q | ⟨q1, q2, q3, _⟩ <;> omega
def Lk (X far : FZ) (Fr : Int) (n : Nat) (x : Int32) : Prop := (x = N1 ∧ ∀ v, v < n → ¬ (X v < 0 ∧ far v ≠ Fr)) ∨ ∃ s, s < n ∧ x = nI s ∧ X s < 0 ∧ far s ≠ Fr ∧ ∀ v, v < n → X v < 0 → far v ≠ Fr → far s ≤ far v
theorem Lk_no {X far : FZ} {Fr : Int} {n : Nat} {x : Int32} (h : Lk X far Fr n x) (hn : ¬ (X n < 0 ∧ far n ≠ Fr)) : Lk X far Fr (n + 1) x := by
  rcases h with ⟨h1, h2⟩ | ⟨s, h1, h2, h3, h4, h5⟩
  · refine .inl ⟨h1, fun v hv => ?_⟩
    by_cases e : v = n
    · subst e; exact hn
    · exact h2 v (by omega)
  · refine .inr ⟨s, by omega, h2, h3, h4, fun v hv a1 a2 => ?_⟩
    by_cases e : v = n
    · subst e; exact absurd ⟨a1, a2⟩ hn
    · exact h5 v (by omega) a1 a2
theorem Lk_st {X far : FZ} {Fr : Int} {n s : Nat} (h : ∀ v, v < n → X v < 0 → far v ≠ Fr → far s ≤ far v) (h1 : X s < 0) (h2 : far s ≠ Fr) (hs : s < n + 1) (h3 : far n ≠ Fr → far s ≤ far n) : Lk X far Fr (n + 1) (nI s) := by
  refine .inr ⟨s, hs, rfl, h1, h2, fun v hv a1 a2 => ?_⟩
  by_cases e : v = n
  · subst e; exact h3 a2
  · exact h v (by omega) a1 a2
theorem x1_lack {r : Nat} {G : Gr} {bl : Nat → Nat} {c X p far : FZ} {bY : Nat → Option Nat} {rk : Nat → Nat} {H : Hp} (hr : Rd G bl c X p) (hM : MdL r G bl c X H) (hF : FB G far bY H) (ho : zOT (aC G bl c) 1000000000 65 p X far bY rk) : ok (f_X1_nearestLack r H) (fun x H' => H' = H ∧ Lk X far 1000000000 (qB G + 1) x) := by
  obtain ⟨g1, g2, g3, g4, g5⟩ := GG_n hr.1
  unfold f_X1_nearestLack
  refine ok_g2 (qB G + 1) (fun i x H' => H' = H ∧ Lk X far 1000000000 i x) ?_ ?_ rfl ⟨rfl, .inl ⟨rfl, fun v hv => absurd hv (by omega)⟩⟩ (FUgt (by omega))
  · rintro i n x H1 hi ⟨rfl, hL⟩ K
    have hx := hr.2.2.2.2 i hi
    have hf := zOT_rg ho (fun v hv => (hr.2.2.1 v hv).1) (by omega) (by omega) (v := i) hi
    rw [L_X1_nearestLack_4, hM.1.1, if_neg (by rw [nI_lt_iff (by omega) (by omega)]; omega)]
    simp only [gd_nI (show i < 21 by omega) (show 21 < 2 ^ 31 by decide), nI_clamp (show i < 2 ^ 31 by omega), vl]
    rw [hM.2.2 i (by omega), (hF i (by omega)).1, show nI i + 1 = nI (i + 1) from nIadd i 1, z0, zFr]
    by_cases e1 : 0 ≤ X i
    · rw [if_pos (by rw [zI_le (by omega) (by omega) (by omega) (by omega)]; exact e1)]
      exact K _ _ ⟨rfl, Lk_no hL (by omega)⟩
    · rw [if_neg (by rw [zI_le (by omega) (by omega) (by omega) (by omega)]; exact e1)]
      by_cases e2 : 1000000000 ≤ far i
      · rw [if_pos (by rw [zI_le (by omega) (by omega) (by omega) (by omega)]; exact e2)]
        exact K _ _ ⟨rfl, Lk_no hL (by omega)⟩
      · rw [if_neg (by rw [zI_le (by omega) (by omega) (by omega) (by omega)]; exact e2)]
        rcases hL with ⟨rfl, h2⟩ | ⟨s, h1, rfl, h3, h4, h5⟩
        · rw [if_pos (show N1 = -1 from rfl)]
          exact K _ _ ⟨rfl, Lk_st (fun v hv a1 a2 => absurd ⟨a1, a2⟩ (h2 v hv)) (by omega) (by omega) (by omega) (fun _ => Int.le_refl _)⟩
        · have hf2 := zOT_rg ho (fun v hv => (hr.2.2.1 v hv).1) (by omega) (by omega) (v := s) (show s < qB G + 1 by omega)
          rw [if_neg (by rw [show (-1 : Int32) = N1 from rfl, n_eqN (by omega)]; exact fun q => q), gd_nI (show s < 21 by omega) (by decide), nI_clamp (n := s) (by omega), (hF s (by omega)).1]
          by_cases e3 : far s ≤ far i
          · rw [if_pos (by rw [zI_le (by omega) (by omega) (by omega) (by omega)]; exact e3)]
            exact K _ _ ⟨rfl, Lk_st h5 h3 h4 (by omega) (fun _ => e3)⟩
          · rw [if_neg (by rw [zI_le (by omega) (by omega) (by omega) (by omega)]; exact e3)]
            exact K _ _ ⟨rfl, Lk_st (fun v hv a1 a2 => by have := h5 v hv a1 a2; omega) (by omega) (by omega) (by omega) (fun _ => Int.le_refl _)⟩
  · rintro n x H1 ⟨rfl, hL⟩
    rw [L_X1_nearestLack_4, hM.1.1, if_pos (by rw [nI_lt_iff (by omega) (by omega)]; omega)]
    exact ok_s ⟨rfl, hL⟩
/-- how much is carried, and the carrying -/
theorem vl_e {α β : Type} (x : α) (f : α → β) : vl x f = f x := rfl
theorem jn_if2 {α : Type} (F : Int32 → Hp → Option α) (c : Prop) [Decidable c] (a b : Int32) (H : Hp) : jn F (fun j => if c then j a H else j b H) = if c then F a H else F b H := rfl
theorem jn_rm {α : Type} (F : Int32 → Hp → Option α) (c : Prop) [Decidable c] (A B : Option (Int32 × Hp)) : jn F (fun j => if c then bnd A (fun w H => j w H) else bnd B (fun w H => j w H)) = if c then bnd A F else bnd B F := rfl
def Amt (w : Nw) (c X : FZ) (s : Nat) (e : Nat → Nat) (i : Nat) (k : Int) : Prop := 0 < k ∧ k ≤ -X s ∧ (∀ j, j < i → k ≤ nR w c (e j)) ∧ (k = -X s ∨ ∃ j, j < i ∧ k = nR w c (e j))
theorem Amt_st {w : Nw} {c X : FZ} {s i : Nat} {e : Nat → Nat} {k : Int} (h : Amt w c X s e i k) (hr : 0 < nR w c (e i)) : Amt w c X s e (i + 1) (if nR w c (e i) < k then nR w c (e i) else k) := by
  obtain ⟨h1, h2, h3, h4⟩ := h
  by_cases e1 : nR w c (e i) < k
  · rw [if_pos e1]
    refine ⟨hr, by omega, fun j hj => ?_, .inr ⟨i, by omega, rfl⟩⟩
    by_cases e2 : j = i
    · subst e2; exact Int.le_refl _
    · have := h3 j (by omega); omega
  · rw [if_neg e1]
    refine ⟨h1, h2, fun j hj => ?_, ?_⟩
    · by_cases e2 : j = i
      · subst e2; omega
      · exact h3 j (by omega)
    · rcases h4 with h4 | ⟨j, j1, j2⟩
      · exact .inl h4
      · exact .inr ⟨j, by omega, j2⟩
/-- the arc by which a node was come to -/
theorem x1_arc {G : Gr} {bl : Nat → Nat} {c X far : FZ} {Fr : Int} {bY : Nat → Option Nat} {rk P e : Nat → Nat} {n i : Nat} (hG : GG G bl) (hP : PF (aC G bl c) Fr X far bY rk P e n) (hi : i < n) : P i < qB G + 1 ∧ P (i + 1) < qB G + 1 ∧ bY (P i) = some (e i) ∧ e i / 2 < lk G ∧ 0 < nR (wC G bl) c (e i) ∧ ((e i % 2 = 0 ∧ nd G (lT G (e i / 2)) = P i ∧ nd G (lF G (e i / 2)) = P (i + 1) ∧ nR (wC G bl) c (e i) = xrm (bz G bl (e i / 2)) (c (e i / 2))) ∨ (e i % 2 ≠ 0 ∧ nd G (lT G (e i / 2)) ≠ P i ∧ nd G (lT G (e i / 2)) = P (i + 1) ∧ nR (wC G bl) c (e i) = xrl (bz G bl (e i / 2)) (c (e i / 2)))) := by
  obtain ⟨a1, a2, a3, a4, a5, a6, a7⟩ := hP.2.1 i hi
  have a2 : e i < 2 * lk G := a2
  have a4 : nV (wC G bl) (e i) = P i := a4
  have a5 : nU (wC G bl) (e i) = P (i + 1) := a5
  refine ⟨(hP.1 i (by omega)).1, (hP.1 (i + 1) (by omega)).1, a1, by omega, of_decide_eq_true a3, ?_⟩
  unfold nV at a4
  unfold nU at a5
  unfold nR
  by_cases e1 : e i % 2 = 0
  · rw [if_pos e1] at a4 a5 ⊢
    exact .inl ⟨e1, a4, a5, rfl⟩
  · rw [if_neg e1] at a4 a5 ⊢
    refine .inr ⟨e1, fun q => ?_, a5, rfl⟩
    have a5 : nd G (lT G (e i / 2)) = P (i + 1) := a5
    rw [q] at a5
    rw [a5] at a7
    omega
theorem x1_c15 {r : Nat} {G : Gr} {bl : Nat → Nat} {c X p far : FZ} {bY : Nat → Option Nat} {rk P e : Nat → Nat} {n : Nat} {H : Hp} {b1 : Int32} {k : Int32 → Int32 → Hp → Option (Unit × Hp)} {Q : Unit → Hp → Prop} (hr : Rd G bl c X p) (hM : MdL r G bl c X H) (hF : FB G far bY H) (hP : PF (aC G bl c) 1000000000 X far bY rk P e n) (hn : n < qB G + 1) (hs : X (P 0) < 0) (hk : ∀ m, Amt (wC G bl) c X (P 0) e n m → ok (k (zI m) (nI (P n)) H) Q) : ok (L_X1_carryTo_15 r b1 k FU (zI (-X (P 0))) (nI (P 0)) 0 H) Q := by
  have hG := hr.1
  obtain ⟨g1, g2, g3, g4, g5⟩ := GG_n hG
  have hx0 := hr.2.2.2.2 (P 0) (hP.1 0 (by omega)).1
  refine ok_g3 n (fun i x y H' => H' = H ∧ y = nI (P i) ∧ ∃ m, x = zI m ∧ Amt (wC G bl) c X (P 0) e i m) ?_ ?_ rfl ⟨rfl, rfl, -X (P 0), rfl, by omega, by omega, fun j hj => absurd hj (by omega), .inl rfl⟩ (FUgt (by omega))
  · rintro i f x y H1 hi ⟨rfl, rfl, m, rfl, hA⟩ K
    obtain ⟨p1, p2, p3, p4, p5, p6⟩ := x1_arc hG hP hi
    obtain ⟨q1, q2⟩ := hr.2.2.2.1 _ p4
    have hb := bz_rg hG (e i / 2)
    have hA' := Amt_st hA p5
    have ra : nR (wC G bl) c (e i) ≤ 2000000000 := by
      rcases p6 with ⟨_, _, _, q⟩ | ⟨_, _, _, q⟩
      · rw [q]; unfold xrm; split <;> omega
      · rw [q]; unfold xrl; split <;> (try split) <;> omega
    have hm := hA.2.1
    have hm1 := hA.1
    have eb : gI H1 1 10 (P i) = nI (e i / 2) := by rw [(hF _ (by omega)).2, p3]; rfl
    rw [L_X1_carryTo_15, hM.1.1, if_neg (by rw [nI_lt_iff (by omega) (by omega)]; omega)]
    simp only [gd_nI (show P i < 21 by omega) (show 21 < 2 ^ 31 by decide), nI_clamp (show P i < 2 ^ 31 by omega), eb]
    rw [if_neg (by rw [show (-1 : Int32) = N1 from rfl, n_eqN (by omega)]; exact fun q => q)]
    simp only [vl]
    rw [jn_b hG hM.1 p4, gd_nI (show e i / 2 < 61 by omega) (by decide), jn_if2, nI_clamp (n := e i / 2) (by omega), (hM.1.2.2.2.1 _ p4).2]
    rcases p6 with ⟨e1, e2, e3, e4⟩ | ⟨e1, e2, e3, e4⟩
    · rw [e2, if_pos rfl, jn_rm, if_neg (by decide), x1_rmore (by omega) (hM.2.1 _ p4) hb ⟨q1, q2⟩, bnd_s, ← e4, if_neg (by decide), gd_nI (show e i / 2 < 61 by omega) (by decide), (hM.1.2.2.2.1 _ p4).1, e3, show nI i + 1 = nI (i + 1) from nIadd i 1]
      refine K _ _ _ ⟨rfl, rfl, _, ?_, hA'⟩
      by_cases e5 : nR (wC G bl) c (e i) < m
      · rw [if_pos e5, if_pos (by rw [zI_lt (by omega) (by omega) (by omega) (by omega)]; exact e5)]
      · rw [if_neg e5, if_neg (by rw [zI_lt (by omega) (by omega) (by omega) (by omega)]; exact e5)]
    · rw [if_neg (by rw [nI_inj (by have := (g5 _ p4).2; omega) (by omega)]; exact e2), jn_rm, if_pos rfl, x1_rless (by omega) (hM.2.1 _ p4) hb ⟨q1, q2⟩, bnd_s, ← e4, if_pos rfl, gd_nI (show e i / 2 < 61 by omega) (by decide), (hM.1.2.2.2.1 _ p4).2, e3, show nI i + 1 = nI (i + 1) from nIadd i 1]
      refine K _ _ _ ⟨rfl, rfl, _, ?_, hA'⟩
      by_cases e5 : nR (wC G bl) c (e i) < m
      · rw [if_pos e5, if_pos (by rw [zI_lt (by omega) (by omega) (by omega) (by omega)]; exact e5)]
      · rw [if_neg e5, if_neg (by rw [zI_lt (by omega) (by omega) (by omega) (by omega)]; exact e5)]
  · rintro f x y H1 ⟨rfl, rfl, m, rfl, hA⟩
    have hPn := (hP.1 n (Nat.le_refl _)).1
    have hPn : P n < qB G + 1 := hPn
    rw [L_X1_carryTo_15, hM.1.1, if_neg (by rw [nI_lt_iff (by omega) (by omega)]; omega), gd_nI (show P n < 21 by omega) (by decide), nI_clamp (n := P n) (by omega), (hF _ (by omega)).2, hP.2.2.1, if_pos (show byI none = -1 from rfl)]
    exact hk m hA
def FB' (G : Gr) (bY : Nat → Option Nat) (H : Hp) : Prop := ∀ v, v ≤ qB G → gI H 1 10 v = byI (bY v)
theorem x1_c186 {r : Nat} {G : Gr} {bl : Nat → Nat} {c X X' p q far : FZ} {bY : Nat → Option Nat} {rk P e : Nat → Nat} {n : Nat} {H : Hp} {m : Int} (hr : Rd G bl c X p) (hM : MdL r G bl c X' H) (hF : FB' G bY H) (hP : PF (aC G bl c) 1000000000 X far bY rk P e n) (hn : n < qB G + 1) (hs : X (P 0) < 0) (hq : RC (wC G bl) c q) (hqf : ∀ i, i ≤ n → q (P i) = far (P i)) (hA : ∀ j, j < n → m ≤ nR (wC G bl) c (e j)) (hm : 0 < m ∧ m < 1000000000) : ok (L_X1_carryTo_186 r (zI m) (fun H50 => some ((), H50)) FU (nI (P 0)) 0 H) (fun _ H' => ∃ ci, MdL r G bl ci X' H' ∧ Pu (wC G bl) (fun _ => 0) q c P e m n ci ∧ Pt (wC G bl) q c e m n ci) := by
  have hG := hr.1
  obtain ⟨g1, g2, g3, g4, g5⟩ := GG_n hG
  refine ok_g2 n (fun i y H' => y = nI (P i) ∧ FB' G bY H' ∧ ∃ ci, MdL r G bl ci X' H' ∧ Pu (wC G bl) (fun _ => 0) q c P e m i ci ∧ Pt (wC G bl) q c e m i ci) ?_ ?_ rfl ⟨rfl, hF, c, hM, Pu_0 hq hm.1, Pt_0⟩ (FUgt (by omega))
  · rintro i f y H1 hi ⟨rfl, hF1, ci, hM1, hu, ht⟩ K
    obtain ⟨p1, p2, p3, p4, p5, p6⟩ := x1_arc hG hP hi
    have hu' := Pu_st xw_NL hu hP hi hm.1 (hA i hi) hqf
    have ht' := Pt_st xw_NS hu ht hP hi hm.1 hm.2 (hA i hi) hqf
    have eb : gI H1 1 10 (P i) = nI (e i / 2) := by rw [hF1 _ (by omega), p3]; rfl
    rw [L_X1_carryTo_186, hM1.1.1, if_neg (by rw [nI_lt_iff (by omega) (by omega)]; omega)]
    simp only [gd_nI (show P i < 21 by omega) (show 21 < 2 ^ 31 by decide), nI_clamp (show P i < 2 ^ 31 by omega), eb]
    rw [if_neg (by rw [show (-1 : Int32) = N1 from rfl, n_eqN (by omega)]; exact fun q => q)]
    simp only [vl]
    rw [gd_nI (show e i / 2 < 61 by omega) (by decide), jn_if2, nI_clamp (n := e i / 2) (by omega), (hM1.1.2.2.2.1 _ p4).2]
    have fin : ∀ z : Int, zI (ci (e i / 2)) + zI z = zI (psh ci (e i) m (e i / 2)) → FB' G bY (sI H1 1 7 (e i / 2) (zI (ci (e i / 2)) + zI z)) ∧ MdL r G bl (psh ci (e i) m) X' (sI H1 1 7 (e i / 2) (zI (ci (e i / 2)) + zI z)) := by
      intro z hz
      refine ⟨fun v hv => by rw [gI_ne (by omega)]; exact hF1 v hv, MdS_s hM1.1 _ _ _, fun l hl => ?_, fun v hv => by rw [gI_ne (by omega)]; exact hM1.2.2 v hv⟩
      by_cases e1 : l = e i / 2
      · rw [e1, gI_eq, hz]
      · rw [gI_ne (by omega), hM1.2.1 l hl]; unfold psh; rw [upZ_n e1]
    rcases p6 with ⟨e1, e2, e3, e4⟩ | ⟨e1, e2, e3, e4⟩
    · rw [e2, if_pos rfl, gd_nI (show e i / 2 < 61 by omega) (by decide), jn_if2, if_neg (by decide), gd_nI (show e i / 2 < 61 by omega) (by decide), hl_e, if_neg (by decide), gd_nI (show e i / 2 < 61 by omega) (by decide), hM1.2.1 _ p4]
      obtain ⟨z1, z2⟩ := fin m (by unfold psh; rw [upZ_e, if_pos e1, zI_add])
      rw [(z2.1.2.2.2.1 _ p4).1, e3, show nI i + 1 = nI (i + 1) from nIadd i 1]
      exact K _ _ ⟨rfl, z1, _, z2, hu', ht'⟩
    · rw [if_neg (by rw [nI_inj (by have := (g5 _ p4).2; omega) (by omega)]; exact e2), gd_nI (show e i / 2 < 61 by omega) (by decide), jn_if2, if_pos rfl, gd_nI (show e i / 2 < 61 by omega) (by decide), hl_e, if_pos rfl, gd_nI (show e i / 2 < 61 by omega) (by decide), hM1.2.1 _ p4, zI_neg]
      obtain ⟨z1, z2⟩ := fin (-m) (by unfold psh; rw [upZ_e, if_neg e1, zI_add]; rfl)
      rw [(z2.1.2.2.2.1 _ p4).2, e3, show nI i + 1 = nI (i + 1) from nIadd i 1]
      exact K _ _ ⟨rfl, z1, _, z2, hu', ht'⟩
  · rintro f y H1 ⟨rfl, hF1, ci, hM1, hu, ht⟩
    have hPn : P n < qB G + 1 := (hP.1 n (Nat.le_refl _)).1
    rw [L_X1_carryTo_186, hM1.1.1, if_neg (by rw [nI_lt_iff (by omega) (by omega)]; omega), gd_nI (show P n < 21 by omega) (by decide), nI_clamp (n := P n) (by omega), hF1 _ (by omega), hP.2.2.1, if_pos (show byI none = -1 from rfl)]
    exact ok_s ⟨ci, hM1, hu, ht⟩
theorem x1_carry {r : Nat} {G : Gr} {bl : Nat → Nat} {c X p q far : FZ} {bY : Nat → Option Nat} {rk P e : Nat → Nat} {n : Nat} {H : Hp} (hr : Rd G bl c X p) (hM : MdL r G bl c X H) (hF : FB G far bY H) (hP : PF (aC G bl c) 1000000000 X far bY rk P e n) (hn : n < qB G + 1) (hs : X (P 0) < 0) (hX9 : -1000000000 < X (P 0)) (hq : RC (wC G bl) c q) (hqf : ∀ i, i ≤ n → q (P i) = far (P i)) : ok (f_X1_carryTo r (nI (P 0)) H) (fun _ H' => ∃ ci m, 0 < m ∧ m ≤ -X (P 0) ∧ m ≤ X (P n) ∧ P 0 ≠ P n ∧ P n < qB G + 1 ∧ MdL r G bl ci (xP X (P 0) (P n) m) H' ∧ Pu (wC G bl) (fun _ => 0) q c P e m n ci ∧ Ms (wC G bl) q ci (xP X (P 0) (P n) m) < Ms (wC G bl) q c X) := by
  have hG := hr.1
  obtain ⟨g1, g2, g3, g4, g5⟩ := GG_n hG
  have hP0 : P 0 < qB G + 1 := (hP.1 0 (by omega)).1
  have hPn : P n < qB G + 1 := (hP.1 n (Nat.le_refl _)).1
  have hx0 := hr.2.2.2.2 (P 0) hP0
  have hxn := hr.2.2.2.2 (P n) hPn
  have hn0 := hP.2.2.2.1
  have hne : P 0 ≠ P n := by intro q; rw [q] at hs; omega
  unfold f_X1_carryTo
  rw [gd_nI (show P 0 < 21 by omega) (by decide), nI_clamp (n := P 0) (by omega), hM.2.2 _ (by omega), zI_neg, vl_e]
  refine x1_c15 hr hM hF hP hn hs (fun m0 hA => ?_)
  rw [gd_nI (show P n < 21 by omega) (by decide), vl_e, gd_nI (show P n < 21 by omega) (by decide), gd_nI (show P n < 21 by omega) (by decide), nI_clamp (n := P n) (by omega), hM.2.2 (P n) (by omega)]
  obtain ⟨a1, a2, a3, a4⟩ := hA
  have em : (if zI (X (P n)) < zI m0 then zI (X (P n)) else zI m0) = zI (if X (P n) < m0 then X (P n) else m0) := by
    by_cases e5 : X (P n) < m0
    · rw [if_pos e5, if_pos (by rw [zI_lt (by omega) (by omega) (by omega) (by omega)]; exact e5)]
    · rw [if_neg e5, if_neg (by rw [zI_lt (by omega) (by omega) (by omega) (by omega)]; exact e5)]
  rw [em]
  have key : ∃ m, (if X (P n) < m0 then X (P n) else m0) = m ∧ 0 < m ∧ m ≤ -X (P 0) ∧ m ≤ X (P n) ∧ (∀ j, j < n → m ≤ nR (wC G bl) c (e j)) ∧ (m = -X (P 0) ∨ m = X (P n) ∨ ∃ j, j < n ∧ m = nR (wC G bl) c (e j)) := by
    by_cases e5 : X (P n) < m0
    · exact ⟨_, if_pos e5, by omega, by omega, by omega, fun j hj => by have := a3 j hj; omega, .inr (.inl rfl)⟩
    · refine ⟨_, if_neg e5, by omega, by omega, by omega, a3, ?_⟩
      rcases a4 with a4 | a4
      · exact .inl a4
      · exact .inr (.inr a4)
  obtain ⟨m, e5, m1, m2, m3, m4, m5⟩ := key
  rw [e5, hl_e, gd_nI (show P 0 < 21 by omega) (by decide), gd_nI (show P 0 < 21 by omega) (by decide), hl_e, gI_ne (show ¬ ((1 : Nat) = 1 ∧ (8 : Nat) = 8 ∧ P 0 = P n) from fun q => hne q.2.2), hM.2.2 _ (Nat.le_of_lt_succ hP0), zI_sub, zI_add]
  have hM2 : MdL r G bl c (xP X (P 0) (P n) m) (sI (sI H 1 8 (P n) (zI (X (P n) - m))) 1 8 (P 0) (zI (X (P 0) + m))) := by
    refine ⟨MdS_s (MdS_s hM.1 _ _ _) _ _ _, fun l hl => by rw [gI_ne (by omega), gI_ne (by omega)]; exact hM.2.1 l hl, fun v hv => ?_⟩
    unfold xP
    by_cases e1 : v = P 0
    · rw [e1, gI_eq, upZ_e]
    · rw [gI_ne (by omega), upZ_n e1]
      by_cases e2 : v = P n
      · rw [e2, gI_eq, upZ_e]
      · rw [gI_ne (by omega), upZ_n e2]; exact hM.2.2 v hv
  have hF2 : FB' G bY (sI (sI H 1 8 (P n) (zI (X (P n) - m))) 1 8 (P 0) (zI (X (P 0) + m))) := fun v hv => by rw [gI_ne (by omega), gI_ne (by omega)]; exact (hF v hv).2
  refine ok_m (x1_c186 hr hM2 hF2 hP hn hs hq hqf m4 ⟨m1, by omega⟩) ?_
  rintro _ H' ⟨ci, z1, z2, z3⟩
  refine ⟨ci, m, m1, m2, m3, hne, hPn, z1, z2, Ms_lt z3 (fun j hj => ?_) hP0 hPn hne m1 m2 m3 m5⟩
  obtain ⟨b1, b2, b3, b4, b5, b6, _⟩ := hP.2.1 j hj
  have b4 : nV (wC G bl) (e j) = P j := b4
  have b5 : nU (wC G bl) (e j) = P (j + 1) := b5
  have b6 : far (P (j + 1)) + nC (wC G bl) c (e j) = far (P j) := b6
  exact ⟨b2, decide_eq_true ⟨of_decide_eq_true b3, by rw [b4, b5, hqf j (by omega), hqf (j + 1) (by omega)]; omega⟩⟩
