/-- the rounds of the class -/
def zJ (z : Int) : Int64 := Int64.ofInt z
theorem zJ_add (a b : Int) : zJ a + zJ b = zJ (a + b) := (Int64.ofInt_add a b).symm
theorem zJ_I {z : Int} (h1 : -2147483648 ≤ z) (h2 : z < 2147483648) : Int32.toInt64 (zI z) = zJ z := by
  apply Int64.toInt_inj.mp
  rw [Int32.toInt_toInt64, zI_t h1 h2]
  exact (Int64.toInt_ofInt_of_le (by omega) (by omega)).symm
theorem smZ_bd {f : FZ} {M : Int} {n : Nat} (h : ∀ i, i < n → -M ≤ f i ∧ f i ≤ M) : -(M * (n : Int)) ≤ smZ f n ∧ smZ f n ≤ M * (n : Int) := by
  induction n with
  | zero => simp [smZ]
  | succ n ih =>
    have h1 := ih (fun i hi => h i (by omega))
    have h2 := h n (by omega)
    have e : M * ((n + 1 : Nat) : Int) = M * (n : Int) + M := by rw [Int.natCast_add, Int.mul_add]; simp
    rw [smZ_s]
    omega
theorem smZ_tl {f : FZ} {n m : Nat} (h : ∀ i, n ≤ i → f i = 0) (hm : n ≤ m) : smZ f m = smZ f n := by
  induction m with
  | zero => rw [show n = 0 by omega]
  | succ m ih =>
    by_cases e : n = m + 1
    · rw [e]
    · rw [smZ_s, ih (by omega), h m (by omega)]; omega
def RdI (G : Gr) (bl : Nat → Nat) (c X p : FZ) (D : Int) : Prop := Rd G bl c X p ∧ (∀ v, v < qB G + 1 → X v = nt (wC G bl) (fun _ => 0) c v (lk G)) ∧ (∀ v, v < qB G + 1 → X v < 0 → D ≤ p v) ∧ (0 ≤ D ∧ D ≤ 1300) ∧ (∀ l, l < lk G → c l + ps X (qB G + 1) ≤ 2000000000) ∧ ∀ v, v < qB G + 1 → -100000000 ≤ X v ∧ X v ≤ 100000000
noncomputable def msr (G : Gr) (bl : Nat → Nat) (c X p : FZ) (D : Int) : Nat := (1300 - D).toNat * 200 + Ms (wC G bl) p c X
theorem RdI_0 {G : Gr} {bl : Nat → Nat} (hG : GG G bl) : RdI G bl (c00 G bl) (fun v => nt (wC G bl) (fun _ => 0) (c00 G bl) v (lk G)) (fun _ => 0) 0 := by
  obtain ⟨g1, g2, g3, g4, g5⟩ := GG_n hG
  have hc : ∀ l, 0 ≤ c00 G bl l ∧ c00 G bl l ≤ 1000000 ∧ (bz G bl l = -1 ∨ bz G bl l = c00 G bl l) := by
    intro l
    have := hG.2.2 l
    unfold c00 bz
    split <;> omega
  have hX : ∀ v, -100000000 ≤ nt (wC G bl) (fun _ => 0) (c00 G bl) v (lk G) ∧ nt (wC G bl) (fun _ => 0) (c00 G bl) v (lk G) ≤ 61000000 := by
    intro v
    have := smZ_bd (f := fun l => ((fun _ => 0) l + c00 G bl l) * (i1 (nT (wC G bl) l) v - i1 (nF (wC G bl) l) v)) (M := 1000000) (n := lk G) (fun i hi => by
      have := hc i
      have e : ((fun _ => 0) i + c00 G bl i) = c00 G bl i := Int.zero_add _
      rw [e]
      unfold i1
      split <;> split <;> omega)
    have e : nt (wC G bl) (fun _ => 0) (c00 G bl) v (lk G) = smZ (fun l => ((fun _ => 0) l + c00 G bl l) * (i1 (nT (wC G bl) l) v - i1 (nF (wC G bl) l) v)) (lk G) := rfl
    rw [e]
    omega
  refine ⟨⟨hG, RC_l.mpr (fun l hl => ?_), fun v hv => ⟨Int.le_refl _, fun _ => Int.le_refl _⟩, fun l hl => by have := hc l; omega, fun v hv => by have := hX v; (try dsimp only); omega⟩, fun v hv => rfl, fun v hv _ => Int.le_refl _, by omega, fun l hl => ?_, fun v hv => by have := hX v; (try dsimp only); omega⟩
  · have h1 := hc l
    have h2 := bz_rg hG l
    refine ⟨⟨h1.1, h2.1⟩, fun _ => ?_, fun _ => ?_⟩
    · show 0 - 0 ≤ xmo (bz G bl l) (c00 G bl l)
      unfold xmo
      split <;> (try split) <;> omega
    · show -(0 - 0) ≤ xle (bz G bl l) (c00 G bl l)
      unfold xle
      split <;> (try split) <;> omega
  · have h1 := hc l
    have h2 := smZ_bd (f := fun v => if 0 < nt (wC G bl) (fun _ => 0) (c00 G bl) v (lk G) then nt (wC G bl) (fun _ => 0) (c00 G bl) v (lk G) else 0) (M := 61000000) (n := qB G + 1) (fun i hi => by
      have := hX i
      split <;> omega)
    have e : ps (fun v => nt (wC G bl) (fun _ => 0) (c00 G bl) v (lk G)) (qB G + 1) = smZ (fun v => if 0 < nt (wC G bl) (fun _ => 0) (c00 G bl) v (lk G) then nt (wC G bl) (fun _ => 0) (c00 G bl) v (lk G) else 0) (qB G + 1) := rfl
    rw [e]
    omega
/-- one round more -/
theorem RdI_st {G : Gr} {bl : Nat → Nat} {c X p q ci : FZ} {D D' m : Int} {P e : Nat → Nat} {n : Nat} (h : RdI G bl c X p D) (hp0 : P 0 < qB G + 1) (hpn : P n < qB G + 1) (hne : P 0 ≠ P n) (hm : 0 < m) (hm1 : m ≤ -X (P 0)) (hm2 : m ≤ X (P n)) (hq : ∀ v, v < qB G + 1 → 0 ≤ q v ∧ (0 < X v → q v ≤ 0) ∧ (X v < 0 → D' ≤ q v)) (hD : 0 ≤ D' ∧ D' ≤ 1300) (hu : Pu (wC G bl) (fun _ => 0) q c P e m n ci) : RdI G bl ci (xP X (P 0) (P n) m) q D' := by
  obtain ⟨⟨hG, hc, hp, hcr, hXr⟩, h2, h3, h4, h5, h6⟩ := h
  have xv : ∀ v, (0 < xP X (P 0) (P n) m v → 0 < X v ∧ xP X (P 0) (P n) m v ≤ X v) ∧ (xP X (P 0) (P n) m v < 0 → X v < 0 ∧ X v ≤ xP X (P 0) (P n) m v) := by
    intro v
    unfold xP
    by_cases e1 : v = P 0
    · subst e1; rw [upZ_e]; omega
    · rw [upZ_n e1]
      by_cases e2 : v = P n
      · subst e2; rw [upZ_e]; omega
      · rw [upZ_n e2]; omega
  have hps := ps_xP (X := X) (n := qB G + 1) hpn hne hm hm1 hm2
  have hp0' := ps_0 (xP X (P 0) (P n) m) (qB G + 1)
  have hcb : ∀ l, l < lk G → 0 ≤ ci l ∧ ci l ≤ c l + m := fun l hl => by
    have a1 : 0 ≤ ci l ∧ -1 ≤ bz G bl l := hu.1.2 l hl
    have a2 := hu.2.2.1 l hl
    omega
  refine ⟨⟨hG, hu.1, fun v hv => ?_, fun l hl => ?_, fun v hv => ?_⟩, fun v hv => ?_, fun v hv hx => ?_, hD, fun l hl => ?_, fun v hv => ?_⟩
  · have a1 := hq v hv
    have a2 := xv v
    exact ⟨a1.1, fun hx => a1.2.1 (a2.1 hx).1⟩
  · have a1 := hcb l hl
    have a2 := h5 l hl
    omega
  · have a1 := h6 v hv
    have a2 := xv v
    have : 0 < xP X (P 0) (P n) m v ∨ xP X (P 0) (P n) m v < 0 ∨ xP X (P 0) (P n) m v = 0 := by omega
    omega
  · have a1 := hu.2.2.2 v
    have a1 : nt (wC G bl) (fun _ => 0) ci v (lk G) = nt (wC G bl) (fun _ => 0) c v (lk G) + m * (i1 (P 0) v - i1 (P n) v) := a1
    rw [xP_v hne, a1, ← h2 v hv]
  · exact (hq v hv).2.2 ((xv v).2 hx).1
  · have a1 := hcb l hl
    have a2 := h5 l hl
    omega
  · have a1 := h6 v hv
    have a2 := xv v
    have : 0 < xP X (P 0) (P n) m v ∨ xP X (P 0) (P n) m v < 0 ∨ xP X (P 0) (P n) m v = 0 := by omega
    omega
theorem x1_lc8 {r : Nat} {G : Gr} {bl : Nat → Nat} {H : Hp} {k : Hp → Option (Int64 × Hp)} {Q : Int64 → Hp → Prop} {c X p : FZ} {D : Int} (h0 : RdI G bl c X p D) (hM0 : MdL r G bl c X H) (hk : ∀ c X p H', MdL r G bl c X H' → RC (wC G bl) c p → (∀ v, v < qB G + 1 → nt (wC G bl) (fun _ => 0) c v (lk G) = 0) → (∀ l, l < lk G → 0 ≤ c l ∧ c l ≤ 2000000000) → ok (k H') Q) : ok (L_X1_leastChange_8 r k FU 0 H) Q := by
  obtain ⟨g1, g2, g3, g4, g5⟩ := GG_n h0.1.1
  have mb : ∀ c X p D, RdI G bl c X p D → msr G bl c X p D ≤ (1300 - D).toNat * 200 + 143 := by
    intro c X p D _
    have := Ms_le (wC G bl) p c X
    have e1 : nm (wC G bl) = lk G := rfl
    have e2 : nN (wC G bl) = qB G + 1 := rfl
    unfold msr
    omega
  refine ok_w1 (fun d x H' => ∃ i c X p D, x = nI i ∧ i + d < 1000000 ∧ MdL r G bl c X H' ∧ RdI G bl c X p D ∧ d = msr G bl c X p D) ?_ (d := msr G bl c X p D) ⟨0, c, X, p, D, rfl, ?_, hM0, h0, rfl⟩ ?_
  · rintro d f x H1 ⟨i, c, X, p, D, rfl, hid, hM, hI, rfl⟩ K
    have hG := hI.1.1
    rw [L_X1_leastChange_8, show (1000000 : Int32) = nI 1000000 from rfl, if_neg (by rw [nI_le_iff (by omega) (by omega)]; omega)]
    refine ok_b (x1_measure hI.1 hM) ?_
    rintro _ H2 ⟨far, bY, rk, hM2, hF2, ho⟩
    refine ok_b (x1_lack hI.1 hM2 hF2 ho) ?_
    rintro x H3 ⟨rfl, hL⟩
    rcases hL with ⟨rfl, hno⟩ | ⟨s, hs, rfl, hs1, hs2, hs3⟩
    · rw [if_pos (show N1 = -1 from rfl)]
      have hz : ∀ v, v < qB G + 1 → X v = 0 := by
        refine cut0 (Fr := 1000000000) (far := far) (wC_F hG) (fun v hv => hI.2.1 v hv) (fun l hl => ?_) ho.1 (fun j hj hu => ?_) (fun v hv hf => ?_) (fun v hv hf => ?_)
        · have hcl := (hI.1.2.2.2.1 l hl).1
          have hb := bz_rg hG l
          refine ⟨fun h => ?_, fun h => ?_⟩
          · have h : xrl (bz G bl l) (c l) ≤ 0 := h
            have : c l = 0 := by
              unfold xrl at h
              revert h
              split <;> (try split) <;> omega
            omega
          · have : (0 : Int) + c l = c l := Int.zero_add _
            omega
        · have wA : zAW (aC G bl c) 65 := zAW_n (wC_F hG) hI.1.2.1.2
          obtain ⟨w1, _, w3⟩ := wA j hj
          have w3 : nC (wC G bl) c j ≤ 65 := w3
          rcases (ho.2 _ w1).2 with q | ⟨_, q2, _⟩
          · exact absurd q.1 hu
          · have q2 : far (nU (wC G bl) j) + 65 < 1000000000 := q2
            omega
        · have := hno v hv
          by_cases e : X v < 0
          · exact absurd ⟨e, hf⟩ this
          · omega
        · rcases (ho.2 v hv).2 with q | ⟨q1, _⟩
          · exact q.2.2
          · exact absurd hf q1
      refine hk c X p H3 hM2 hI.1.2.1 (fun v hv => ?_) hI.1.2.2.2.1
      rw [← hI.2.1 v hv]; exact hz v hv
    · rw [if_neg (by rw [show (-1 : Int32) = N1 from rfl, n_eqN (by omega)]; exact fun q => q)]
      obtain ⟨q, P, e, n, t1, t2, t3, t4, t5, t6, t7, t8, t9⟩ := round_q (D := D) (wC_F hG) (by omega) (by omega) hI.1.2.1 (fun v hv => ⟨(hI.1.2.2.1 v hv).1, (hI.1.2.2.1 v hv).2, hI.2.2.1 v hv⟩) ho hs hs1 hs2 hs3
      have t1 : n < qB G + 1 := t1
      subst t2
      have hx9 := (hI.2.2.2.2.2 (P 0) hs).1
      refine ok_b (x1_carry hI.1 hM2 hF2 t3 t1 hs1 (by omega) t4 t5) ?_
      rintro _ H4 ⟨ci, m, m1, m2, m3, m4, m5, m6, m7, m8⟩
      rw [vl_e, show nI i + 1 = nI (i + 1) from nIadd i 1]
      have hD0 := hI.2.2.2.1
      have hI' := RdI_st (D' := far (P 0)) hI hs m5 m4 m1 m2 m3 t6 (by omega) m7
      have hb := mb _ _ _ _ hI'
      have hms : msr G bl ci (xP X (P 0) (P n) m) q (far (P 0)) < msr G bl c X p D := by
        by_cases e1 : far (P 0) = D
        · have e2 := t7 e1
          rw [e2] at m8 ⊢
          rw [e1]
          unfold msr
          omega
        · have h1 : (1300 - far (P 0)).toNat + 1 ≤ (1300 - D).toNat := by omega
          have h2 : (1300 - D).toNat * 200 ≤ msr G bl c X p D := by unfold msr; omega
          omega
      exact K _ _ _ hms ⟨i + 1, ci, _, q, far (P 0), rfl, by omega, m6, hI', rfl⟩
  · have := mb _ _ _ _ h0
    have := h0.2.2.2.1
    omega
  · have := mb _ _ _ _ h0
    have := h0.2.2.2.1
    exact FUgt (by omega)
theorem x1_lc55 {r : Nat} {G : Gr} {bl : Nat → Nat} {H : Hp} {c X : FZ} (hG : GG G bl) (hM : MdL r G bl c X H) (hc : ∀ l, l < lk G → 0 ≤ c l ∧ c l ≤ 2000000000) : ok (L_X1_leastChange_55 r (fun z16 H17 => some (z16, H17)) FU 0 0 H) (fun x H' => H' = H ∧ x = zJ (smZ (fun l => xph (bz G bl l) (c l)) (lk G))) := by
  obtain ⟨g1, g2, g3, g4, g5⟩ := GG_n hG
  refine ok_g2 (qE G) (fun i x H' => H' = H ∧ x = zJ (smZ (fun l => xph (bz G bl l) (c l)) i)) ?_ ?_ rfl ⟨rfl, rfl⟩ (FUgt (by omega))
  · rintro i n x H1 hi ⟨rfl, rfl⟩ K
    have hc1 := hc i (by omega)
    have hb1 := hG.2.2 i
    have eb : bz G bl i = (bl i : Int) := if_pos hi
    rw [L_X1_leastChange_55, hM.1.2.1, if_neg (by rw [nI_le_iff (by omega) (by omega)]; omega), gd_nI (show i < 61 by omega) (by decide), gd_nI (show i < 40 by omega) (by decide), nI_clamp (n := i) (by omega), hM.2.1 i (by omega), hM.1.2.2.2.2 i (by omega), zI_n (bl i), zI_sub, z0, vl_e, vl_e, show nI i + 1 = nI (i + 1) from nIadd i 1]
    refine K _ _ ⟨rfl, ?_⟩
    have es : smZ (fun l => xph (bz G bl l) (c l)) (i + 1) = smZ (fun l => xph (bz G bl l) (c l)) i + xph (bl i : Int) (c i) := by rw [smZ_s, eb]
    have ex : xph (bl i : Int) (c i) = if c i < (bl i : Int) then (bl i : Int) - c i else c i - (bl i : Int) := by unfold xph; rw [if_neg (by omega)]
    rw [es, ex]
    by_cases e : c i < (bl i : Int)
    · rw [if_neg (by rw [zI_le (by omega) (by omega) (by omega) (by omega)]; omega), if_pos e, zI_sub, zJ_I (by omega) (by omega), zJ_add]
      congr 1; omega
    · rw [if_pos (by rw [zI_le (by omega) (by omega) (by omega) (by omega)]; omega), if_neg e, zJ_I (by omega) (by omega), zJ_add]
  · rintro n x H1 ⟨rfl, rfl⟩
    rw [L_X1_leastChange_55, hM.1.2.1, if_pos (by rw [nI_le_iff (by omega) (by omega)]; omega)]
    refine ok_s ⟨rfl, ?_⟩
    have ez : ∀ i, qE G ≤ i → xph (bz G bl i) (c i) = 0 := by
      intro i hi
      have eb : bz G bl i = -1 := if_neg (by omega)
      rw [eb]; rfl
    rw [smZ_tl (n := qE G) (m := lk G) ez (by omega)]
theorem x1_least {r : Nat} {G : Gr} {bl : Nat → Nat} {H : Hp} (hG : GG G bl) (h : MdS r G bl H) : ok (f_X1_leastChange r H) (fun x _ => ∃ c p, x = zJ (smZ (fun l => xph (bz G bl l) (c l)) (lk G)) ∧ RC (wC G bl) c p ∧ (∀ v, v < qB G + 1 → nt (wC G bl) (fun _ => 0) c v (lk G) = 0) ∧ ∀ l, l < lk G → 0 ≤ c l ∧ c l ≤ 2000000000) := by
  unfold f_X1_leastChange
  refine ok_b (x1_take hG h) ?_
  rintro _ H1 ⟨h1, h2⟩
  refine x1_lc8 (RdI_0 hG) ⟨h1, h2⟩ (fun c X p H2 a1 a2 a3 a4 => ?_)
  refine ok_m (x1_lc55 hG a1 a4) ?_
  rintro x H3 ⟨rfl, rfl⟩
  exact ⟨c, p, rfl, a2, a3, a4⟩
