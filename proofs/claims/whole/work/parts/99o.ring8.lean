/-- ring: which side of a tree link a node lies on -/
theorem ring_rec {par : Nat → Nat} (k0 : Nat) : ∀ n, (∀ k, 0 < k → k < n → par k < k) → ∃ Z : Nat → Bool, ∀ k, k < n → Z k = if k = k0 then true else if k = 0 then false else Z (par k) := by
  intro n
  induction n with
  | zero => exact fun _ => ⟨fun _ => false, fun k hk => absurd hk (Nat.not_lt_zero _)⟩
  | succ n ih =>
    intro hp
    obtain ⟨Z, hZ⟩ := ih (fun k h1 h2 => hp k h1 (by omega))
    refine ⟨upB Z n (if n = k0 then true else if n = 0 then false else Z (par n)), fun k hk => ?_⟩
    by_cases q : k = n
    · subst q
      show (if k = k then _ else Z k) = if k = k0 then true else if k = 0 then false else (if par k = k then _ else Z (par k))
      rw [if_pos rfl]
      by_cases q0 : k = 0
      · rw [if_pos q0, if_pos q0]
      · rw [if_neg q0, if_neg q0, if_neg (show ¬ par k = k by have := hp k (by omega) (by omega); omega)]
    · show (if k = n then _ else Z k) = if k = k0 then true else if k = 0 then false else (if par k = n then _ else Z (par k))
      rw [if_neg q, hZ k (by omega)]
      by_cases q0 : k = 0
      · rw [if_pos q0, if_pos q0]
      · rw [if_neg q0, if_neg q0, if_neg (show ¬ par k = n by have := hp k (by omega) (by omega); omega)]
theorem ring_Z {G : Gr} (w : WG G) (h0 : 0 < qB G) (hk : qK G 0 ≠ 3) {ln uL : Nat → Nat} (h : EL G ln uL) {k0 : Nat} (hk0 : 0 < k0) (hk1 : k0 < qB G + 1) : ∃ (par : Nat → Nat) (Z : Nat → Bool), (∀ k, 0 < k → k < qB G + 1 → par k < k ∧ ends2 G (uL (ln k)) (ln k) (ln (par k))) ∧ (∀ k, k < qB G + 1 → Z (ln k) = if k = k0 then true else if k = 0 then false else Z (ln (par k))) ∧ (∀ j, tT G j → j ≠ uL (ln k0) → Z (lF G j) = Z (lT G j)) ∧ Z (ln (par k0)) = false := by
  obtain ⟨h1, h2, h3, h4, h5⟩ := id h
  have hpar : ∃ par : Nat → Nat, ∀ k, 0 < k → k < qB G + 1 → par k < k ∧ ends2 G (uL (ln k)) (ln k) (ln (par k)) := by
    refine ⟨fun k => @dite _ (0 < k ∧ k < qB G + 1) (Classical.propDecidable _) (fun z => Classical.choose (h5 k z.1 z.2).2) (fun _ => 0), fun k y1 y2 => ?_⟩
    dsimp only
    rw [dif_pos ⟨y1, y2⟩]
    exact Classical.choose_spec (h5 k y1 y2).2
  obtain ⟨par, hp⟩ := hpar
  obtain ⟨Zp, hZp⟩ := ring_rec (par := par) k0 (qB G + 1) (fun k y1 y2 => (hp k y1 y2).1)
  have hZ : ∃ Z : Nat → Bool, ∀ k, k < qB G + 1 → Z (ln k) = Zp k := by
    refine ⟨fun u => @decide (∃ k, k < qB G + 1 ∧ ln k = u ∧ Zp k = true) (Classical.propDecidable _), fun k hkk => ?_⟩
    cases hz : Zp k with
    | true => exact @decide_eq_true _ (Classical.propDecidable _) ⟨k, hkk, rfl, hz⟩
    | false =>
      refine @decide_eq_false _ (Classical.propDecidable _) ?_
      rintro ⟨k', y1, y2, y3⟩
      rw [h3 _ _ y1 hkk y2, hz] at y3
      cases y3
  obtain ⟨Z, hZ⟩ := hZ
  have hrec : ∀ k, k < qB G + 1 → Z (ln k) = if k = k0 then true else if k = 0 then false else Z (ln (par k)) := fun k hkk => by
    rw [hZ k hkk, hZp k hkk]
    by_cases q : k = 0
    · rw [if_pos q, if_pos q]
    · have := (hp k (by omega) hkk).1
      rw [hZ (par k) (by omega)]
  have hlow : ∀ k, k < k0 → Z (ln k) = false := by
    intro k
    induction k using Nat.strongRecOn with
    | ind k ih =>
      intro hkk
      rw [hrec k (by omega), if_neg (by omega)]
      by_cases q : k = 0
      · rw [if_pos q]
      · rw [if_neg q]
        have := (hp k (by omega) (by omega)).1
        exact ih _ this (by omega)
  refine ⟨par, Z, hp, hrec, fun j hj hne => ?_, hlow _ (hp k0 hk0 hk1).1⟩
  obtain ⟨k, y1, y2, y3⟩ := up_all w h0 hk h (fun l => ⟨lF_nod w l, lT_nod w h0 l⟩) hj
  have hkn : k ≠ k0 := fun z => hne (by rw [← y3, z])
  have hz := hrec k y2
  rw [if_neg hkn, if_neg (by omega)] at hz
  have he := (hp k y1 y2).2
  rw [y3] at he
  rcases he with ⟨x1, x2⟩ | ⟨x1, x2⟩
  · rw [x1, x2]; exact hz
  · rw [x1, x2]; exact hz.symm
theorem x5_below_5 {r k0 : Nat} {G : Gr} {ln uL par : Nat → Nat} {Z : Nat → Bool} {kk : Hp → Option (Int32 × Hp)} {H : Hp} (w : WG G) (h0 : 0 < qB G) (hL : CL r G H) (hb : gI H (r + 2) 1 10 = nI (qB G)) (h : EL G ln uL) (hU : CUp r G ln uL H) (hk1 : k0 < qB G + 1) (hp : ∀ k, 0 < k → k < qB G + 1 → par k < k ∧ ends2 G (uL (ln k)) (ln k) (ln (par k))) (hZ : ∀ k, k < qB G + 1 → Z (ln k) = if k = k0 then true else if k = 0 then false else Z (ln (par k))) : ∀ k i n, k < qB G + 1 → i + k ≤ qB G → k < n → L_X5_isBelow_5 r (nI (nd G (ln k0))) kk n (nI (nd G (ln k))) (nI i) H = some (bI (Z (ln k)), H) := by
  have hB := w.1
  have hE := w.2.1
  have hlk := lk_le w
  intro k
  induction k using Nat.strongRecOn with
  | ind k ih =>
    intro i n hkk hik hn
    obtain ⟨n, rfl⟩ : ∃ m, n = m + 1 := ⟨n - 1, by omega⟩
    have nk := h.2.1 k hkk
    have mk := nd_le w nk
    have mk0 := nd_le w (h.2.1 k0 hk1)
    rw [L_X5_isBelow_5, hb, if_neg (by rw [nI_lt_iff (by omega) (by omega)]; omega), hZ k hkk]
    by_cases q : k = k0
    · rw [if_pos (by rw [q]), if_pos q]; rfl
    · rw [if_neg (by rw [nI_inj (by omega) (by omega), nd_inj w nk (h.2.1 k0 hk1)]; exact fun z => q (h.2.2.1 _ _ hkk hk1 z)), if_neg q, gd_nI (by omega) (by decide), nI_clamp (n := nd G (ln k)) (by omega)]
      by_cases q0 : k = 0
      · have e29 : gI H (r + 2) 29 (nd G (ln k)) = N1 := by
          rw [q0, h.1, show nd G 20 = qB G from if_pos rfl]; exact hU.2.2.2
        rw [e29, if_pos (show (N1 : Int32) = -1 from rfl), if_pos q0]; rfl
      · have e29 := hU.2.2.1 k (by omega) hkk
        obtain ⟨p1, p2⟩ := hp k (by omega) hkk
        have hl := (h.2.2.2.2 k (by omega) hkk).1.1
        have npk := h.2.1 (par k) (by omega)
        have mpk := nd_le w npk
        have hne : ln (par k) ≠ ln k := fun z => by have := h.2.2.1 _ _ (by omega) hkk z; omega
        rw [e29, if_neg (fun z => absurd (show nI (uL (ln k)) < 0 by rw [z]; decide) (nI_pos (by omega))), gd_nI (by omega) (by decide), x5_other hL w h0 hl mk, bnd_s, if_neg q0]
        have eo : (if nd G (lF G (uL (ln k))) = nd G (ln k) then nI (nd G (lT G (uL (ln k)))) else if nd G (lT G (uL (ln k))) = nd G (ln k) then nI (nd G (lF G (uL (ln k)))) else N1) = nI (nd G (ln (par k))) := by
          rcases p2 with ⟨x1, x2⟩ | ⟨x1, x2⟩
          · rw [x1, x2, if_pos rfl]
          · rw [x1, x2, if_neg (by rw [nd_inj w npk nk]; exact hne), if_pos rfl]
        rw [eo, if_neg (fun z => absurd (show nI (nd G (ln (par k))) < 0 by rw [z]; decide) (nI_pos (by omega)))]
        simp only [vl, l1, nIadd]
        exact ih (par k) p1 (i + 1) n (by omega) (by omega) (by omega)
def rgV (G : Gr) (Z : Nat → Bool) (c e : Nat) : Int32 := if Z (lT G c) = Z (lF G c) then 0 else if Z (lT G c) = Z (lF G e) then 1 else 2
theorem nd_lt31 {G : Gr} (w : WG G) {x : Nat} (h : nod G x) : nd G x < 2 ^ 31 := by
  have := nd_le w h
  have := w.1
  omega
theorem bI_inj {a b : Bool} : bI a = bI b ↔ a = b := by
  constructor
  · intro h
    cases a <;> cases b <;> first | rfl | exact absurd h (by decide)
  · intro h; rw [h]
/-- what parts the tree at link e -/
def Cut (G : Gr) (Z : Nat → Bool) (e : Nat) : Prop := (∀ j, tT G j → j ≠ e → Z (lF G j) = Z (lT G j)) ∧ Z (lF G e) ≠ Z (lT G e)
theorem x5_place {r c e : Nat} {G : Gr} {H : Hp} (w : WG G) (h0 : 0 < qB G) (hk : qK G 0 ≠ 3) (hb : gI H (r + 2) 1 10 = nI (qB G)) (hL : CL r G H) (hT : CT r G G H) (hc : c < qE G) (he : e < qE G) (hce : c ≠ e) (hte : tb G e = true) : ∃ Z, Cut G Z e ∧ f_X5_placeInRing r (nI c) (nI e) H = some (rgV G Z c e, H) := by
  have hB := w.1
  have hE := w.2.1
  have hlk := lk_le w
  have hlg := lk_gt G
  obtain ⟨t1, t2, t3, ln, uL, hEL, hU⟩ := hT
  obtain ⟨k0, k1, k2, k3⟩ := up_all w h0 hk hEL (fun l => ⟨lF_nod w l, lT_nod w h0 l⟩) (tT_iff.mpr ⟨show e < lk G by omega, hte⟩)
  obtain ⟨par, Z, hp, hZ, hs, hz0⟩ := ring_Z w h0 hk hEL k1 k2
  obtain ⟨p1, p2⟩ := hp k0 k1 k2
  rw [k3] at hs p2
  have hzk : Z (ln k0) = true := by rw [hZ k0 k2, if_pos rfl]
  have hbel : ∀ u, nod G u → f_X5_isBelow r (nI (nd G u)) (nI (nd G (ln k0))) H = some (bI (Z u), H) := by
    intro u hu
    obtain ⟨k, y1, y2⟩ := hEL.2.2.2.1 u hu
    rw [← y2]
    unfold f_X5_isBelow
    exact x5_below_5 w h0 hL hb hEL hU k2 hp hZ k 0 FU y1 (by omega) (FUgt (by omega))
  have nF := lF_nod w
  have nT := lT_nod w h0
  have mFe := nd_le w (nF e)
  have mTe := nd_le w (nT e)
  have mFc := nd_le w (nF c)
  have mTc := nd_le w (nT c)
  have hcF := hL.2.1 c (by omega)
  have hcT := hL.2.2 c (by omega)
  have heF := hL.2.1 e (by omega)
  have heT := hL.2.2 e (by omega)
  refine ⟨Z, ⟨hs, ?_⟩, ?_⟩
  · rcases p2 with ⟨x1, x2⟩ | ⟨x1, x2⟩
    · rw [x1, x2, hzk, hz0]; exact fun z => Bool.noConfusion z
    · rw [x1, x2, hzk, hz0]; exact fun z => Bool.noConfusion z
  · unfold f_X5_placeInRing rgV
    rw [if_neg (by rw [nI_inj (by omega) (by omega)]; exact hce), gd_nI (by omega) (by decide), nI_clamp (n := e) (by omega), t1 e (by omega), hte, if_neg (show ¬ bI true = 0 by decide), gd_nI (by omega) (by decide), heF, gd_nI (by omega) (by decide), nI_clamp (n := nd G (lF G e)) (by omega)]
    simp only [jn]
    have rest : ∀ y, y = nI (nd G (ln k0)) → (gd (nI c) 61 (bnd (f_X5_isBelow r (gI H (r + 2) 14 (Int32.toNatClampNeg (nI c))) y H) (fun w7 H6 => gd (nI c) 61 (bnd (f_X5_isBelow r (gI H6 (r + 2) 13 (Int32.toNatClampNeg (nI c))) y H6) (fun w9 H8 => if w7 = w9 then some ((0 : Int32), H8) else gd (nI e) 61 (if (gI H8 (r + 2) 13 (Int32.toNatClampNeg (nI e))) = y then if w7 = 1 then some (1, H8) else some (2, H8) else if w7 = 0 then some (1, H8) else some (2, H8)))))) = some (if Z (lT G c) = Z (lF G c) then (0 : Int32) else if Z (lT G c) = Z (lF G e) then 1 else 2, H)) := by
      rintro y rfl
      rw [gd_nI (by omega) (by decide), nI_clamp (n := c) (by omega), hcT, hbel _ (nT c), bnd_s, gd_nI (by omega) (by decide), hcF, hbel _ (nF c), bnd_s, gd_nI (by omega) (by decide), nI_clamp (n := e) (by omega), heF]
      by_cases q : Z (lT G c) = Z (lF G c)
      · rw [if_pos (by rw [q]), if_pos q]
      · rw [if_neg (fun z => q (bI_inj.mp z)), if_neg q]
        rcases p2 with ⟨x1, x2⟩ | ⟨x1, x2⟩
        · rw [x1, if_pos rfl, hzk]
          cases Z (lT G c) <;> rfl
        · have hne : ln (par k0) ≠ ln k0 := fun z => by have := hEL.2.2.1 _ _ (by omega) k2 z; omega
          rw [x2, if_neg (by rw [nI_inj (nd_lt31 w (hEL.2.1 _ (by omega))) (nd_lt31 w (hEL.2.1 _ k2)), nd_inj w (hEL.2.1 _ (by omega)) (hEL.2.1 _ k2)]; exact hne), hz0]
          cases Z (lT G c) <;> rfl
    rw [nI_clamp (n := c) (by omega), nI_clamp (n := e) (by omega)] at rest
    rw [nI_clamp (n := c) (by omega)]
    rcases p2 with ⟨x1, x2⟩ | ⟨x1, x2⟩
    · have e29 : gI H (r + 2) 29 (nd G (lF G e)) = nI e := by rw [x1, hU.2.2.1 k0 k1 k2, k3]
      rw [e29, if_pos rfl, gd_nI (by omega) (by decide)]
      exact rest _ (by rw [x1])
    · have e29 : ¬ gI H (r + 2) 29 (nd G (lF G e)) = nI e := by
        rw [x2]
        by_cases q : par k0 = 0
        · rw [q, hEL.1, show nd G 20 = qB G from if_pos rfl, hU.2.2.2]
          exact fun z => absurd (show nI e < 0 by rw [← z]; decide) (nI_pos (by omega))
        · rw [hU.2.2.1 (par k0) (by omega) (by omega)]
          have hl := (hEL.2.2.2.2 (par k0) (by omega) (by omega)).1.1
          rw [nI_inj (by omega) (by omega), ← k3]
          exact up_ne hEL (by omega) p1 k2
      rw [if_neg e29, gd_nI (by omega) (by decide), heT]
      exact rest _ (by rw [x1])
