/-- words of integers -/
def zI (z : Int) : Int32 := Int32.ofInt z
theorem zI_n (n : Nat) : nI n = zI (n : Int) := (Int32.ofInt_eq_ofNat).symm
theorem zI_t {z : Int} (h1 : -2147483648 ≤ z) (h2 : z < 2147483648) : (zI z).toInt = z := Int32.toInt_ofInt_of_le h1 h2
theorem zI_add (a b : Int) : zI a + zI b = zI (a + b) := (Int32.ofInt_add a b).symm
theorem zI_sub (a b : Int) : zI a - zI b = zI (a - b) := (Int32.ofInt_sub a b).symm
theorem zI_neg (a : Int) : -zI a = zI (-a) := (Int32.ofInt_neg a).symm
theorem zI_lt {a b : Int} (h1 : -2147483648 ≤ a) (h2 : a < 2147483648) (h3 : -2147483648 ≤ b) (h4 : b < 2147483648) : zI a < zI b ↔ a < b := by rw [Int32.lt_iff_toInt_lt, zI_t h1 h2, zI_t h3 h4]
theorem zI_le {a b : Int} (h1 : -2147483648 ≤ a) (h2 : a < 2147483648) (h3 : -2147483648 ≤ b) (h4 : b < 2147483648) : zI a ≤ zI b ↔ a ≤ b := by rw [Int32.le_iff_toInt_le, zI_t h1 h2, zI_t h3 h4]
theorem zI_inj {a b : Int} (h1 : -2147483648 ≤ a) (h2 : a < 2147483648) (h3 : -2147483648 ≤ b) (h4 : b < 2147483648) : zI a = zI b ↔ a = b := by rw [← Int32.toInt_inj, zI_t h1 h2, zI_t h3 h4]
theorem z0 : (0 : Int32) = zI 0 := rfl
theorem zp1 : (1 : Int32) = zI 1 := rfl
theorem zm1 : (-1 : Int32) = zI (-1) := rfl
theorem z65 : (65 : Int32) = zI 65 := rfl
theorem zm63 : (-63 : Int32) = zI (-63) := rfl
theorem zFr : (1000000000 : Int32) = zI 1000000000 := rfl
theorem zN1 : N1 = zI (-1) := rfl
/-- what stands of the routine -/
def bz (G : Gr) (bl : Nat → Nat) : FZ := fun l => if l < qE G then (bl l : Int) else -1
def MdS (r : Nat) (G : Gr) (bl : Nat → Nat) (H : Hp) : Prop := gI H (r + 2) 1 10 = nI (qB G) ∧ gI H (r + 2) 1 11 = nI (qE G) ∧ gI H (r + 2) 1 12 = nI (lk G) ∧ (∀ l, l < lk G → gI H (r + 2) 13 l = nI (nd G (lF G l)) ∧ gI H (r + 2) 14 l = nI (nd G (lT G l))) ∧ ∀ e, e < 40 → gI H (r + 2) 6 e = nI (bl e)
theorem MdS_s {r : Nat} {G : Gr} {bl : Nat → Nat} {H : Hp} (h : MdS r G bl H) (k i : Nat) (v : Int32) : MdS r G bl (sI H 1 k i v) := by
  have q : ∀ a b, gI (sI H 1 k i v) (r + 2) a b = gI H (r + 2) a b := fun a b => by rw [gI_sI, if_neg (by omega)]
  unfold MdS
  simp only [q]
  exact h
/-- good graphs -/
def GG (G : Gr) (bl : Nat → Nat) : Prop := WG G ∧ 0 < qB G ∧ ∀ e, bl e ≤ 1000000
theorem GG_n {G : Gr} {bl : Nat → Nat} (h : GG G bl) : qB G ≤ 20 ∧ qE G ≤ 40 ∧ lk G ≤ 61 ∧ qE G < lk G ∧ ∀ l, l < lk G → nd G (lF G l) < qB G + 1 ∧ nd G (lT G l) < qB G + 1 := by
  obtain ⟨w, h0, _⟩ := h
  have h1 := w.1
  have h2 := w.2.1
  have h3 := lk_le w
  refine ⟨h1, h2, by omega, by unfold lk; omega, fun l hl => ⟨?_, ?_⟩⟩
  · have := nd_le w (lF_nod w l); omega
  · have := nd_le w (lT_nod w h0 l); omega
noncomputable abbrev wC (G : Gr) (bl : Nat → Nat) : Nw := xw (qB G + 1) (lk G) (fun l => nd G (lF G l)) (fun l => nd G (lT G l)) (bz G bl)
theorem bz_rg {G : Gr} {bl : Nat → Nat} (h : GG G bl) (l : Nat) : -1 ≤ bz G bl l ∧ bz G bl l ≤ 1000000 := by
  have := h.2.2 l
  unfold bz
  split <;> omega
/-- the blurred count, or none -/
theorem jn_b {α : Type} {r : Nat} {G : Gr} {bl : Nat → Nat} {H : Hp} (hG : GG G bl) (h : MdS r G bl H) {i : Nat} (hi : i < lk G) (F : Int32 → Hp → Option α) : jn F (fun j => if (gI H (r + 2) 1 11) ≤ nI i then j (-1) H else gd (nI i) 40 (j ((gI H (r + 2) 6 (Int32.toNatClampNeg (nI i)))) H)) = F (zI (bz G bl i)) H := by
  obtain ⟨g1, g2, g3, _, _⟩ := GG_n hG
  have e : (gI H (r + 2) 1 11) ≤ nI i ↔ qE G ≤ i := by rw [h.2.1, nI_le_iff (by omega) (by omega)]
  show (if (gI H (r + 2) 1 11) ≤ nI i then F (-1) H else gd (nI i) 40 (F ((gI H (r + 2) 6 (Int32.toNatClampNeg (nI i)))) H)) = _
  unfold bz
  by_cases hc : i < qE G
  · rw [if_neg (by rw [e]; omega), gd_nI (by omega) (by decide), nI_clamp (n := i) (by omega), h.2.2.2.2 i (by omega), if_pos hc, zI_n]
  · rw [if_pos (by rw [e]; omega), if_neg hc, zm1]
/-- counts and excess -/
def CE (G : Gr) (c X : FZ) (H : Hp) : Prop := (∀ l, l < lk G → gI H 1 7 l = zI (c l)) ∧ ∀ v, v ≤ qB G → gI H 1 8 v = zI (X v)
def c00 (G : Gr) (bl : Nat → Nat) : FZ := fun l => if l < qE G then (bl l : Int) else 0
/-- the counts are taken -/
theorem x1_tk2 {r : Nat} {G : Gr} {bl : Nat → Nat} {H : Hp} {k : Hp → Option (Unit × Hp)} {Q : Unit → Hp → Prop} (hG : GG G bl) (h : MdS r G bl H) (hk : ∀ H', MdS r G bl H' → (∀ v, v ≤ qB G → gI H' 1 8 v = zI 0) → ok (k H') Q) : ok (L_X1_takeCounts_2 r k FU 0 H) Q := by
  obtain ⟨g1, g2, g3, _, _⟩ := GG_n hG
  refine ok_g1 (qB G + 1) (fun i H' => MdS r G bl H' ∧ ∀ v, v < i → gI H' 1 8 v = zI 0) ?_ ?_ rfl ⟨h, fun v hv => absurd hv (by omega)⟩ (FUgt (by omega))
  · intro i n H1 hi ⟨hS, hI⟩ K
    rw [L_X1_takeCounts_2, hS.1, if_neg (by rw [nI_lt_iff (by omega) (by omega)]; omega), gd_nI (by omega) (by decide), nI_clamp (n := i) (by omega), hl_e]
    simp only [vl]
    rw [show nI i + 1 = nI (i + 1) from nIadd i 1]
    refine K _ ⟨MdS_s hS _ _ _, fun v hv => ?_⟩
    rw [gI_sI]
    by_cases e : v = i
    · rw [if_pos ⟨rfl, rfl, e⟩, z0]
    · rw [if_neg (by omega)]; exact hI v (by omega)
  · intro n H1 ⟨hS, hI⟩
    rw [L_X1_takeCounts_2, hS.1, if_pos (by rw [nI_lt_iff (by omega) (by omega)]; omega)]
    exact hk H1 hS (fun v hv => hI v (by omega))
theorem nt_sC {G : Gr} {bl : Nat → Nat} {c : FZ} {v i : Nat} : nt (wC G bl) (fun _ => 0) c v (i + 1) = nt (wC G bl) (fun _ => 0) c v i + c i * (i1 (nd G (lT G i)) v - i1 (nd G (lF G i)) v) := by
  show nt (wC G bl) (fun _ => 0) c v i + (0 + c i) * (i1 (nd G (lT G i)) v - i1 (nd G (lF G i)) v) = _
  rw [Int.zero_add]
theorem x1_tk25 {r : Nat} {G : Gr} {bl : Nat → Nat} {H : Hp} {k : Hp → Option (Unit × Hp)} {Q : Unit → Hp → Prop} (hG : GG G bl) (h : MdS r G bl H) (h0 : ∀ v, v ≤ qB G → gI H 1 8 v = zI 0) (hk : ∀ H', MdS r G bl H' → CE G (c00 G bl) (fun v => nt (wC G bl) (fun _ => 0) (c00 G bl) v (lk G)) H' → ok (k H') Q) : ok (L_X1_takeCounts_25 r k FU 0 H) Q := by
  obtain ⟨g1, g2, g3, _, g5⟩ := GG_n hG
  refine ok_g1 (lk G) (fun i H' => MdS r G bl H' ∧ (∀ l, l < i → gI H' 1 7 l = zI (c00 G bl l)) ∧ ∀ v, v ≤ qB G → gI H' 1 8 v = zI (nt (wC G bl) (fun _ => 0) (c00 G bl) v i)) ?_ ?_ rfl ⟨h, fun v hv => absurd hv (by omega), h0⟩ (FUgt (by omega))
  · intro i n H1 hi ⟨hS, hc, hX⟩ K
    obtain ⟨f1, f2⟩ := g5 i hi
    have eb : ∀ F : Int32 → Hp → Option (Unit × Hp), jn F (fun j => if (gI H1 (r + 2) 1 11) ≤ nI i then j 0 H1 else gd (nI i) 40 (j ((gI H1 (r + 2) 6 (Int32.toNatClampNeg (nI i)))) H1)) = F (zI (c00 G bl i)) H1 := by
      intro F
      have e : (gI H1 (r + 2) 1 11) ≤ nI i ↔ qE G ≤ i := by rw [hS.2.1, nI_le_iff (by omega) (by omega)]
      show (if (gI H1 (r + 2) 1 11) ≤ nI i then F 0 H1 else gd (nI i) 40 (F ((gI H1 (r + 2) 6 (Int32.toNatClampNeg (nI i)))) H1)) = _
      unfold c00
      by_cases hc : i < qE G
      · rw [if_neg (by rw [e]; omega), gd_nI (by omega) (by decide), nI_clamp (n := i) (by omega), hS.2.2.2.2 i (by omega), if_pos hc, zI_n]
      · rw [if_pos (by rw [e]; omega), if_neg hc, z0]
    rw [L_X1_takeCounts_25, hS.2.2.1, if_neg (by rw [nI_le_iff (by omega) (by omega)]; omega), eb]
    have hS9 := MdS_s hS 7 i (zI (c00 G bl i))
    have e7 : gI (sI H1 1 7 i (zI (c00 G bl i))) 1 7 i = zI (c00 G bl i) := gI_eq _ _ _ _ _
    have e8 : ∀ v, v ≤ qB G → gI (sI H1 1 7 i (zI (c00 G bl i))) 1 8 v = zI (nt (wC G bl) (fun _ => 0) (c00 G bl) v i) := fun v hv => by rw [gI_ne (by omega)]; exact hX v hv
    have e7' : ∀ l, l < i + 1 → gI (sI H1 1 7 i (zI (c00 G bl i))) 1 7 l = zI (c00 G bl l) := fun l hl => by
      by_cases e : l = i
      · rw [e]; exact e7
      · rw [gI_ne (by omega)]; exact hc l (by omega)
    simp only [gd_nI (show i < 61 by omega) (by decide), nI_clamp (show i < 2 ^ 31 by omega), hl_e]
    generalize sI H1 1 7 i (zI (c00 G bl i)) = H9 at hS9 e7 e8 e7'
    rw [(hS9.2.2.2.1 i hi).1, e7]
    simp only [gd_nI (show nd G (lF G i) < 21 by omega) (by decide), nI_clamp (show nd G (lF G i) < 2 ^ 31 by omega)]
    rw [e8 _ (by omega), zI_sub]
    have hS10 := MdS_s hS9 8 (nd G (lF G i)) (zI (nt (wC G bl) (fun _ => 0) (c00 G bl) (nd G (lF G i)) i - c00 G bl i))
    have f7 : ∀ l, l < i + 1 → gI (sI H9 1 8 (nd G (lF G i)) (zI (nt (wC G bl) (fun _ => 0) (c00 G bl) (nd G (lF G i)) i - c00 G bl i))) 1 7 l = zI (c00 G bl l) := fun l hl => by rw [gI_ne (by omega)]; exact e7' l hl
    have f8 : ∀ v, v ≤ qB G → gI (sI H9 1 8 (nd G (lF G i)) (zI (nt (wC G bl) (fun _ => 0) (c00 G bl) (nd G (lF G i)) i - c00 G bl i))) 1 8 v = zI (nt (wC G bl) (fun _ => 0) (c00 G bl) v i - c00 G bl i * i1 (nd G (lF G i)) v) := fun v hv => by
      by_cases e : v = nd G (lF G i)
      · rw [← e, gI_eq, i1, if_pos rfl, Int.mul_one]
      · rw [gI_ne (by omega), e8 v hv, i1, if_neg (Ne.symm e)]; simp
    generalize sI H9 1 8 (nd G (lF G i)) (zI (nt (wC G bl) (fun _ => 0) (c00 G bl) (nd G (lF G i)) i - c00 G bl i)) = H10 at hS10 f7 f8
    rw [(hS10.2.2.2.1 i hi).2, f7 i (by omega)]
    simp only [gd_nI (show nd G (lT G i) < 21 by omega) (by decide), nI_clamp (show nd G (lT G i) < 2 ^ 31 by omega)]
    rw [f8 _ (by omega), zI_add]
    simp only [vl]
    rw [show nI i + 1 = nI (i + 1) from nIadd i 1]
    refine K _ ⟨MdS_s hS10 _ _ _, fun l hl => by rw [gI_ne (by omega)]; exact f7 l hl, fun v hv => ?_⟩
    rw [nt_sC]
    by_cases e : v = nd G (lT G i)
    · rw [← e, gI_eq]
      congr 1
      have : i1 v v = 1 := if_pos rfl
      rw [this]; grind
    · rw [gI_ne (by omega), f8 v hv]
      congr 1
      have : i1 (nd G (lT G i)) v = 0 := if_neg (Ne.symm e)
      rw [this]; grind
  · intro n H1 ⟨hS, hc, hX⟩
    rw [L_X1_takeCounts_25, hS.2.2.1, if_pos (by rw [nI_le_iff (by omega) (by omega)]; omega)]
    exact hk H1 hS ⟨hc, hX⟩
theorem x1_take {r : Nat} {G : Gr} {bl : Nat → Nat} {H : Hp} (hG : GG G bl) (h : MdS r G bl H) : ok (f_X1_takeCounts r H) (fun _ H' => MdS r G bl H' ∧ CE G (c00 G bl) (fun v => nt (wC G bl) (fun _ => 0) (c00 G bl) v (lk G)) H') := by
  unfold f_X1_takeCounts
  refine x1_tk2 hG h (fun H1 hS h0 => ?_)
  exact x1_tk25 hG hS h0 (fun H2 hS2 hC => ok_s ⟨hS2, hC⟩)
/-- what a change costs -/
theorem x1_more {H : Hp} {i : Nat} {b c : Int} (hi : i < 61) (hc : gI H 1 7 i = zI c) (hb : -1 ≤ b ∧ b ≤ 1000000) (hcr : 0 ≤ c ∧ c ≤ 2000000000) : f_X1_costOfMore (nI i) (zI b) H = some (zI (xmo b c), H) := by
  unfold f_X1_costOfMore xmo
  by_cases e : b = -1
  · rw [if_pos (by rw [e, zm1]), if_pos e, zp1]
  · rw [if_neg (by rw [zm1, zI_inj (by omega) (by omega) (by omega) (by omega)]; exact e), if_neg e, gd_nI hi (by decide), nI_clamp (by omega), hc]
    by_cases e2 : c < b
    · rw [if_neg (by rw [zI_le (by omega) (by omega) (by omega) (by omega)]; omega), if_pos e2, zm63]
    · rw [if_pos (by rw [zI_le (by omega) (by omega) (by omega) (by omega)]; omega), if_neg e2, z65]
theorem x1_less {H : Hp} {i : Nat} {b c : Int} (hi : i < 61) (hc : gI H 1 7 i = zI c) (hb : -1 ≤ b ∧ b ≤ 1000000) (hcr : 0 ≤ c ∧ c ≤ 2000000000) : f_X1_costOfLess (nI i) (zI b) H = some (zI (xle b c), H) := by
  unfold f_X1_costOfLess xle
  by_cases e : b = -1
  · rw [if_pos (by rw [e, zm1]), if_pos e, zp1]
  · rw [if_neg (by rw [zm1, zI_inj (by omega) (by omega) (by omega) (by omega)]; exact e), if_neg e, gd_nI hi (by decide), nI_clamp (by omega), hc]
    by_cases e2 : b < c
    · rw [if_neg (by rw [zI_le (by omega) (by omega) (by omega) (by omega)]; omega), if_pos e2, zm63]
    · rw [if_pos (by rw [zI_le (by omega) (by omega) (by omega) (by omega)]; omega), if_neg e2, z65]
theorem x1_rmore {H : Hp} {i : Nat} {b c : Int} (hi : i < 61) (hc : gI H 1 7 i = zI c) (hb : -1 ≤ b ∧ b ≤ 1000000) (hcr : 0 ≤ c ∧ c ≤ 2000000000) : f_X1_roomForMore (nI i) (zI b) H = some (zI (xrm b c), H) := by
  unfold f_X1_roomForMore xrm
  rw [gd_nI hi (by decide), nI_clamp (by omega), hc]
  by_cases e2 : c < b
  · rw [if_neg (by rw [zI_le (by omega) (by omega) (by omega) (by omega)]; omega), if_pos e2, gd_nI hi (by decide), zI_sub]
  · rw [if_pos (by rw [zI_le (by omega) (by omega) (by omega) (by omega)]; omega), if_neg e2, zFr]
theorem x1_rless {H : Hp} {i : Nat} {b c : Int} (hi : i < 61) (hc : gI H 1 7 i = zI c) (hb : -1 ≤ b ∧ b ≤ 1000000) (hcr : 0 ≤ c ∧ c ≤ 2000000000) : f_X1_roomForLess (nI i) (zI b) H = some (zI (xrl b c), H) := by
  unfold f_X1_roomForLess xrl
  simp only [gd_nI hi (show 61 < 2 ^ 31 by decide), nI_clamp (show i < 2 ^ 31 by omega), hc]
  by_cases e : b = -1
  · rw [if_pos (by rw [e, zm1]), if_pos e]
  · rw [if_neg (by rw [zm1, zI_inj (by omega) (by omega) (by omega) (by omega)]; exact e), if_neg e]
    by_cases e2 : b < c
    · rw [if_neg (by rw [zI_le (by omega) (by omega) (by omega) (by omega)]; omega), if_pos e2, zI_sub]
    · rw [if_pos (by rw [zI_le (by omega) (by omega) (by omega) (by omega)]; omega), if_neg e2]
