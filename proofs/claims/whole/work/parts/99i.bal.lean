/-- solve: counts that balance at every node -/
def dlt (G : Gr) (u j : Nat) (v : Int64) : Int64 := (if lT G j = u then v else 0) - (if lF G j = u then v else 0)
def netD (G : Gr) (D : Nat → Bool) (x : Nat → Int64) (u n : Nat) : Int64 := sumJ (fun j => if D j = true then dlt G u j (x j) else 0) n
theorem sumJ_one {f g : Nat → Int64} {l n : Nat} (hl : l < n) (h : ∀ j, j < n → j ≠ l → g j = f j) : sumJ g n = sumJ f n + (g l - f l) := by
  induction n with
  | zero => exact absurd hl (Nat.not_lt_zero _)
  | succ n ih =>
    rw [sumJ_s, sumJ_s]
    by_cases q : l = n
    · rw [sumJ_congr (fun j hj => h j (by omega) (by omega)), q]
      grind
    · rw [ih (by omega) (fun j hj hne => h j (by omega) hne), h n (by omega) (by omega)]
      grind
theorem sumJ_lin (f g h : Nat → Int64) (n : Nat) : sumJ (fun c => f c + (g c - h c)) n = sumJ f n + (sumJ g n - sumJ h n) := by
  induction n with
  | zero => exact (show (0 : Int64) = 0 + (0 - 0) by decide)
  | succ n ih =>
    rw [sumJ_s, sumJ_s, sumJ_s, sumJ_s, ih]
    grind
theorem sumJ_at {a n : Nat} (v : Int64) (ha : a < n) : sumJ (fun c => if c = a then v else 0) n = v := by
  rw [sumJ_one (f := fun _ => 0) ha (fun j _ hj => if_neg hj), sumJ_0, if_pos rfl]
  grind
theorem sumJ_mv {f : Nat → Int64} {a b n : Nat} (v : Int64) (ha : a < n) (hb : b < n) : sumJ (fun c => f c + ((if c = a then v else 0) - (if c = b then v else 0))) n = sumJ f n := by
  rw [sumJ_lin, sumJ_at v ha, sumJ_at v hb]
  grind
theorem netD_add {G : Gr} {D : Nat → Bool} {x : Nat → Int64} {n l : Nat} (u : Nat) (v : Int64) (hl : l < n) (hD : D l = false) : netD G (upB D l true) (upJ x l v) u n = netD G D x u n + dlt G u l v := by
  unfold netD
  rw [sumJ_one (f := fun j => if D j = true then dlt G u j (x j) else 0) (l := l) hl (fun j _ hj => by
    show (if (if j = l then true else D j) = true then dlt G u j (if j = l then v else x j) else 0) = _
    rw [if_neg hj, if_neg hj])]
  show _ + ((if (if l = l then true else D l) = true then dlt G u l (if l = l then v else x l) else 0) - (if D l = true then dlt G u l (x l) else 0)) = _
  rw [if_pos rfl, if_pos rfl, if_pos rfl, hD, if_neg (by decide)]
  grind
/-- balanced counts: ls what is lost at a block, cN what counters say -/
def s0 (ls : Nat → Int64) (B u : Nat) : Int64 := if u = 20 then sumJ ls B else - ls u
def Bal (G : Gr) (ls cN x : Nat → Int64) : Prop := (∀ j, j < lk G → tb G j = false → x j = cN j) ∧ ∀ u, nod G u → netD G (fun _ => true) x u (lk G) + s0 ls (qB G) u = 0
abbrev LCY : List (Nat × Nat × Option Nat) := [(2, 32, none), (2, 33, none)]
theorem x5_carry {r l nf nt : Nat} {v : Int64} {H : Hp} (hl : l < 61) (h13 : gI H (r + 2) 13 l = nI nf) (h14 : gI H (r + 2) 14 l = nI nt) (hf : nf < 21) (ht : nt < 21) : ok (f_X5_carry r (nI l) v H) (fun _ H' => Ch TT LCY H H' ∧ gJ H' (r + 2) 33 l = v ∧ (∀ j, j ≠ l → gJ H' (r + 2) 33 j = gJ H (r + 2) 33 j) ∧ ∀ c, gJ H' (r + 2) 32 c = gJ H (r + 2) 32 c + ((if c = nt then v else 0) - (if c = nf then v else 0))) := by
  unfold f_X5_carry
  rw [gd_nI hl (by decide), nI_clamp (n := l) (by omega), hl_e, gd_nI hl (by decide), gI_sJ, h13, gd_nI hf (by decide), gd_nI hf (by decide), nI_clamp (n := nf) (by omega), hl_e, gd_nI hl (by decide), gI_sJ, gI_sJ, h14, gd_nI ht (by decide), gd_nI ht (by decide), nI_clamp (n := nt) (by omega), hl_e]
  refine ok_s ⟨Ch.sJ rfl rfl (Ch.sJ rfl rfl (Ch.sJ rfl rfl (Ch.rf H))), ?_, fun j hj => ?_, fun c => ?_⟩
  · rw [gJ_ne (by omega), gJ_ne (by omega), gJ_eq]
  · rw [gJ_ne (by omega), gJ_ne (by omega), gJ_ne (by omega)]
  · have e1 : gJ (sJ H (r + 2) 33 l v) (r + 2) 32 nf = gJ H (r + 2) 32 nf := gJ_ne (by omega)
    rw [e1]
    by_cases q1 : c = nt
    · rw [q1, gJ_eq, if_pos rfl]
      by_cases q2 : nt = nf
      · rw [q2, gJ_eq, if_pos rfl]; grind
      · rw [gJ_ne (by omega), gJ_ne (by omega), if_neg q2]; grind
    · rw [gJ_ne (by omega), if_neg q1]
      by_cases q2 : c = nf
      · rw [q2, gJ_eq, if_pos rfl]; grind
      · rw [gJ_ne (by omega), gJ_ne (by omega), if_neg q2]; grind
/-- the class's state while it rebuilds: links D are settled as x says -/
def SC (r : Nat) (G : Gr) (s1 : Nat → Int64) (S0 : Int64) (D : Nat → Bool) (x : Nat → Int64) (H : Hp) : Prop := (∀ j, j < lk G → D j = true → gJ H (r + 2) 33 j = x j) ∧ (∀ c, c ≤ qB G → gJ H (r + 2) 32 c = s1 c + netD G D x (un G c) (lk G)) ∧ sumJ (fun c => gJ H (r + 2) 32 c) (qB G + 1) = S0
theorem nd_iff {G : Gr} (w : WG G) {u c : Nat} (hu : nod G u) (hc : c ≤ qB G) : c = nd G u ↔ u = un G c := by
  constructor
  · intro h; rw [h, un_nd w hu]
  · intro h; rw [h, (nd_un w hc).1]
theorem sc_carry {r l : Nat} {G : Gr} {s1 : Nat → Int64} {S0 v : Int64} {D : Nat → Bool} {x : Nat → Int64} {H : Hp} (w : WG G) (h0 : 0 < qB G) (hL : CL r G H) (hl : l < lk G) (hS : SC r G s1 S0 D x H) (hD : D l = false) : ok (f_X5_carry r (nI l) v H) (fun _ H' => Ch TT LCY H H' ∧ SC r G s1 S0 (upB D l true) (upJ x l v) H' ∧ ∀ c, c ≤ qB G → gJ H' (r + 2) 32 c = gJ H (r + 2) 32 c + dlt G (un G c) l v) := by
  have hB := w.1
  have hE := w.2.1
  have hlk := lk_le w
  have n1 := lF_nod w l
  have n2 := lT_nod w h0 l
  have m1 := nd_le w n1
  have m2 := nd_le w n2
  refine ok_m (x5_carry (by omega) (hL.2.1 l hl) (hL.2.2 l hl) (by omega) (by omega)) ?_
  rintro - H1 ⟨q, a1, a2, a3⟩
  have a4 : ∀ c, c ≤ qB G → gJ H1 (r + 2) 32 c = gJ H (r + 2) 32 c + dlt G (un G c) l v := by
    intro c hc
    rw [a3 c]
    unfold dlt
    simp only [nd_iff w n1 hc, nd_iff w n2 hc]
  refine ⟨q, ⟨fun j hj hd => ?_, fun c hc => ?_, ?_⟩, a4⟩
  · by_cases z : j = l
    · rw [z, a1]; exact (if_pos rfl).symm
    · have hd' : D j = true := by
        have : (if j = l then true else D j) = true := hd
        rwa [if_neg z] at this
      rw [a2 j z, hS.1 j hj hd']
      exact (if_neg z).symm
  · rw [a4 c hc, hS.2.1 c hc, netD_add _ v hl hD]
    grind
  · have : sumJ (fun c => gJ H1 (r + 2) 32 c) (qB G + 1) = sumJ (fun c => gJ H (r + 2) 32 c + ((if c = nd G (lT G l) then v else 0) - (if c = nd G (lF G l) then v else 0))) (qB G + 1) := sumJ_congr (fun c _ => a3 c)
    rw [this, sumJ_mv v (by omega) (by omega)]
    exact hS.2.2
