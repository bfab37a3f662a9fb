/-- the state of a routine: graph, whether finished, guesses when planned, potentials, log, table, blurred counts -/
abbrev Lg : Type := (Nat → Int64) × (Nat → Int64) × (Nat → Int64) × Int64
abbrev Tb : Type := Nat × (Nat → Int64) × (Nat → Int64) × Int64
abbrev Rt : Type := Gr × Bool × (Nat → Nat) × (Nat → Int64) × Lg × Tb × (Nat → Nat)
def sg (G : Gr) (g : Nat → Nat) : Gr := (qB G, qE G, qK G, qC G, qF G, qT G, g, qW G)
def rG (a : Rt) : Gr := a.1
def rD (a : Rt) : Bool := a.2.1
def rg (a : Rt) : Nat → Nat := a.2.2.1
def rp (a : Rt) : Nat → Int64 := a.2.2.2.1
def rlg (a : Rt) : Lg := a.2.2.2.2.1
def rtb (a : Rt) : Tb := a.2.2.2.2.2.1
def rbl (a : Rt) : Nat → Nat := a.2.2.2.2.2.2
def rGp (a : Rt) : Gr := sg (rG a) (rg a)
theorem sg_self (G : Gr) : sg G (qG G) = G := rfl
/-- what doesn't look at guesses -/
theorem psn_sg (G : Gr) (g : Nat → Nat) (n : Nat → Nat) (b : Nat) : psn (sg G g) n b = psn G n b := by
  induction b with
  | zero => rfl
  | succ b ih =>
    funext x
    rw [psn_s, psn_s, ih]
    rfl
theorem npi_sg (G : Gr) (g : Nat → Nat) (p : Nat) : npi (sg G g) p = npi G p := by
  induction p with
  | zero => rfl
  | succ p ih =>
    show psn (sg G g) (npi (sg G g) p) (qB G) = psn G (npi G p) (qB G)
    rw [ih, psn_sg]
theorem nW_sg (G : Gr) (g : Nat → Nat) : nW (sg G g) = nW G := npi_sg G g _
theorem aD_sg (G : Gr) (g : Nat → Nat) : aD (sg G g) = aD G := by
  funext e
  show adS (sg G g) (nW (sg G g)) (qF G e) e = adS G (nW G) (qF G e) e
  rw [nW_sg]; rfl
theorem bsS_sg (G : Gr) (g : Nat → Nat) : bsS (sg G g) = bsS G := by
  funext b
  show nW (sg G g) 0 + sumF (fun x => if hdB G x (qE G) = true then nW (sg G g) x else 0) b = nW G 0 + sumF (fun x => if hdB G x (qE G) = true then nW G x else 0) b
  rw [nW_sg]
theorem tot_sg (G : Gr) (g : Nat → Nat) : tot (sg G g) = tot G := by
  show bsS (sg G g) (qB G) = bsS G (qB G)
  rw [bsS_sg]
theorem bsV_sg (G : Gr) (g : Nat → Nat) : bsV (sg G g) = bsV G := by
  funext b
  show (if hdB G b (qE G) = true then lN (bsS (sg G g) b) else -1) = if hdB G b (qE G) = true then lN (bsS G b) else -1
  rw [bsS_sg]
theorem why_sg (G : Gr) (g : Nat → Nat) : why (sg G g) = why G := by
  have h1 : ff4 (sg G g) = ff4 G := rfl
  have h2 : ff6 (sg G g) = ff6 G := by
    show (if allB (fun b => !(decide (nW (sg G g) b = 0))) (qB G) = false then 5 else if 1000000000000 < tot (sg G g) then 6 else 0) = (if allB (fun b => !(decide (nW G b = 0))) (qB G) = false then 5 else if 1000000000000 < tot G then 6 else 0)
    rw [nW_sg, tot_sg]
  unfold why
  rw [h1, h2]
theorem WG_sg {G : Gr} {g : Nat → Nat} (w : WG G) (h : ∀ e, e < qE G → g e ≤ 1000000) : WG (sg G g) := ⟨w.1, w.2.1, w.2.2.1, fun e he => ⟨(w.2.2.2.1 e he).1, (w.2.2.2.1 e he).2.1, h e he⟩, w.2.2.2.2.1, w.2.2.2.2.2⟩
/-- the class's log and table -/
def CLg (r : Nat) (G : Gr) (l : Lg) (H : Hp) : Prop := (∀ e, e < 40 → gJ H (r + 2) 34 e = l.1 e ∧ gJ H (r + 2) 35 e = l.2.1 e) ∧ (∀ b, b < 20 → gJ H (r + 2) 36 b = l.2.2.1 b) ∧ gJ H (r + 2) 4 3 = l.2.2.2
def sumJ (f : Nat → Int64) : Nat → Int64
  | 0 => 0
  | n + 1 => sumJ f n + f n
def CTb (r : Nat) (t : Tb) (H : Hp) : Prop := gI H (r + 2) 5 2 = nI t.1 ∧ (∀ k, k < t.1 → gJ H (r + 2) 37 k = t.2.1 k ∧ gJ H (r + 2) 38 k = t.2.2.1 k) ∧ gJ H (r + 2) 5 3 = t.2.2.2
def MLg (r : Nat) (l : Lg) (H : Hp) : Prop := (∀ e, e < 40 → gJ H 0 22 (40 * r + e) = l.1 e ∧ gJ H 0 23 (40 * r + e) = l.2.1 e) ∧ (∀ b, b < 20 → gJ H 0 21 (20 * r + b) = l.2.2.1 b) ∧ gJ H 0 19 r = l.2.2.2
def MTb (r : Nat) (t : Tb) (H : Hp) : Prop := gI H 0 24 r = nI t.1 ∧ (∀ k, k < t.1 → gJ H 0 25 (16 * r + k) = t.2.1 k ∧ gJ H 0 26 (16 * r + k) = t.2.2.1 k) ∧ gJ H 0 20 r = t.2.2.2
/-- a routine on the class's side -/
def CF (r : Nat) (a : Rt) (H : Hp) : Prop := CL r (rG a) H ∧ CW r (rG a) H ∧ CT r (rG a) (rGp a) H ∧ CPt r (rG a) (rp a) H ∧ CLg r (rG a) (rlg a) H ∧ gJ H (r + 2) 4 4 = sumJ (rlg a).2.2.1 (qB (rG a)) ∧ CTb r (rtb a) H
def CR (r : Nat) (a : Rt) (H : Hp) : Prop := gI H (r + 2) 0 0 = nI r ∧ CG r (rG a) H ∧ gI H (r + 2) 0 8 = bI (rD a) ∧ (∀ e, e < 40 → gI H (r + 2) 6 e = nI (rbl a e)) ∧ (rD a = true → CF r a H)
/-- a routine on the reference's side -/
def MF (r : Nat) (a : Rt) (H : Hp) : Prop := MW r (rG a) H ∧ MP r (rG a) (rGp a) (rp a) H ∧ MLg r (rlg a) H ∧ MTb r (rtb a) H
def MR (r : Nat) (a : Rt) (H : Hp) : Prop := MG r (rG a) H ∧ gI H 0 3 r = bI (rD a) ∧ (∀ e, e < qE (rG a) → gI H 0 10 (40 * r + e) = nI (rbl a e)) ∧ (rD a = true → MF r a H)
/-- what holds of it itself -/
def PR (a : Rt) : Prop := WG (rG a) ∧ (∀ e, rbl a e ≤ 1000000) ∧ (∀ e, qE (rG a) ≤ e → rbl a e = 0) ∧ (rD a = true → why (rG a) = 0 ∧ (∀ e, e < qE (rG a) → rg a e ≤ 1000000) ∧ Pot (rGp a) (rp a) ∧ (rtb a).1 ≤ 16)
/-- the run: frames, routine, block, sum, state, steps, price -/
abbrev Wk : Type := Nat × (Nat → Nat) × (Nat → Nat) × (Nat → Int64) × Nat × Int32 × Int32
def wF (w : Wk) : Nat := w.1
def wR (w : Wk) : Nat → Nat := w.2.1
def wB (w : Wk) : Nat → Nat := w.2.2.1
def wS (w : Wk) : Nat → Int64 := w.2.2.2.1
def wT (w : Wk) : Nat := w.2.2.2.2.1
def wN (w : Wk) : Int32 := w.2.2.2.2.2.1
def wP (w : Wk) : Int32 := w.2.2.2.2.2.2
def CK (w : Wk) (H : Hp) : Prop := gI H 1 2 3 = nI (wF w) ∧ gI H 1 2 4 = nI (wT w) ∧ gI H 1 2 5 = wN w ∧ gI H 1 2 6 = wP w ∧ ∀ f, f < wF w → gR H 1 4 f = some (wR w f) ∧ gI H 1 5 f = nI (wB w f) ∧ gJ H 1 6 f = wS w f
def MK (w : Wk) (H : Hp) : Prop := gI H 0 0 28 = nI (wF w) ∧ gI H 0 0 27 = nI (wT w) ∧ gI H 0 0 29 = wN w ∧ gI H 0 0 30 = wP w ∧ ∀ f, f < wF w → gI H 0 31 f = nI (wR w f) ∧ gI H 0 32 f = nI (wB w f) ∧ gJ H 0 33 f = wS w f
def PK (nr : Nat) (ρ : Nat → Rt) (w : Wk) : Prop := wF w ≤ 30 ∧ wT w ≤ 4 ∧ (wT w = 1 ↔ 0 < wF w) ∧ (∀ f, f < wF w → wR w f < nr ∧ rD (ρ (wR w f)) = true ∧ wB w f < qB (rG (ρ (wR w f)))) ∧ (∀ f, f + 1 < wF w → qK (rG (ρ (wR w f))) (wB w f) = 2)
def Rel (nr : Nat) (H : Hp) : Prop := RR nr H ∧ ∃ (ρ : Nat → Rt) (w : Wk), (∀ r, r < nr → PR (ρ r) ∧ CR r (ρ r) H ∧ MR r (ρ r) H) ∧ PK nr ρ w ∧ CK w H ∧ MK w H
/-- frames -/
theorem CR_eq {r : Nat} {a : Rt} {H H' : Hp} (h : CR r a H) (h1 : ∀ k i, gI H' (r + 2) k i = gI H (r + 2) k i) (h2 : ∀ k i, gJ H' (r + 2) k i = gJ H (r + 2) k i) : CR r a H' := by
  unfold CR CG CF CL CW CT CUp CPt CLg CTb at h ⊢
  simp only [h1, h2]
  exact h
theorem CK_eq {w : Wk} {H H' : Hp} (h : CK w H) (h1 : ∀ k i, gI H' 1 k i = gI H 1 k i) (h2 : ∀ k i, gJ H' 1 k i = gJ H 1 k i) (h3 : ∀ k i, gR H' 1 k i = gR H 1 k i) : CK w H' := by
  unfold CK at h ⊢
  simp only [h1, h2, h3]
  exact h
theorem MR_eq {r : Nat} {a : Rt} {H H' : Hp} (h : MR r a H) (h1 : ∀ k i, gI H' 0 k i = gI H 0 k i) (h2 : ∀ k i, gJ H' 0 k i = gJ H 0 k i) : MR r a H' := by
  unfold MR MG MF MW MP MLg MTb at h ⊢
  simp only [h1, h2]
  exact h
theorem MK_eq {w : Wk} {H H' : Hp} (h : MK w H) (h1 : ∀ k i, gI H' 0 k i = gI H 0 k i) (h2 : ∀ k i, gJ H' 0 k i = gJ H 0 k i) : MK w H' := by
  unfold MK at h ⊢
  simp only [h1, h2]
  exact h
/-- a change of the class alone, of the reference alone -/
theorem Ch.c0 {rs : Nat → Bool} {L : List (Nat × Nat × Option Nat)} {H H' : Hp} (q : Ch rs L H H') (hL : L.all (fun x => x.1 != 0) = true) (k i : Nat) : gI H' 0 k i = gI H 0 k i ∧ gJ H' 0 k i = gJ H 0 k i := by
  have h : inL L 0 k i = false := by
    cases e : inL L 0 k i with
    | false => rfl
    | true =>
      obtain ⟨x, hx, h1, -⟩ := inL_iff.mp e
      have := List.all_eq_true.mp hL x hx
      rw [h1] at this
      cases this
  have := q 0 k i (by show (true && inL L 0 k i) = false; rw [h]; rfl)
  exact ⟨this.1, this.2.1⟩
theorem Ch.m1 {rs : Nat → Bool} {L : List (Nat × Nat × Option Nat)} {H H' : Hp} (q : Ch rs L H H') (hL : L.all (fun x => x.1 == 0) = true) (g k i : Nat) (hg : g ≠ 0) : gI H' g k i = gI H g k i ∧ gJ H' g k i = gJ H g k i ∧ gR H' g k i = gR H g k i := by
  have h : inL L (gc g) k i = false := by
    cases e : inL L (gc g) k i with
    | false => rfl
    | true =>
      obtain ⟨x, hx, h1, -⟩ := inL_iff.mp e
      have h2 := List.all_eq_true.mp hL x hx
      simp only [beq_iff_eq] at h2
      rw [h2] at h1
      match g, hg, h1 with
      | 1, _, h1 => cases h1
      | g + 2, _, h1 => cases h1
  exact q g k i (by rw [h, Bool.and_false])
theorem RR_c {nr : Nat} {rs : Nat → Bool} {L : List (Nat × Nat × Option Nat)} {H H' : Hp} (h : RR nr H) (q : Ch rs L H H') (h0 : nol L 0 [(0, some 0)] = true) (h1 : nol L 1 [(0, some 3), (1, none)] = true) : RR nr H' := by
  obtain ⟨a, b, c, d, e⟩ := h
  refine ⟨a, ?_, ?_, fun i hi => ?_, fun i hi hj => ?_⟩
  · rw [(q.m h0 (k := 0) (o := some 0) (by simp) rfl).1]; exact b
  · rw [(q.w h1 (k := 0) (o := some 3) (by simp) rfl).1]; exact c
  · rw [(q.w h1 (k := 1) (o := none) (by simp) rfl).2.2]; exact d i hi
  · rw [(q.w h1 (k := 1) (o := none) (by simp) rfl).2.2]; exact e i hi hj
/-- footprints of what is finished -/
def fpCF : List (Nat × Option Nat) := [(1, some 12), (13, none), (14, none), (18, none), (19, none), (21, none), (2, some 10), (27, none), (3, some 9), (3, some 10), (3, some 11), (29, none), (30, none), (20, none), (22, none), (34, none), (35, none), (36, none), (4, some 3), (4, some 4), (5, some 2), (5, some 3), (37, none), (38, none)]
theorem CF_ch {rs : Nat → Bool} {L : List (Nat × Nat × Option Nat)} {H H' : Hp} {r : Nat} {a : Rt} (h : CF r a H) (q : Ch rs L H H') (hL : nol L 2 fpCF = true) : CF r a H' := by
  have c : ∀ k o i, (k, o) ∈ fpCF → slo o i = true → gI H' (r + 2) k i = gI H (r + 2) k i ∧ gJ H' (r + 2) k i = gJ H (r + 2) k i := fun k o i hk hi => q.c hL hk hi
  have i1 : gI H' (r + 2) 1 12 = gI H (r + 2) 1 12 := (c 1 (some 12) 12 (by simp [fpCF]) rfl).1
  have i13 : ∀ i, gI H' (r + 2) 13 i = gI H (r + 2) 13 i := fun i => (c 13 none i (by simp [fpCF]) rfl).1
  have i14 : ∀ i, gI H' (r + 2) 14 i = gI H (r + 2) 14 i := fun i => (c 14 none i (by simp [fpCF]) rfl).1
  have j18 : ∀ i, gJ H' (r + 2) 18 i = gJ H (r + 2) 18 i := fun i => (c 18 none i (by simp [fpCF]) rfl).2
  have j19 : ∀ i, gJ H' (r + 2) 19 i = gJ H (r + 2) 19 i := fun i => (c 19 none i (by simp [fpCF]) rfl).2
  have j21 : ∀ i, gJ H' (r + 2) 21 i = gJ H (r + 2) 21 i := fun i => (c 21 none i (by simp [fpCF]) rfl).2
  have j2 : gJ H' (r + 2) 2 10 = gJ H (r + 2) 2 10 := (c 2 (some 10) 10 (by simp [fpCF]) rfl).2
  have i27 : ∀ i, gI H' (r + 2) 27 i = gI H (r + 2) 27 i := fun i => (c 27 none i (by simp [fpCF]) rfl).1
  have i39 : gI H' (r + 2) 3 9 = gI H (r + 2) 3 9 := (c 3 (some 9) 9 (by simp [fpCF]) rfl).1
  have i310 : gI H' (r + 2) 3 10 = gI H (r + 2) 3 10 := (c 3 (some 10) 10 (by simp [fpCF]) rfl).1
  have j311 : gJ H' (r + 2) 3 11 = gJ H (r + 2) 3 11 := (c 3 (some 11) 11 (by simp [fpCF]) rfl).2
  have i29 : ∀ i, gI H' (r + 2) 29 i = gI H (r + 2) 29 i := fun i => (c 29 none i (by simp [fpCF]) rfl).1
  have i30 : ∀ i, gI H' (r + 2) 30 i = gI H (r + 2) 30 i := fun i => (c 30 none i (by simp [fpCF]) rfl).1
  have j20 : ∀ i, gJ H' (r + 2) 20 i = gJ H (r + 2) 20 i := fun i => (c 20 none i (by simp [fpCF]) rfl).2
  have j22 : ∀ i, gJ H' (r + 2) 22 i = gJ H (r + 2) 22 i := fun i => (c 22 none i (by simp [fpCF]) rfl).2
  have j34 : ∀ i, gJ H' (r + 2) 34 i = gJ H (r + 2) 34 i := fun i => (c 34 none i (by simp [fpCF]) rfl).2
  have j35 : ∀ i, gJ H' (r + 2) 35 i = gJ H (r + 2) 35 i := fun i => (c 35 none i (by simp [fpCF]) rfl).2
  have j36 : ∀ i, gJ H' (r + 2) 36 i = gJ H (r + 2) 36 i := fun i => (c 36 none i (by simp [fpCF]) rfl).2
  have j43 : gJ H' (r + 2) 4 3 = gJ H (r + 2) 4 3 := (c 4 (some 3) 3 (by simp [fpCF]) rfl).2
  have j44 : gJ H' (r + 2) 4 4 = gJ H (r + 2) 4 4 := (c 4 (some 4) 4 (by simp [fpCF]) rfl).2
  have i52 : gI H' (r + 2) 5 2 = gI H (r + 2) 5 2 := (c 5 (some 2) 2 (by simp [fpCF]) rfl).1
  have j53 : gJ H' (r + 2) 5 3 = gJ H (r + 2) 5 3 := (c 5 (some 3) 3 (by simp [fpCF]) rfl).2
  have j37 : ∀ i, gJ H' (r + 2) 37 i = gJ H (r + 2) 37 i := fun i => (c 37 none i (by simp [fpCF]) rfl).2
  have j38 : ∀ i, gJ H' (r + 2) 38 i = gJ H (r + 2) 38 i := fun i => (c 38 none i (by simp [fpCF]) rfl).2
  unfold CF CL CW CT CUp CPt CLg CTb at h ⊢
  simp only [i1, i13, i14, j18, j19, j21, j2, i27, i39, i310, j311, i29, i30, j20, j22, j34, j35, j36, j43, j44, i52, j53, j37, j38]
  exact h
def fpMF : List (Nat × Option Nat) := [(11, none), (12, none), (13, none), (14, none), (15, none), (16, none), (17, none), (18, none), (19, none), (20, none), (21, none), (22, none), (23, none), (24, none), (25, none), (26, none)]
theorem MF_ch {rs : Nat → Bool} {L : List (Nat × Nat × Option Nat)} {H H' : Hp} {r : Nat} {a : Rt} (h : MF r a H) (q : Ch rs L H H') (hL : nol L 0 fpMF = true) : MF r a H' := by
  have c : ∀ k i, (k, none) ∈ fpMF → gI H' 0 k i = gI H 0 k i ∧ gJ H' 0 k i = gJ H 0 k i := fun k i hk => q.m hL hk rfl
  have i11 : ∀ i, gI H' 0 11 i = gI H 0 11 i := fun i => (c 11 i (by simp [fpMF])).1
  have j12 : ∀ i, gJ H' 0 12 i = gJ H 0 12 i := fun i => (c 12 i (by simp [fpMF])).2
  have i13 : ∀ i, gI H' 0 13 i = gI H 0 13 i := fun i => (c 13 i (by simp [fpMF])).1
  have j14 : ∀ i, gJ H' 0 14 i = gJ H 0 14 i := fun i => (c 14 i (by simp [fpMF])).2
  have j15 : ∀ i, gJ H' 0 15 i = gJ H 0 15 i := fun i => (c 15 i (by simp [fpMF])).2
  have j16 : ∀ i, gJ H' 0 16 i = gJ H 0 16 i := fun i => (c 16 i (by simp [fpMF])).2
  have j17 : ∀ i, gJ H' 0 17 i = gJ H 0 17 i := fun i => (c 17 i (by simp [fpMF])).2
  have j18 : ∀ i, gJ H' 0 18 i = gJ H 0 18 i := fun i => (c 18 i (by simp [fpMF])).2
  have j19 : ∀ i, gJ H' 0 19 i = gJ H 0 19 i := fun i => (c 19 i (by simp [fpMF])).2
  have j20 : ∀ i, gJ H' 0 20 i = gJ H 0 20 i := fun i => (c 20 i (by simp [fpMF])).2
  have j21 : ∀ i, gJ H' 0 21 i = gJ H 0 21 i := fun i => (c 21 i (by simp [fpMF])).2
  have j22 : ∀ i, gJ H' 0 22 i = gJ H 0 22 i := fun i => (c 22 i (by simp [fpMF])).2
  have j23 : ∀ i, gJ H' 0 23 i = gJ H 0 23 i := fun i => (c 23 i (by simp [fpMF])).2
  have i24 : ∀ i, gI H' 0 24 i = gI H 0 24 i := fun i => (c 24 i (by simp [fpMF])).1
  have j25 : ∀ i, gJ H' 0 25 i = gJ H 0 25 i := fun i => (c 25 i (by simp [fpMF])).2
  have j26 : ∀ i, gJ H' 0 26 i = gJ H 0 26 i := fun i => (c 26 i (by simp [fpMF])).2
  unfold MF MW MP MLg MTb at h ⊢
  simp only [i11, j12, i13, j14, j15, j16, j17, j18, j19, j20, j21, j22, j23, i24, j25, j26]
  exact h
/-- another routine's rows of the reference -/
theorem MR_o {r r' : Nat} {a : Rt} {H H' : Hp} (h : MR r' a H) (hp : PR a) (q : Rs r H H') (hr : r' ≠ r) : MR r' a H' := by
  obtain ⟨hg, hd, hb, hf⟩ := h
  have w := hp.1
  have hB := w.1
  have hE := w.2.1
  refine ⟨MG_o hg w q hr, ?_, fun e he => ?_, fun z => ?_⟩
  · rw [(q 3 r' hr).1]; exact hd
  · rw [(q 10 _ (by show ¬ (40 * r ≤ 40 * r' + e ∧ 40 * r' + e < 40 * r + 40); omega)).1]; exact hb e he
  · obtain ⟨⟨w1, w2, w3, w4⟩, ⟨p1, p2, p3, p4⟩, ⟨g1, g2, g3⟩, t1, t2, t3⟩ := hf z
    have h16 := (hp.2.2.2 z).2.2.2
    have s20 : ∀ b, b < 20 → ¬ (20 * r ≤ 20 * r' + b ∧ 20 * r' + b < 20 * r + 20) := by omega
    have s40 : ∀ e, e < 40 → ¬ (40 * r ≤ 40 * r' + e ∧ 40 * r' + e < 40 * r + 40) := by omega
    have s16 : ∀ k, k < 16 → ¬ (16 * r ≤ 16 * r' + k ∧ 16 * r' + k < 16 * r + 16) := by omega
    refine ⟨⟨fun b hb => ?_, fun b hb => ?_, fun e he => ?_, ?_⟩, ⟨fun e he => ?_, ?_, ?_, fun b hb => ?_⟩, ⟨fun e he => ?_, fun b hb => ?_, ?_⟩, ?_, fun k hk => ?_, ?_⟩
    · rw [(q 15 _ (s20 b (by omega))).2]; exact w1 b hb
    · rw [(q 16 _ (s20 b (by omega))).2]; exact w2 b hb
    · rw [(q 17 _ (s40 e (by omega))).2]; exact w3 e he
    · rw [(q 14 r' hr).2]; exact w4
    · rw [(q 11 _ (s40 e (by omega))).1]; exact p1 e he
    · rw [(q 12 r' hr).2]; exact p2
    · rw [(q 13 r' hr).1]; exact p3
    · rw [(q 18 _ (s20 b (by omega))).2]; exact p4 b hb
    · rw [(q 22 _ (s40 e he)).2, (q 23 _ (s40 e he)).2]; exact g1 e he
    · rw [(q 21 _ (s20 b hb)).2]; exact g2 b hb
    · rw [(q 19 r' hr).2]; exact g3
    · rw [(q 24 r' hr).1]; exact t1
    · rw [(q 25 _ (s16 k (by omega))).2, (q 26 _ (s16 k (by omega))).2]; exact t2 k hk
    · rw [(q 20 r' hr).2]; exact t3
