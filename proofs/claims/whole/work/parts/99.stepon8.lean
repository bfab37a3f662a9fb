/-- steps, one after another -/
noncomputable def itA (nr : Nat) (ch : Int32) (s : StT) : Nat → StT
  | 0 => s
  | n + 1 => stA nr ch (itA nr ch s n)
/-- the number of steps that are done -/
def Dn (nr : Nat) (ch : Int32) (s : StT) (mo n : Nat) : Prop := n ≤ mo ∧ (∀ j, j < n → wT (itA nr ch s j).2.1 = 1) ∧ (n = mo ∨ wT (itA nr ch s n).2.1 ≠ 1)
theorem Dn_un {nr : Nat} {ch : Int32} {s : StT} {mo a b : Nat} (ha : Dn nr ch s mo a) (hb : Dn nr ch s mo b) : a = b := by
  obtain ⟨a1, a2, a3⟩ := ha
  obtain ⟨b1, b2, b3⟩ := hb
  rcases Nat.lt_trichotomy a b with q | q | q
  · rcases a3 with z | z
    · omega
    · exact absurd (b2 a q) z
  · exact q
  · rcases b3 with z | z
    · omega
    · exact absurd (a2 b q) z
theorem wN_st (nr : Nat) (ch : Int32) (s : StT) : wN (stA nr ch s).2.1 = wN s.2.1 := by
  unfold stA
  repeat' split
  all_goals rfl
theorem wN_it (nr : Nat) (ch : Int32) (s : StT) (n : Nat) : wN (itA nr ch s n).2.1 = wN s.2.1 := by
  induction n with
  | zero => rfl
  | succ n ih => exact (wN_st nr ch _).trans ih
def setN (w : Wk) (n : Int32) : Wk := (wF w, wR w, wB w, wS w, wT w, n, wP w)
theorem setN_self (w : Wk) : setN w (wN w) = w := rfl
theorem PK_it {nr : Nat} {ch : Int32} {s : StT} (hP : ∀ r, r < nr → PR (s.1 r)) (hK : PK nr s.1 s.2.1) (hPr : ∀ n r, r < nr → PR ((itA nr ch s n).1 r)) {n : Nat} (hw : ∀ j, j < n → wT (itA nr ch s j).2.1 = 1) : PK nr (itA nr ch s n).1 (itA nr ch s n).2.1 := by
  induction n with
  | zero => exact hK
  | succ n ih => exact PK_st (hPr n) (ih (fun j hj => hw j (by omega))) (hw n (by omega))
theorem PR_st {nr : Nat} {ch : Int32} {s : StT} (hP : ∀ r, r < nr → PR (s.1 r)) : ∀ r, r < nr → PR ((stA nr ch s).1 r) := by
  have hup : ∀ (ρ : Nat → Rt) (q : Nat) (a : Rt), (∀ r, r < nr → PR (ρ r)) → (q < nr → PR a) → ∀ r, r < nr → PR (upR ρ q a r) := by
    intro ρ q a h1 h2 r hr
    by_cases z : r = q
    · rw [z, upR_eq]; exact h2 (by omega)
    · rw [upR_ne z]; exact h1 r hr
  have hT : ∀ (a : Rt) (n : Int64), PR a → PR (setT a (cntTb (rtb a) n)) := fun a n h => ⟨h.1, h.2.1, h.2.2.1, fun z => ⟨(h.2.2.2 z).1, (h.2.2.2 z).2.1, (h.2.2.2 z).2.2.1, cntTb_le (h.2.2.2 z).2.2.2⟩⟩
  have hcr : ∀ (ρ : Nat → Rt) (w : Wk) (e : Nat), (∀ r, r < nr → PR (ρ r)) → ∀ r, r < nr → PR (crR ρ w e r) := by
    intro ρ w e h1
    refine hup ρ _ _ h1 (fun hq => ?_)
    unfold crA
    split
    · exact hT (setLg (ρ _) (goL (ρ _) e)) _ (PR_L (h1 _ hq))
    · exact PR_L (h1 _ hq)
  have hcn : ∀ (ρ : Nat → Rt) (w : Wk), (∀ r, r < nr → PR (ρ r)) → ∀ r, r < nr → PR (cnR ρ w r) := fun ρ w h1 => hup ρ _ _ h1 (fun hq => hT _ _ (h1 _ hq))
  unfold stA
  split
  · exact hcr _ _ _ hP
  · split
    · exact hcr _ _ _ hP
    · split
      · split
        · exact hup _ _ _ hP (fun hq => PR_L (hP _ hq))
        · exact fun r hr => PR_L (hP r hr)
      · split
        · split
          · exact hcn _ _ hP
          · exact hcr _ _ _ (hcn _ _ hP)
        · exact fun r hr => PR_L (hcn _ _ hP r hr)
theorem PR_it {nr : Nat} {ch : Int32} {s : StT} (hP : ∀ r, r < nr → PR (s.1 r)) (n : Nat) : ∀ r, r < nr → PR ((itA nr ch s n).1 r) := by
  induction n with
  | zero => exact hP
  | succ n ih => exact PR_st ih
theorem c_stepOn_13 {nr mo : Nat} {ch : Int32} {ρ : Nat → Rt} {w : Wk} {H : Hp} {k : Int32 → Hp → Option (Int32 × Hp)} {Q : Int32 → Hp → Prop} (h : T8 nr ρ w H) (hK : PK nr ρ w) (hmo : mo ≤ 10000) (h7 : gI H 1 2 7 = 0) (h8 : gI H 1 2 8 = ch) (K : ∀ n H', Dn nr ch (ρ, w, 0) mo n → T8 nr (itA nr ch (ρ, w, 0) n).1 (itA nr ch (ρ, w, 0) n).2.1 H' → ok (k (nI n) H') Q) : ok (L_X6_stepOn_13 nr (nI mo) k FU 0 H) Q := by
  have hP : ∀ r, r < nr → PR (ρ r) := fun r hr => (h.2.1 r hr).1
  refine ok_w1 (fun d a H' => ∃ n, n + d = mo ∧ a = nI n ∧ (∀ j, j < n → wT (itA nr ch (ρ, w, 0) j).2.1 = 1) ∧ T8 nr (itA nr ch (ρ, w, 0) n).1 (itA nr ch (ρ, w, 0) n).2.1 H' ∧ gI H' 1 2 7 = (itA nr ch (ρ, w, 0) n).2.2 ∧ gI H' 1 2 8 = ch) ?_ (d := mo) ⟨0, by omega, rfl, fun j hj => absurd hj (Nat.not_lt_zero _), h, h7, h8⟩ (FUgt (by omega))
  rintro d m a H1 ⟨n, hnd, rfl, hw, t, t7, t8⟩ K1
  have hKn := PK_it hP hK (PR_it hP) hw
  rw [L_X6_stepOn_13]
  by_cases hd : d = 0
  · rw [if_pos (by rw [nI_le_iff (by omega) (by omega)]; omega)]
    exact K n H1 ⟨by omega, hw, Or.inl (by omega)⟩ t
  · rw [if_neg (by rw [nI_le_iff (by omega) (by omega)]; omega), t.2.2.2.1]
    have h4 := hKn.2.1
    by_cases h1 : wT (itA nr ch (ρ, w, 0) n).2.1 = 1
    · rw [if_pos (by rw [h1]; rfl)]
      refine ok_b (c_step t hKn h1 t7 t8) ?_
      rintro _ H2 ⟨u, u7, u8⟩
      simp only [vl]
      exact K1 (d - 1) _ _ (by omega) ⟨n + 1, by omega, nIadd n 1, fun j hj => by
        by_cases z : j = n
        · rw [z]; exact h1
        · exact hw j (by omega), u, u7, u8⟩
    · rw [if_neg (by show ¬ nI (wT (itA nr ch (ρ, w, 0) n).2.1) = nI 1; rw [nI_inj (by omega) (by omega)]; exact h1)]
      exact K n H1 ⟨by omega, hw, Or.inr h1⟩ t
theorem c_stepOn {nr mo : Nat} {ch : Int32} {ρ : Nat → Rt} {w : Wk} {H : Hp} (h : T8 nr ρ w H) (hK : PK nr ρ w) (hmo : mo ≤ 10000) : ok (f_X6_stepOn nr (nI mo) ch H) (fun x H' => ∃ n, x = nI n ∧ Dn nr ch (ρ, w, 0) mo n ∧ T8 nr (itA nr ch (ρ, w, 0) n).1 (setN (itA nr ch (ρ, w, 0) n).2.1 (wN w + nI n)) H') := by
  unfold f_X6_stepOn
  rw [hl_e, hl_e]
  have q0 : Ch TT LWK H (sI (sI H 1 2 8 ch) 1 2 7 0) := Ch.sI rfl rfl (Ch.sI rfl rfl (Ch.rf H))
  have h0 : T8 nr ρ w (sI (sI H 1 2 8 ch) 1 2 7 0) := by
    obtain ⟨k1, k2, k3, k4, k5⟩ := id h.2.2
    refine T8_w h q0 ⟨?_, ?_, ?_, ?_, fun f hf => ?_⟩
    · rw [gI_ne (by omega), gI_ne (by omega)]; exact k1
    · rw [gI_ne (by omega), gI_ne (by omega)]; exact k2
    · rw [gI_ne (by omega), gI_ne (by omega)]; exact k3
    · rw [gI_ne (by omega), gI_ne (by omega)]; exact k4
    · rw [gR_sI, gR_sI, gI_ne (by omega), gI_ne (by omega), gJ_sI, gJ_sI]; exact k5 f hf
  refine c_stepOn_13 (ch := ch) h0 hK hmo (gI_eq _ _ _ _ _) (by rw [gI_ne (by omega), gI_eq]) (fun n H' hD t => ?_)
  obtain ⟨k1, k2, k3, k4, k5⟩ := id t.2.2
  rw [hl_e]
  refine ok_s ⟨n, rfl, hD, T8_w t (Ch.sI rfl rfl (Ch.rf _)) ⟨?_, ?_, ?_, ?_, fun f hf => ?_⟩⟩
  · rw [gI_ne (by omega)]; exact k1
  · rw [gI_ne (by omega)]; exact k2
  · rw [gI_eq, k3, wN_it]; rfl
  · rw [gI_ne (by omega)]; exact k4
  · rw [gR_sI, gI_ne (by omega), gJ_sI]; exact k5 f hf
