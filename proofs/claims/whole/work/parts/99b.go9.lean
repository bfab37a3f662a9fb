theorem stA_N {nr : Nat} {ch fk x : Int32} {ρ : Nat → Rt} {w : Wk} : (stA nr ch (ρ, setN w x, fk)).1 = (stA nr ch (ρ, w, fk)).1 ∧ (stA nr ch (ρ, setN w x, fk)).2.1 = setN (stA nr ch (ρ, w, fk)).2.1 x ∧ (stA nr ch (ρ, setN w x, fk)).2.2 = (stA nr ch (ρ, w, fk)).2.2 := by
  have e0 : tpK (ρ, setN w x, fk) = tpK (ρ, w, fk) := rfl
  have ec : calN (ρ, setN w x, fk) = calN (ρ, w, fk) := rfl
  have ef : wF (setN w x) = wF w := rfl
  unfold stA
  rw [e0, ec]
  dsimp only
  rw [ef]
  by_cases k0 : tpK (ρ, w, fk) = 0
  · rw [if_pos k0, if_pos k0]; exact ⟨rfl, rfl, rfl⟩
  · rw [if_neg k0, if_neg k0]
    by_cases k1 : tpK (ρ, w, fk) = 1
    · rw [if_pos k1, if_pos k1]; exact ⟨rfl, rfl, rfl⟩
    · rw [if_neg k1, if_neg k1]
      by_cases k2 : tpK (ρ, w, fk) = 2
      · rw [if_pos k2, if_pos k2]
        by_cases hc : calN (ρ, w, fk) < nr ∧ rD (ρ (calN (ρ, w, fk))) = true ∧ wF w < 30
        · rw [if_pos hc, if_pos hc]; exact ⟨rfl, rfl, rfl⟩
        · rw [if_neg hc, if_neg hc]; exact ⟨rfl, rfl, rfl⟩
      · rw [if_neg k2, if_neg k2]
        by_cases k3 : tpK (ρ, w, fk) = 3
        · rw [if_pos k3, if_pos k3]
          by_cases hf : wF w = 1
          · rw [if_pos hf, if_pos hf]; exact ⟨rfl, rfl, rfl⟩
          · rw [if_neg hf, if_neg hf]; exact ⟨rfl, rfl, rfl⟩
        · rw [if_neg k3, if_neg k3]; exact ⟨rfl, rfl, rfl⟩
theorem m_go_32 {nr mo : Nat} {ch : Int32} {ρ : Nat → Rt} {w : Wk} {H : Hp} {k : Int32 → Hp → Option (Int32 × Hp)} {Q : Int32 → Hp → Prop} (h : T9 nr ρ w H) (hK : PK nr ρ w) (hmo : mo ≤ 10000) (K : ∀ n H', Dn nr ch (ρ, w, 0) mo n → T9 nr (itA nr ch (ρ, w, 0) n).1 (setN (itA nr ch (ρ, w, 0) n).2.1 (wN w + nI n)) H' → ok (k (nI n) H') Q) : ok (L_X9_go_32 (nI mo) ch k FU 0 0 H) Q := by
  have hP : ∀ r, r < nr → PR (ρ r) := fun r hr => (h.2.1 r hr).1
  refine ok_w2 (fun d a b H' => ∃ n, n + d = mo ∧ a = nI n ∧ b = (itA nr ch (ρ, w, 0) n).2.2 ∧ (∀ j, j < n → wT (itA nr ch (ρ, w, 0) j).2.1 = 1) ∧ T9 nr (itA nr ch (ρ, w, 0) n).1 (setN (itA nr ch (ρ, w, 0) n).2.1 (wN w + nI n)) H') ?_ (d := mo) ⟨0, by omega, rfl, rfl, fun j hj => absurd hj (Nat.not_lt_zero _), ?_⟩ (FUgt (by omega))
  · rintro d m a b H1 ⟨n, hnd, rfl, rfl, hw, t⟩ K1
    have hKn := PK_it hP hK (PR_it hP) hw
    have h4 := hKn.2.1
    rw [L_X9_go_32]
    by_cases hd : d = 0
    · rw [if_pos (by rw [nI_le_iff (by omega) (by omega)]; omega)]
      exact K n H1 ⟨by omega, hw, Or.inl (by omega)⟩ t
    · have t27 : gI H1 0 0 27 = nI (wT (itA nr ch (ρ, w, 0) n).2.1) := t.2.2.2.1
      have t29 : gI H1 0 0 29 = wN w + nI n := t.2.2.2.2.1
      rw [if_neg (by rw [nI_le_iff (by omega) (by omega)]; omega), t27]
      by_cases h1 : wT (itA nr ch (ρ, w, 0) n).2.1 = 1
      · rw [if_pos (by rw [h1]; rfl), t29]
        rw [show ∀ (x : Int32) (F : Int32 → Option (Int32 × Hp)), vl x F = F x from fun _ _ => rfl, hl_e, show ∀ (x : Int32) (F : Int32 → Option (Int32 × Hp)), vl x F = F x from fun _ _ => rfl]
        have hs : wN w + nI n + 1 = wN w + nI (n + 1) := by
          have : nI (n + 1) = nI n + 1 := nI_succ n
          rw [this, Int32.add_assoc]
        have t' : T9 nr (itA nr ch (ρ, w, 0) n).1 (setN (itA nr ch (ρ, w, 0) n).2.1 (wN w + nI (n + 1))) (sI H1 0 0 29 (wN w + nI n + 1)) := T9_k t (Or.inr (Or.inr (Or.inl rfl))) rfl rfl (by rw [if_pos rfl, hs]; rfl) rfl ⟨Nat.le_refl _, rfl, rfl, rfl⟩
        refine m_step (s := ((itA nr ch (ρ, w, 0) n).1, setN (itA nr ch (ρ, w, 0) n).2.1 (wN w + nI (n + 1)), (itA nr ch (ρ, w, 0) n).2.2)) (KK := fun x4 H8 => L_X9_go_32 (nI mo) ch k m (nI n + 1) x4 H8) t' hKn h1 (fun H2 u => ?_)
        obtain ⟨s1, s2, s3⟩ := stA_N (nr := nr) (ch := ch) (fk := (itA nr ch (ρ, w, 0) n).2.2) (x := wN w + nI (n + 1)) (ρ := (itA nr ch (ρ, w, 0) n).1) (w := (itA nr ch (ρ, w, 0) n).2.1)
        rw [s1, s2] at u
        rw [s3]
        exact K1 (d - 1) _ _ _ (by omega) ⟨n + 1, by omega, nIadd n 1, rfl, fun j hj => by
          by_cases z : j = n
          · rw [z]; exact h1
          · exact hw j (by omega), u⟩
      · rw [if_neg (by show ¬ nI (wT (itA nr ch (ρ, w, 0) n).2.1) = nI 1; rw [nI_inj (by omega) (by omega)]; exact h1)]
        exact K n H1 ⟨by omega, hw, Or.inr h1⟩ t
  · have e : setN w (wN w + nI 0) = w := by
      have : wN w + nI 0 = wN w := Int32.add_zero _
      rw [this]; rfl
    show T9 nr ρ (setN w (wN w + nI 0)) H
    rw [e]; exact h
/-- the two sides together -/
theorem Rel.s {nr : Nat} {H : Hp} (h : Rel nr H) : ∃ ρ w, S8 nr ρ w H ∧ S9 nr ρ w H := by
  obtain ⟨hRR, ρ, w, hr, hK, hC, hM⟩ := h
  exact ⟨ρ, w, ⟨hRR, fun r hr' => ⟨(hr r hr').1, (hr r hr').2.1⟩, hK, hC⟩, hRR, fun r hr' => ⟨(hr r hr').1, (hr r hr').2.2⟩, hK, hM⟩
theorem T9_c {nr : Nat} {ρ : Nat → Rt} {w : Wk} {rs : Nat → Bool} {L : List (Nat × Nat × Option Nat)} {H H' : Hp} (h : T9 nr ρ w H) (hRR : RR nr H') (q : Ch rs L H H') (hL : L.all (fun x => x.1 != 0) = true) : T9 nr ρ w H' := ⟨hRR, fun r hr => ⟨(h.2.1 r hr).1, MR_eq (h.2.1 r hr).2 (fun k i => (q.c0 hL k i).1) (fun k i => (q.c0 hL k i).2)⟩, MK_eq h.2.2 (fun k i => (q.c0 hL k i).1) (fun k i => (q.c0 hL k i).2)⟩
theorem T8_c {nr : Nat} {ρ : Nat → Rt} {w : Wk} {rs : Nat → Bool} {L : List (Nat × Nat × Option Nat)} {H H' : Hp} (h : T8 nr ρ w H) (hRR : RR nr H') (q : Ch rs L H H') (hL : L.all (fun x => x.1 == 0) = true) : T8 nr ρ w H' := ⟨hRR, fun r hr => ⟨(h.2.1 r hr).1, CR_eq (h.2.1 r hr).2 (fun k i => (q.m1 hL (r + 2) k i (by omega)).1) (fun k i => (q.m1 hL (r + 2) k i (by omega)).2.1)⟩, CK_eq h.2.2 (fun k i => (q.m1 hL 1 k i (by decide)).1) (fun k i => (q.m1 hL 1 k i (by decide)).2.1) (fun k i => (q.m1 hL 1 k i (by decide)).2.2)⟩
theorem Rel_of {nr : Nat} {ρ : Nat → Rt} {w : Wk} {H : Hp} (h8 : T8 nr ρ w H) (h9 : T9 nr ρ w H) (hK : PK nr ρ w) : Rel nr H := ⟨h8.1, ρ, w, fun r hr => ⟨(h8.2.1 r hr).1, (h8.2.1 r hr).2, (h9.2.1 r hr).2⟩, hK, h8.2.2, h9.2.2⟩
abbrev LGO : List (Nat × Nat × Option Nat) := [(1, 2, some 3), (1, 2, some 4), (1, 2, some 5), (1, 2, some 6), (1, 2, some 7), (1, 2, some 8), (1, 4, none), (1, 5, none), (1, 6, none), (2, 4, some 3), (2, 4, some 4), (2, 5, some 2), (2, 5, some 3), (2, 34, none), (2, 35, none), (2, 36, none), (2, 37, none), (2, 38, none)]
