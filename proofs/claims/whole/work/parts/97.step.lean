/-- a step, as both sides do it -/
def eoS (G : Gr) (b k : Nat) : Nat → Nat
  | 0 => 0
  | n + 1 => if qF G n = b ∧ oN G b n = k then n else eoS G b k n
def eo (G : Gr) (b k : Nat) : Nat := eoS G b k (qE G)
theorem eo_eq {G : Gr} {b k e : Nat} (he : e < qE G) (hF : qF G e = b) (ho : oN G b e = k) : eo G b k = e := by
  have : ∀ n, e < n → eoS G b k n = e := by
    intro n
    induction n with
    | zero => intro h; exact absurd h (Nat.not_lt_zero _)
    | succ n ih =>
      intro h
      show (if qF G n = b ∧ oN G b n = k then n else eoS G b k n) = e
      by_cases q : qF G n = b ∧ oN G b n = k
      · rw [if_pos q]
        exact cntP_un (P := fun e => decide (qF G e = b)) (decide_eq_true q.1) (decide_eq_true hF) (q.2.trans ho.symm)
      · rw [if_neg q]
        by_cases z : e = n
        · rw [z] at hF ho; exact absurd ⟨hF, ho⟩ q
        · exact ih (by omega)
  exact this _ he
theorem eo_ok {G : Gr} {b k : Nat} (hk : k < oN G b (qE G)) : eo G b k < qE G ∧ qF G (eo G b k) = b ∧ oN G b (eo G b k) = k := by
  obtain ⟨e, h1, h2, h3⟩ := cntP_ex hk
  have h4 : qF G e = b := of_decide_eq_true h2
  rw [eo_eq h1 h4 h3]
  exact ⟨h1, h4, h3⟩
def bits (ch fk : Int32) : Int32 := (ch >>> ((2 * (fk - fk / 16 * 16)) &&& 31)) &&& 3
def cho (ch fk : Int32) (n : Nat) : Nat := (bits ch fk).toNatClampNeg % n
theorem and3 (x : Int32) : ∃ j, j < 4 ∧ (x &&& 3) = nI j := by
  refine ⟨x.toBitVec.toNat % 4, Nat.mod_lt _ (by decide), ?_⟩
  apply Int32.toBitVec_inj.mp
  rw [Int32.toBitVec_and]
  apply BitVec.eq_of_toNat_eq
  rw [BitVec.toNat_and]
  have h1 : (3 : Int32).toBitVec.toNat = 3 := by decide
  have h2 : (nI (x.toBitVec.toNat % 4)).toBitVec.toNat = x.toBitVec.toNat % 4 := by
    show (BitVec.ofNat 32 (x.toBitVec.toNat % 4)).toNat = _
    rw [BitVec.toNat_ofNat]
    omega
  rw [h1, h2]
  exact Nat.and_two_pow_sub_one_eq_mod x.toBitVec.toNat 2
theorem rem_n {j n : Nat} (hj : j < 4) (h1 : 2 ≤ n) (h2 : n ≤ 4) : nI j - nI j / nI n * nI n = nI (j % n) := by
  have hj' : j = 0 ∨ j = 1 ∨ j = 2 ∨ j = 3 := by omega
  have hn' : n = 2 ∨ n = 3 ∨ n = 4 := by omega
  rcases hj' with rfl | rfl | rfl | rfl <;> rcases hn' with rfl | rfl | rfl <;> decide +kernel
theorem cho_eq (ch fk : Int32) {n : Nat} (h1 : 2 ≤ n) (h2 : n ≤ 4) : bits ch fk - bits ch fk / nI n * nI n = nI (cho ch fk n) := by
  obtain ⟨j, hj, e⟩ := and3 (ch >>> ((2 * (fk - fk / 16 * 16)) &&& 31))
  have e' : bits ch fk = nI j := e
  unfold cho
  rw [e', nI_clamp (by omega)]
  exact rem_n hj h1 h2
def cnR (ρ : Nat → Rt) (w : Wk) : Nat → Rt := upR ρ (wR w (wF w - 1)) (setT (ρ (wR w (wF w - 1))) (cntTb (rtb (ρ (wR w (wF w - 1)))) (wS w (wF w - 1))))
def lwW (w : Wk) (t : Nat) : Wk := (wF w - 1, wR w, wB w, wS w, t, wN w, wP w)
abbrev StT : Type := (Nat → Rt) × Wk × Int32
def tpK (s : StT) : Nat := qK (rG (s.1 (wR s.2.1 (wF s.2.1 - 1)))) (wB s.2.1 (wF s.2.1 - 1))
def tpG (s : StT) : Gr := rG (s.1 (wR s.2.1 (wF s.2.1 - 1)))
def tpB (s : StT) : Nat := wB s.2.1 (wF s.2.1 - 1)
def calN (s : StT) : Nat := (qC (tpG s) (tpB s)).toNatClampNeg
noncomputable def crS (s : StT) (e : Nat) (fk : Int32) : StT := (crR s.1 s.2.1 e, crW s.1 s.2.1 e, fk)
noncomputable def stA (nr : Nat) (ch : Int32) (s : StT) : StT := if tpK s = 0 then crS s (eo (tpG s) (tpB s) 0) s.2.2 else if tpK s = 1 then crS s (eo (tpG s) (tpB s) (cho ch s.2.2 (oN (tpG s) (tpB s) (qE (tpG s))))) (s.2.2 + 1) else if tpK s = 2 then (if calN s < nr ∧ rD (s.1 (calN s)) = true ∧ wF s.2.1 < 30 then (entR s.1 (calN s), entW s.2.1 (calN s), s.2.2) else (dropR s.1 s.2.1, noF s.2.1 4, s.2.2)) else if tpK s = 3 then (if wF s.2.1 = 1 then (cnR s.1 s.2.1, lwW s.2.1 2, s.2.2) else crS (cnR s.1 s.2.1, lwW s.2.1 (wT s.2.1), s.2.2) (eo (tpG (s.1, lwW s.2.1 0, s.2.2)) (tpB (s.1, lwW s.2.1 0, s.2.2)) 0) s.2.2) else (dropR (cnR s.1 s.2.1) s.2.1, noF s.2.1 3, s.2.2)
/-- the same shape -/
def shp (ρ ρ' : Nat → Rt) : Prop := ∀ r, rG (ρ' r) = rG (ρ r) ∧ rD (ρ' r) = rD (ρ r)
theorem shp_up {ρ : Nat → Rt} {r : Nat} {a : Rt} (h1 : rG a = rG (ρ r)) (h2 : rD a = rD (ρ r)) : shp ρ (upR ρ r a) := by
  intro q
  by_cases z : q = r
  · rw [z, upR_eq]; exact ⟨h1, h2⟩
  · rw [upR_ne z]; exact ⟨rfl, rfl⟩
theorem shp.tr {ρ ρ' ρ'' : Nat → Rt} (h : shp ρ ρ') (h' : shp ρ' ρ'') : shp ρ ρ'' := fun r => ⟨(h' r).1.trans (h r).1, (h' r).2.trans (h r).2⟩
theorem shp_cr (ρ : Nat → Rt) (w : Wk) (e : Nat) : shp ρ (crR ρ w e) := shp_up (rG_crA _ _ _).1 (rG_crA _ _ _).2.1
theorem shp_ent (ρ : Nat → Rt) (r : Nat) : shp ρ (entR ρ r) := shp_up rfl rfl
theorem shp_cn (ρ : Nat → Rt) (w : Wk) : shp ρ (cnR ρ w) := shp_up rfl rfl
theorem shp_drop (ρ : Nat → Rt) (w : Wk) : shp ρ (dropR ρ w) := fun _ => ⟨rfl, rfl⟩
theorem PK_sh {nr : Nat} {ρ ρ' : Nat → Rt} {w : Wk} (h : PK nr ρ w) (hs : shp ρ ρ') : PK nr ρ' w := by
  obtain ⟨h1, h2, h3, h4, h5⟩ := h
  refine ⟨h1, h2, h3, fun f hf => ?_, fun f hf => ?_⟩
  · rw [(hs _).1, (hs _).2]; exact h4 f hf
  · rw [(hs _).1]; exact h5 f hf
theorem oG_n {G : Gr} (w : WG G) (hw : why G = 0) {b : Nat} (hb : b < qB G) : (qK G b = 1 → 2 ≤ oN G b (qE G) ∧ oN G b (qE G) ≤ 4) ∧ (qK G b = 0 ∨ qK G b = 2 → oN G b (qE G) = 1) := by
  have hO := allB_iff.mp (ff4_0 (why_0 hw).1).2.1 b hb
  have h4 := w.2.2.2.2.1 b hb
  unfold oG at hO
  refine ⟨fun k1 => ?_, fun k02 => ?_⟩
  · rw [if_pos k1] at hO
    exact ⟨of_decide_eq_true hO, h4⟩
  · rw [if_neg (by omega), if_neg (by omega)] at hO
    exact of_decide_eq_true hO
theorem PK_cr {nr e : Nat} {ρ : Nat → Rt} {w : Wk} (h : PK nr ρ w) (hF : 0 < wF w) (he : qT (rG (ρ (wR w (wF w - 1)))) e < qB (rG (ρ (wR w (wF w - 1))))) : PK nr (crR ρ w e) (crW ρ w e) := by
  refine PK_sh ?_ (shp_cr ρ w e)
  obtain ⟨h1, h2, h3, h4, h5⟩ := h
  refine ⟨h1, h2, h3, fun f hf => ?_, fun f hf => ?_⟩
  · obtain ⟨a1, a2, a3⟩ := h4 f hf
    refine ⟨a1, a2, ?_⟩
    show upN (wB w) (wF w - 1) _ f < qB (rG (ρ (wR w f)))
    by_cases z : f = wF w - 1
    · rw [z, upN_eq]; exact he
    · rw [upN_ne z]; exact a3
  · have hf' : f + 1 < wF w := hf
    show qK (rG (ρ (wR w f))) (upN (wB w) (wF w - 1) _ f) = 2
    rw [upN_ne (by omega)]
    exact h5 f hf'
theorem PK_st {nr : Nat} {ch : Int32} {s : StT} (hP : ∀ r, r < nr → PR (s.1 r)) (h : PK nr s.1 s.2.1) (ht : wT s.2.1 = 1) : PK nr (stA nr ch s).1 (stA nr ch s).2.1 := by
  obtain ⟨ρ, w, fk⟩ := s
  dsimp only at hP h ht
  have h' := h
  obtain ⟨h1, h2, h3, h4, h5⟩ := h
  have hF : 0 < wF w := h3.mp ht
  obtain ⟨a1, a2, a3⟩ := h4 (wF w - 1) (by show wF w - 1 < wF w; omega)
  have pr := hP _ a1
  have wg := pr.1
  have hw := (pr.2.2.2 a2).1
  have hk := wg.2.2.1 _ a3
  obtain ⟨o1, o2⟩ := oG_n wg hw a3
  have toB : ∀ e, e < qE (rG (ρ (wR w (wF w - 1)))) → qT (rG (ρ (wR w (wF w - 1)))) e < qB (rG (ρ (wR w (wF w - 1)))) := fun e he => (wg.2.2.2.1 e he).2.1
  unfold stA
  by_cases k0 : tpK (ρ, w, fk) = 0
  · rw [if_pos k0]
    have k0' : qK (rG (ρ (wR w (wF w - 1)))) (wB w (wF w - 1)) = 0 := k0
    exact PK_cr h' hF (toB _ (eo_ok (by show 0 < oN (rG (ρ (wR w (wF w - 1)))) (wB w (wF w - 1)) (qE (rG (ρ (wR w (wF w - 1))))); rw [o2 (Or.inl k0')]; decide)).1)
  · rw [if_neg k0]
    by_cases k1 : tpK (ρ, w, fk) = 1
    · rw [if_pos k1]
      have k1' : qK (rG (ρ (wR w (wF w - 1)))) (wB w (wF w - 1)) = 1 := k1
      have := o1 k1'
      exact PK_cr h' hF (toB _ (eo_ok (Nat.mod_lt _ (by show 0 < oN (rG (ρ (wR w (wF w - 1)))) (wB w (wF w - 1)) (qE (rG (ρ (wR w (wF w - 1))))); omega))).1)
    · rw [if_neg k1]
      by_cases k2 : tpK (ρ, w, fk) = 2
      · rw [if_pos k2]
        by_cases hc : calN (ρ, w, fk) < nr ∧ rD (ρ (calN (ρ, w, fk))) = true ∧ wF w < 30
        · rw [if_pos hc]
          have pc := hP _ hc.1
          have b0 := (ff4_0 (why_0 (pc.2.2.2 hc.2.1).1).1).1
          refine PK_sh ?_ (shp_ent ρ _)
          refine ⟨by show wF w + 1 ≤ 30; omega, h2, ⟨fun _ => by show 0 < wF w + 1; omega, fun _ => ht⟩, fun f hf => ?_, fun f hf => ?_⟩
          · have hf' : f < wF w + 1 := hf
            show upN (wR w) (wF w) (calN (ρ, w, fk)) f < nr ∧ rD (ρ (upN (wR w) (wF w) (calN (ρ, w, fk)) f)) = true ∧ upN (wB w) (wF w) 0 f < qB (rG (ρ (upN (wR w) (wF w) (calN (ρ, w, fk)) f)))
            by_cases z : f = wF w
            · rw [z, upN_eq, upN_eq]; exact ⟨hc.1, hc.2.1, b0⟩
            · rw [upN_ne z, upN_ne z]; exact h4 f (by show f < wF w; omega)
          · have hf' : f + 1 < wF w + 1 := hf
            show qK (rG (ρ (upN (wR w) (wF w) (calN (ρ, w, fk)) f))) (upN (wB w) (wF w) 0 f) = 2
            rw [upN_ne (by omega), upN_ne (by omega)]
            by_cases z : f = wF w - 1
            · rw [z]; exact k2
            · exact h5 f (by show f + 1 < wF w; omega)
        · rw [if_neg hc]
          exact ⟨by show 0 ≤ 30; omega, by show 4 ≤ 4; omega, ⟨fun z => absurd (show (4 : Nat) = 1 from z) (by decide), fun z => absurd z (Nat.lt_irrefl 0)⟩, fun f hf => absurd hf (Nat.not_lt_zero _), fun f hf => absurd hf (Nat.not_lt_zero _)⟩
      · rw [if_neg k2]
        by_cases k3 : tpK (ρ, w, fk) = 3
        · rw [if_pos k3]
          by_cases hf1 : wF w = 1
          · rw [if_pos hf1]
            have hz : wF w - 1 = 0 := by omega
            exact ⟨by show wF w - 1 ≤ 30; omega, by show 2 ≤ 4; omega, ⟨fun z => absurd (show (2 : Nat) = 1 from z) (by decide), fun z => by have z' : 0 < wF w - 1 := z; omega⟩, fun f hf => by have hf' : f < wF w - 1 := hf; omega, fun f hf => by have hf' : f + 1 < wF w - 1 := hf; omega⟩
          · rw [if_neg hf1]
            obtain ⟨b1, b2, b3⟩ := h4 (wF w - 1 - 1) (by show wF w - 1 - 1 < wF w; omega)
            have prb := hP _ b1
            have kb : qK (rG (ρ (wR w (wF w - 1 - 1)))) (wB w (wF w - 1 - 1)) = 2 := h5 (wF w - 1 - 1) (by show wF w - 1 - 1 + 1 < wF w; omega)
            have ob := (oG_n prb.1 (prb.2.2.2 b2).1 b3).2 (Or.inr kb)
            have hl : PK nr (cnR ρ w) (lwW w (wT w)) := by
              refine PK_sh ?_ (shp_cn ρ w)
              refine ⟨by show wF w - 1 ≤ 30; omega, h2, ⟨fun _ => by show 0 < wF w - 1; omega, fun _ => ht⟩, fun f hf => h4 f (by have hf' : f < wF w - 1 := hf; show f < wF w; omega), fun f hf => h5 f (by have hf' : f + 1 < wF w - 1 := hf; show f + 1 < wF w; omega)⟩
            refine PK_cr hl (by show 0 < wF w - 1; omega) ?_
            have hg := (shp_cn ρ w (wR w (wF w - 1 - 1))).1
            show qT (rG (cnR ρ w (wR w (wF w - 1 - 1)))) _ < qB (rG (cnR ρ w (wR w (wF w - 1 - 1))))
            rw [hg]
            exact (prb.1.2.2.2.1 _ (eo_ok (by show 0 < oN (rG (ρ (wR w (wF w - 1 - 1)))) (wB w (wF w - 1 - 1)) (qE (rG (ρ (wR w (wF w - 1 - 1))))); rw [ob]; decide)).1).2.1
        · rw [if_neg k3]
          exact ⟨by show 0 ≤ 30; omega, by show 3 ≤ 4; omega, ⟨fun z => absurd (show (3 : Nat) = 1 from z) (by decide), fun z => absurd z (Nat.lt_irrefl 0)⟩, fun f hf => absurd hf (Nat.not_lt_zero _), fun f hf => absurd hf (Nat.not_lt_zero _)⟩
