/-- the reference solves -/
def uk (G : Gr) (kn : Nat → Bool) (u j : Nat) : Bool := decide (lF G j ≠ lT G j ∧ (lF G j = u ∨ lT G j = u) ∧ kn j = false)
theorem uk_s {G : Gr} {kn : Nat → Bool} {u i : Nat} (h : uk G kn u i = false) : cntP (uk G kn u) (i + 1) = cntP (uk G kn u) i := by rw [cntP_s, if_neg (bf_ne h)]; rfl
theorem netD_s (G : Gr) (D : Nat → Bool) (x : Nat → Int64) (u n : Nat) : netD G D x u (n + 1) = netD G D x u n + (if D n = true then dlt G u n (x n) else 0) := rfl
theorem dlt_l {G : Gr} {u l : Nat} (v : Int64) (h : lF G l = lT G l) : dlt G u l v = 0 := by
  unfold dlt
  rw [h]; grind
theorem nod_le {G : Gr} (w : WG G) {x : Nat} (h : nod G x) : x ≤ 20 := by
  have := w.1
  rcases h with h | h <;> omega
theorem x9_so_82 {G : Gr} {kn : Nat → Bool} {x : Nat → Int64} {u : Nat} {b1 b2 b3 : Int32} {k : Int32 → Int32 → Int64 → Hp → Option (Int64 × Hp)} {Q : Int64 → Hp → Prop} {H : Hp} (w : WG G) (h0 : 0 < qB G) (hu : u ≤ 20) (h43 : gI H 0 0 43 = nI (lk G)) (hy : LY G kn x (lk G) H) (K : ∀ z5, (0 < cntP (uk G kn u) (lk G) → ∃ l, l < lk G ∧ z5 = nI l ∧ uk G kn u l = true) → ok (k z5 (nI (cntP (uk G kn u) (lk G))) (netD G kn x u (lk G)) H) Q) : ok (L_X9_solve_82 b1 b2 b3 (nI u) k FU (-1) 0 0 0 H) Q := by
  have hB := w.1
  have hE := w.2.1
  have hlk := lk_le w
  refine ok_g4 (lk G) (fun i a b c H' => H' = H ∧ b = nI (cntP (uk G kn u) i) ∧ c = netD G kn x u i ∧ (0 < cntP (uk G kn u) i → ∃ l, l < i ∧ a = nI l ∧ uk G kn u l = true)) ?_ ?_ rfl ⟨rfl, rfl, rfl, fun z => absurd z (Nat.lt_irrefl _)⟩ (FUgt (by omega))
  · rintro i n a b c H1 hi ⟨rfl, rfl, rfl, hl⟩ K1
    obtain ⟨a1, a2, a3, a4⟩ := hy i hi
    have hl' : 0 < cntP (uk G kn u) i → ∃ l, l < i + 1 ∧ a = nI l ∧ uk G kn u l = true := fun z => by
      obtain ⟨l, y1, y2, y3⟩ := hl z
      exact ⟨l, by omega, y2, y3⟩
    have n1 := nod_le w (lF_nod w i)
    have n2 := nod_le w (lT_nod w h0 i)
    rw [L_X9_solve_82, h43, if_neg (by rw [nI_le_iff (by omega) (by omega)]; omega), gd_nI (by omega) (by decide), gd_nI (by omega) (by decide), nI_clamp (n := i) (by omega), a1, a2]
    by_cases qs : lF G i = lT G i
    · rw [if_pos (by rw [qs])]
      have huk : uk G kn u i = false := decide_eq_false (fun z => z.1 qs)
      simp only [vl, l1, nIadd]
      exact K1 _ _ _ _ ⟨rfl, by rw [uk_s huk], by rw [netD_s, dlt_l _ qs, ite_self, Int64.add_zero], fun z => by rw [uk_s huk] at z; exact hl' z⟩
    · rw [if_neg (by rw [nI_inj (by omega) (by omega)]; exact qs), gd_nI (by omega) (by decide)]
      simp only [jn]
      by_cases qf : lF G i = u
      · rw [if_pos (by rw [qf])]
        rw [gd_nI (by omega) (by decide), a3]
        cases hk : kn i with
        | false =>
          rw [if_pos (show bI false = 0 from rfl)]
          simp only [vl, l1, nIadd]
          have huk : uk G kn u i = true := decide_eq_true ⟨qs, (Or.inl qf : lF G i = u ∨ lT G i = u), hk⟩
          exact K1 _ _ _ _ ⟨rfl, by rw [cntP_s, if_pos huk], by rw [netD_s, if_neg (by rw [hk]; decide), Int64.add_zero], fun _ => ⟨i, by omega, rfl, huk⟩⟩
        | true =>
          have huk : uk G kn u i = false := decide_eq_false (fun z => by have := z.2.2; rw [hk] at this; cases this)
          rw [if_neg (show ¬ bI true = 0 by decide), gd_nI (by omega) (by decide), a2]
          by_cases qt : lT G i = u
          · rw [if_pos (by rw [qt]), gd_nI (by omega) (by decide), a4 hk]
            simp only [vl, l1, nIadd]
            exact K1 _ _ _ _ ⟨rfl, by rw [uk_s huk], by rw [netD_s, if_pos hk, dlt_T _ qt (fun z => qs (z.trans qt.symm))], fun z => by rw [uk_s huk] at z; exact hl' z⟩
          · rw [if_neg (by rw [nI_inj (by omega) (by omega)]; exact qt), gd_nI (by omega) (by decide), a4 hk]
            simp only [vl, l1, nIadd]
            exact K1 _ _ _ _ ⟨rfl, by rw [uk_s huk], by rw [netD_s, if_pos hk, dlt_F _ ((Or.inl qf : lF G i = u ∨ lT G i = u).elim id (fun z => absurd z qt)) qt], fun z => by rw [uk_s huk] at z; exact hl' z⟩
      · rw [if_neg (by rw [nI_inj (by omega) (by omega)]; exact qf), gd_nI (by omega) (by decide)]
        by_cases qt0 : lT G i = u
        · rw [if_pos (by rw [qt0])]
          rw [gd_nI (by omega) (by decide), a3]
          cases hk : kn i with
          | false =>
            rw [if_pos (show bI false = 0 from rfl)]
            simp only [vl, l1, nIadd]
            have huk : uk G kn u i = true := decide_eq_true ⟨qs, (Or.inr qt0 : lF G i = u ∨ lT G i = u), hk⟩
            exact K1 _ _ _ _ ⟨rfl, by rw [cntP_s, if_pos huk], by rw [netD_s, if_neg (by rw [hk]; decide), Int64.add_zero], fun _ => ⟨i, by omega, rfl, huk⟩⟩
          | true =>
            have huk : uk G kn u i = false := decide_eq_false (fun z => by have := z.2.2; rw [hk] at this; cases this)
            rw [if_neg (show ¬ bI true = 0 by decide), gd_nI (by omega) (by decide), a2]
            by_cases qt : lT G i = u
            · rw [if_pos (by rw [qt]), gd_nI (by omega) (by decide), a4 hk]
              simp only [vl, l1, nIadd]
              exact K1 _ _ _ _ ⟨rfl, by rw [uk_s huk], by rw [netD_s, if_pos hk, dlt_T _ qt (fun z => qs (z.trans qt.symm))], fun z => by rw [uk_s huk] at z; exact hl' z⟩
            · rw [if_neg (by rw [nI_inj (by omega) (by omega)]; exact qt), gd_nI (by omega) (by decide), a4 hk]
              simp only [vl, l1, nIadd]
              exact K1 _ _ _ _ ⟨rfl, by rw [uk_s huk], by rw [netD_s, if_pos hk, dlt_F _ ((Or.inr qt0 : lF G i = u ∨ lT G i = u).elim id (fun z => absurd z qt)) qt], fun z => by rw [uk_s huk] at z; exact hl' z⟩
        · rw [if_neg (by rw [nI_inj (by omega) (by omega)]; exact qt0)]
          have huk : uk G kn u i = false := decide_eq_false (fun z => z.2.1.elim qf qt0)
          simp only [vl, l1, nIadd]
          exact K1 _ _ _ _ ⟨rfl, by rw [uk_s huk], by rw [netD_s, dlt_0 _ qt0 qf, ite_self, Int64.add_zero], fun z => by rw [uk_s huk] at z; exact hl' z⟩
  · rintro n a b c H1 ⟨rfl, rfl, rfl, hl⟩
    rw [L_X9_solve_82, h43, if_pos (by rw [nI_le_iff (by omega) (by omega)]; omega)]
    exact K _ hl
theorem x9_so_211 {r u : Nat} {G : Gr} {ls st : Nat → Int64} {op : Nat → Nat} {b2 b5 : Int32} {y : Int64} {k : Int64 → Hp → Option (Int64 × Hp)} {Q : Int64 → Hp → Prop} {H : Hp} (hr : r < 8) (h : gI H 0 1 r = nI (qB G)) (w : WG G) (hu : nod G u) (hs : ∀ b, b < qB G → gJ H 0 21 (20 * r + b) = st b) (ho : ∀ b, b < qB G → f_X9_openOf (nI r) (nI b) H = some (nI (op b), H)) (h3 : ∀ b, b < qB G → op b ≤ 30 ∧ ls b = st b + lN (op b)) (K : ok (k (y + s0 ls (qB G) u) H) Q) : ok (L_X9_solve_211 (nI r) b2 (nI u) b5 k FU y 0 H) Q := by
  have hB := w.1
  have hu20 := nod_le w hu
  refine ok_g2 (qB G) (fun i z H' => H' = H ∧ z = y + (if u = 20 then sumJ ls i else if u < i then - ls u else 0)) ?_ ?_ rfl ⟨rfl, ?_⟩ (FUgt (by omega))
  · rintro i n z H1 hi ⟨rfl, rfl⟩ K1
    obtain ⟨q1, q2⟩ := h3 i hi
    rw [L_X9_solve_211, gd_nI (by omega) (by decide), nI_clamp (n := r) (by omega), h, if_neg (by rw [nI_le_iff (by omega) (by omega)]; omega), l20, nImul, nIadd, gd_nI (by omega) (by decide), ho i hi, bnd_s, nI_clamp (n := 20 * r + i) (by omega), hs i hi, nI_l (by omega), ← q2]
    simp only [vl, l1, nIadd]
    by_cases c1 : u = 20
    · rw [if_pos (by rw [c1])]
      exact K1 _ _ ⟨rfl, by rw [if_pos c1, if_pos c1, sumJ_s, Int64.add_assoc]⟩
    · rw [if_neg (by rw [nI_inj (by omega) (by omega)]; exact c1)]
      by_cases c2 : u = i
      · rw [if_pos (by rw [c2])]
        refine K1 _ _ ⟨rfl, ?_⟩
        rw [if_neg c1, if_neg c1, if_neg (by omega), if_pos (by omega), c2]
        grind
      · rw [if_neg (by rw [nI_inj (by omega) (by omega)]; exact c2)]
        refine K1 _ _ ⟨rfl, ?_⟩
        rw [if_neg c1, if_neg c1]
        by_cases c3 : u < i
        · rw [if_pos c3, if_pos (by omega)]
        · rw [if_neg c3, if_neg (by omega)]
  · rintro n z H1 ⟨rfl, rfl⟩
    rw [L_X9_solve_211, gd_nI (by omega) (by decide), nI_clamp (n := r) (by omega), h, if_pos (by rw [nI_le_iff (by omega) (by omega)]; omega)]
    have e : (if u = 20 then sumJ ls (qB G) else if u < qB G then - ls u else 0) = s0 ls (qB G) u := by
      unfold s0
      by_cases c1 : u = 20
      · rw [if_pos c1, if_pos c1]
      · rw [if_neg c1, if_neg c1, if_pos (hu.elim id (fun z => absurd z c1))]
    rw [e]
    exact K
  · by_cases c1 : u = 20
    · rw [if_pos c1]; exact (Int64.add_zero _).symm
    · rw [if_neg c1, if_neg (Nat.not_lt_zero _)]; exact (Int64.add_zero _).symm
theorem cntP_1 {P : Nat → Bool} {n l j : Nat} (h : cntP P n = 1) (hl : l < n) (hj : j < n) (pl : P l = true) (pj : P j = true) : l = j := by
  rcases Nat.lt_trichotomy l j with q | q | q
  · have a := cntP_lt q pl
    have b := cntP_lt hj pj
    omega
  · exact q
  · have a := cntP_lt q pj
    have b := cntP_lt hl pl
    omega
theorem cntP_u1 {P : Nat → Bool} {n l : Nat} (hl : l < n) (pl : P l = true) (h : ∀ j, j < n → P j = true → j = l) : cntP P n = 1 := by
  induction n with
  | zero => exact absurd hl (Nat.not_lt_zero _)
  | succ n ih =>
    rw [cntP_s]
    by_cases q : P n = true
    · have e := h n (by omega) q
      rw [if_pos q]
      have z : cntP P n = 0 := by
        rw [cntP_congr (Q := fun _ => false) (fun i hi => by
          cases hp : P i with
          | false => rfl
          | true => have := h i (by omega) hp; omega)]
        clear ih hl h q e
        induction n with
        | zero => rfl
        | succ n ih => rw [cntP_s, ih]; rfl
      rw [z]
    · have hne : l ≠ n := fun z => q (z ▸ pl)
      rw [if_neg q, ih (by omega) (fun j hj => h j (by omega))]
theorem cnt_up {P : Nat → Bool} {n l : Nat} (hl : l < n) (pl : P l = false) : cntP (upB P l true) n = cntP P n + 1 := (cntP_one hl pl (show upB P l true l = true from if_pos rfl) (fun i _ hi => (show upB P l true i = P i from if_neg hi).symm)).symm
theorem so_val {G : Gr} {ls cN x : Nat → Int64} {kn : Nat → Bool} {u l : Nat} (hb : Bal G ls cN x) (hu : nod G u) (h1 : cntP (uk G kn u) (lk G) = 1) (hl : l < lk G) (hul : uk G kn u l = true) : netD G kn x u (lk G) + dlt G u l (x l) + s0 ls (qB G) u = 0 := by
  have h := hb.2 u hu
  have hkl := (of_decide_eq_true hul).2.2
  have e : netD G (fun _ => true) x u (lk G) = netD G kn x u (lk G) + dlt G u l (x l) := by
    unfold netD
    rw [sumJ_one (f := fun j => if kn j = true then dlt G u j (x j) else 0) (l := l) hl (fun j hj hne => ?_), if_pos rfl, hkl, if_neg (by decide)]
    · grind
    · rw [if_pos rfl]
      cases hk : kn j with
      | true => rw [if_pos rfl]
      | false =>
        rw [if_neg (by decide)]
        have hnu : uk G kn u j = false := by
          cases z : uk G kn u j with
          | false => rfl
          | true => exact absurd (cntP_1 h1 hj hl z hul) hne
        have hnu' := of_decide_eq_false hnu
        by_cases c1 : lF G j = lT G j
        · exact dlt_l _ c1
        · by_cases c2 : lF G j = u
          · exact absurd ⟨c1, Or.inl c2, hk⟩ hnu'
          · by_cases c3 : lT G j = u
            · exact absurd ⟨c1, Or.inr c3, hk⟩ hnu'
            · exact dlt_0 _ c3 c2
  rw [← e]; exact h
theorem so_all {G : Gr} (w : WG G) (h0 : 0 < qB G) (hk0 : qK G 0 ≠ 3) {ln uL : Nat → Nat} (h : EL G ln uL) {kn : Nat → Bool} (ht : ∀ j, j < lk G → tb G j = false → kn j = true) (h1 : ∀ u, nod G u → cntP (uk G kn u) (lk G) ≠ 1) : ∀ j, j < lk G → kn j = true := by
  have hn : ∀ l, nod G (lF G l) ∧ nod G (lT G l) := fun l => ⟨lF_nod w l, lT_nod w h0 l⟩
  have key : ∀ d k, k + d = qB G → 0 < k → kn (uL (ln k)) = true := by
    intro d
    induction d using Nat.strongRecOn with
    | ind d ih =>
      intro k hkd hk
      cases hc : kn (uL (ln k)) with
      | true => rfl
      | false =>
        exfalso
        obtain ⟨t1, j, j1, j2⟩ := h.2.2.2.2 k hk (by omega)
        have hne : ln j ≠ ln k := fun z => by have := h.2.2.1 _ _ (by omega) (by omega) z; omega
        refine h1 (ln k) (h.2.1 k (by omega)) (cntP_u1 t1.1 (decide_eq_true ⟨?_, ?_, hc⟩) ?_)
        · rcases j2 with ⟨x1, x2⟩ | ⟨x1, x2⟩
          · rw [x1, x2]; exact hne.symm
          · rw [x1, x2]; exact hne
        · rcases j2 with ⟨x1, x2⟩ | ⟨x1, x2⟩
          · exact Or.inl x1
          · exact Or.inr x1
        · intro i hi hui
          obtain ⟨u1, u2, u3⟩ := of_decide_eq_true hui
          have hti : tb G i = true := by
            cases z : tb G i with
            | true => rfl
            | false => rw [ht i hi z] at u3; cases u3
          obtain ⟨k', y1, y2, y3⟩ := up_all w h0 hk0 h hn (tT_iff.mpr ⟨hi, hti⟩)
          obtain ⟨-, j', i1, i2⟩ := h.2.2.2.2 k' y1 y2
          rw [y3] at i2
          by_cases q : k < k'
          · have := ih (qB G - k') (by omega) k' (by omega) y1
            rw [y3, u3] at this; cases this
          · have hor : ln k' = ln k ∨ ln j' = ln k := by
              rcases i2 with ⟨x1, x2⟩ | ⟨x1, x2⟩ <;> rcases u2 with z | z
              · exact Or.inl (x1.symm.trans z)
              · exact Or.inr (x2.symm.trans z)
              · exact Or.inr (x2.symm.trans z)
              · exact Or.inl (x1.symm.trans z)
            rcases hor with z | z
            · rw [← y3, z]
            · have := h.2.2.1 _ _ (by omega) (by omega) z; omega
  intro j hj
  cases hb : tb G j with
  | false => exact ht j hj hb
  | true =>
    obtain ⟨k, y1, y2, y3⟩ := up_all w h0 hk0 h hn (tT_iff.mpr ⟨hj, hb⟩)
    rw [← y3]
    exact key (qB G - k) k (by omega) y1
