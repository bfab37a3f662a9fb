theorem Ch.trn {rs rs' : Nat → Bool} {L L' : List (Nat × Nat × Option Nat)} {H0 H H1 : Hp} (hL : L'.all (fun x => L.contains x) = true) (h2 : L'.all (fun x => x.1 != 2) = true) (q : Ch rs L H0 H) (q' : Ch rs' L' H H1) : Ch rs L H0 H1 := by
  intro g k i h
  have h' : (rsg rs' g && inL L' (gc g) k i) = false := by
    cases e : (rsg rs' g && inL L' (gc g) k i) with
    | false => rfl
    | true =>
      exfalso
      rw [Bool.and_eq_true] at e
      obtain ⟨x, hx, hy⟩ := inL_iff.mp e.2
      have hne := List.all_eq_true.mp h2 x hx
      have e1 : rsg rs g = true := by
        match g, hy with
        | 0, _ => rfl
        | 1, _ => rfl
        | r + 2, hy =>
          have h5 : x.1 = 2 := hy.1
          rw [h5] at hne
          cases hne
      have e2 : inL L (gc g) k i = true := inL_iff.mpr ⟨x, List.contains_iff_mem.mp (List.all_eq_true.mp hL x hx), hy⟩
      rw [e1, e2] at h
      cases h
  have a := q g k i h
  have b := q' g k i h'
  exact ⟨b.1.trans a.1, b.2.1.trans a.2.1, b.2.2.trans a.2.2⟩
theorem rsr (r : Nat) : rsg (fun q => q == r) (r + 2) = true := beq_self_eq_true r
theorem ch_X3_hasBlock {r : Nat}  {a1 : Int32} {H0 H : Hp} {res : Int32 × Hp} (q : Ch (fun q => q == r) [] H0 H) (h : f_X3_hasBlock r a1 H = some res) : Ch (fun q => q == r) [] H0 res.2 := by
  unfold f_X3_hasBlock at h
  replace h := it_c h
  rcases h with h | h
  · cases h
    exact q
  · replace h := it_c h
    rcases h with h | h
    · cases h
      exact q
    · cases h
      exact q
theorem ch_X3_hasEdge {r : Nat}  {a1 : Int32} {H0 H : Hp} {res : Int32 × Hp} (q : Ch (fun q => q == r) [] H0 H) (h : f_X3_hasEdge r a1 H = some res) : Ch (fun q => q == r) [] H0 res.2 := by
  unfold f_X3_hasEdge at h
  replace h := it_c h
  rcases h with h | h
  · cases h
    exact q
  · replace h := it_c h
    rcases h with h | h
    · cases h
      exact q
    · cases h
      exact q
theorem ch_X3_endsIn {r : Nat}  {a1 : Int32} {H0 H : Hp} {res : Int32 × Hp} (q : Ch (fun q => q == r) [] H0 H) (h : f_X3_endsIn r a1 H = some res) : Ch (fun q => q == r) [] H0 res.2 := by
  unfold f_X3_endsIn at h
  replace h := (gd_some h).2
  replace h := it_c h
  rcases h with h | h
  · cases h
    exact q
  · replace h := (gd_some h).2
    replace h := it_c h
    rcases h with h | h
    · cases h
      exact q
    · cases h
      exact q
theorem ch_X3_addBlock {r : Nat}  {a1 : Int32} {a2 : Int32} {H0 H : Hp} {res : Int32 × Hp} (q : Ch (fun q => q == r) [(2, 1, some 10), (2, 8, none), (2, 9, none)] H0 H) (h : f_X3_addBlock r a1 a2 H = some res) : Ch (fun q => q == r) [(2, 1, some 10), (2, 8, none), (2, 9, none)] H0 res.2 := by
  unfold f_X3_addBlock at h
  replace h := it_c h
  rcases h with h | h
  · replace h := (gd_some h).2
    replace h := hl_c (P := Ch (fun q => q == r) [(2, 1, some 10), (2, 8, none), (2, 9, none)] H0) (Ch.sI (rsr r) rfl q) h
    clear q
    obtain ⟨H2, q, h⟩ := h
    replace h := (gd_some h).2
    replace h := hl_c (P := Ch (fun q => q == r) [(2, 1, some 10), (2, 8, none), (2, 9, none)] H0) (Ch.sI (rsr r) rfl q) h
    clear q
    obtain ⟨H3, q, h⟩ := h
    replace h := hl_c (P := Ch (fun q => q == r) [(2, 1, some 10), (2, 8, none), (2, 9, none)] H0) (Ch.sI (rsr r) rfl q) h
    clear q
    obtain ⟨H4, q, h⟩ := h
    cases h
    exact q
  · cases h
    exact q
theorem ch_X3_addEdge {r : Nat}  {a1 : Int32} {a2 : Int32} {a3 : Int32} {a4 : Int32} {H0 H : Hp} {res : Int32 × Hp} (q : Ch (fun q => q == r) [(2, 1, some 11), (2, 10, none), (2, 11, none), (2, 12, none), (2, 13, none), (2, 14, none), (2, 15, none), (2, 16, none)] H0 H) (h : f_X3_addEdge r a1 a2 a3 a4 H = some res) : Ch (fun q => q == r) [(2, 1, some 11), (2, 10, none), (2, 11, none), (2, 12, none), (2, 13, none), (2, 14, none), (2, 15, none), (2, 16, none)] H0 res.2 := by
  unfold f_X3_addEdge at h
  replace h := it_c h
  rcases h with h | h
  · cases h
    exact q
  · replace h := bnd_some h
    obtain ⟨w3, H2, hc, h⟩ := h
    replace q := Ch.tr (fun _ h => h) (by decide) q (ch_X3_hasBlock (Ch.rf _) hc)
    replace h := it_c h
    rcases h with h | h
    · cases h
      exact q
    · replace h := bnd_some h
      obtain ⟨w6, H5, hc, h⟩ := h
      replace q := Ch.tr (fun _ h => h) (by decide) q (ch_X3_hasBlock (Ch.rf _) hc)
      replace h := it_c h
      rcases h with h | h
      · cases h
        exact q
      · replace h := bnd_some h
        obtain ⟨w9, H8, hc, h⟩ := h
        replace q := Ch.tr (fun _ h => h) (by decide) q (ch_X3_endsIn (Ch.rf _) hc)
        replace h := it_c h
        rcases h with h | h
        · replace h := (gd_some h).2
          replace h := it_c h
          rcases h with h | h
          · replace h := (gd_some h).2
            replace h := hl_c (P := Ch (fun q => q == r) [(2, 1, some 11), (2, 10, none), (2, 11, none), (2, 12, none), (2, 13, none), (2, 14, none), (2, 15, none), (2, 16, none)] H0) (Ch.sI (rsr r) rfl q) h
            clear q
            obtain ⟨H12, q, h⟩ := h
            replace h := (gd_some h).2
            replace h := hl_c (P := Ch (fun q => q == r) [(2, 1, some 11), (2, 10, none), (2, 11, none), (2, 12, none), (2, 13, none), (2, 14, none), (2, 15, none), (2, 16, none)] H0) (Ch.sI (rsr r) rfl q) h
            clear q
            obtain ⟨H13, q, h⟩ := h
            replace h := (gd_some h).2
            replace h := hl_c (P := Ch (fun q => q == r) [(2, 1, some 11), (2, 10, none), (2, 11, none), (2, 12, none), (2, 13, none), (2, 14, none), (2, 15, none), (2, 16, none)] H0) (Ch.sI (rsr r) rfl q) h
            clear q
            obtain ⟨H14, q, h⟩ := h
            replace h := (gd_some h).2
            replace h := hl_c (P := Ch (fun q => q == r) [(2, 1, some 11), (2, 10, none), (2, 11, none), (2, 12, none), (2, 13, none), (2, 14, none), (2, 15, none), (2, 16, none)] H0) (Ch.sI (rsr r) rfl q) h
            clear q
            obtain ⟨H15, q, h⟩ := h
            replace h := (gd_some h).2
            replace h := (gd_some h).2
            replace h := hl_c (P := Ch (fun q => q == r) [(2, 1, some 11), (2, 10, none), (2, 11, none), (2, 12, none), (2, 13, none), (2, 14, none), (2, 15, none), (2, 16, none)] H0) (Ch.sI (rsr r) rfl q) h
            clear q
            obtain ⟨H16, q, h⟩ := h
            replace h := (gd_some h).2
            replace h := (gd_some h).2
            replace h := hl_c (P := Ch (fun q => q == r) [(2, 1, some 11), (2, 10, none), (2, 11, none), (2, 12, none), (2, 13, none), (2, 14, none), (2, 15, none), (2, 16, none)] H0) (Ch.sI (rsr r) rfl q) h
            clear q
            obtain ⟨H17, q, h⟩ := h
            replace h := (gd_some h).2
            replace h := (gd_some h).2
            replace h := hl_c (P := Ch (fun q => q == r) [(2, 1, some 11), (2, 10, none), (2, 11, none), (2, 12, none), (2, 13, none), (2, 14, none), (2, 15, none), (2, 16, none)] H0) (Ch.sI (rsr r) rfl q) h
            clear q
            obtain ⟨H18, q, h⟩ := h
            replace h := hl_c (P := Ch (fun q => q == r) [(2, 1, some 11), (2, 10, none), (2, 11, none), (2, 12, none), (2, 13, none), (2, 14, none), (2, 15, none), (2, 16, none)] H0) (Ch.sI (rsr r) rfl q) h
            clear q
            obtain ⟨H19, q, h⟩ := h
            cases h
            exact q
          · cases h
            exact q
        · cases h
          exact q
theorem ch_X3_outOf {r : Nat}  {a1 : Int32} {a2 : Int32} {H0 H : Hp} {res : Int32 × Hp} (q : Ch (fun q => q == r) [] H0 H) (h : f_X3_outOf r a1 a2 H = some res) : Ch (fun q => q == r) [] H0 res.2 := by
  unfold f_X3_outOf at h
  replace h := it_c h
  rcases h with h | h
  · cases h
    exact q
  · replace h := (gd_some h).2
    replace h := it_c h
    rcases h with h | h
    · replace h := (gd_some h).2
      cases h
      exact q
    · cases h
      exact q
theorem chL_X3_outsFitKinds_2 {r : Nat}  {k : Hp → Option (Int32 × Hp)} {res : Int32 × Hp} {H0 : Hp} (hk : ∀ (H : Hp), Ch (fun q => q == r) [] H0 H → k H = some res → Ch (fun q => q == r) [] H0 res.2) : ∀ (n : Nat) (x1 : Int32) (H : Hp), Ch (fun q => q == r) [] H0 H → L_X3_outsFitKinds_2 r k n x1 H = some res → Ch (fun q => q == r) [] H0 res.2 := by
  intro n
  induction n with
  | zero => intro x1 H q h; exact nomatch (show (none : Option (Int32 × Hp)) = some res from h)
  | succ n ih =>
    intro x1 H q h
    rw [L_X3_outsFitKinds_2] at h
    replace h := it_c h
    rcases h with h | h
    · exact hk H q h
    · replace h := bnd_some h
      obtain ⟨w3, H2, hc, h⟩ := h
      replace q := Ch.tr (fun _ h => h) (by decide) q (ch_X3_endsIn (Ch.rf _) hc)
      refine jn_c1 (P := Ch (fun q => q == r) [] H0) h (fun y5 H6 q h => ?_) (fun hj4 h => ?_)
      · replace h := (gd_some h).2
        refine jn_c1 (P := Ch (fun q => q == r) [] H0) h (fun y8 H9 q h => ?_) (fun hj7 h => ?_)
        · replace h := (gd_some h).2
          replace h := it_c h
          rcases h with h | h
          · cases h
            exact q
          · replace h := (gd_some h).2
            replace h := it_c h
            rcases h with h | h
            · replace h := vl_c h
              obtain ⟨v12, h⟩ := h
              exact ih v12 H9 q h
            · cases h
              exact q
        · replace h := it_c h
          rcases h with h | h
          · exact hj7 4 H6 q h
          · exact hj7 y5 H6 q h
      · replace h := it_c h
        rcases h with h | h
        · replace h := (gd_some h).2
          replace h := it_c h
          rcases h with h | h
          · exact hj4 2 H2 q h
          · exact hj4 1 H2 q h
        · exact hj4 0 H2 q h
theorem ch_X3_outsFitKinds {r : Nat}  {H0 H : Hp} {res : Int32 × Hp} (q : Ch (fun q => q == r) [] H0 H) (h : f_X3_outsFitKinds r H = some res) : Ch (fun q => q == r) [] H0 res.2 := by
  unfold f_X3_outsFitKinds at h
  refine chL_X3_outsFitKinds_2 (fun H16 q h => ?_) _ 0 H q h
  cases h
  exact q
theorem chL_X3_marksSpread_a_13 {r : Nat}  {b3 : Int32} {k : Hp → Option (Int32 × Hp)} {res : Int32 × Hp} {H0 : Hp} (hk : ∀ (H : Hp), Ch (fun q => q == r) [(2, 17, none)] H0 H → k H = some res → Ch (fun q => q == r) [(2, 17, none)] H0 res.2) : ∀ (n : Nat) (x4 : Int32) (H : Hp), Ch (fun q => q == r) [(2, 17, none)] H0 H → L_X3_marksSpread_a_13 r b3 k n x4 H = some res → Ch (fun q => q == r) [(2, 17, none)] H0 res.2 := by
  intro n
  induction n with
  | zero => intro x4 H q h; exact nomatch (show (none : Option (Int32 × Hp)) = some res from h)
  | succ n ih =>
    intro x4 H q h
    rw [L_X3_marksSpread_a_13] at h
    replace h := it_c h
    rcases h with h | h
    · exact hk H q h
    · replace h := (gd_some h).2
      replace h := (gd_some h).2
      replace h := it_c h
      rcases h with h | h
      · replace h := vl_c h
        obtain ⟨v4, h⟩ := h
        exact ih v4 H q h
      · replace h := (gd_some h).2
        replace h := (gd_some h).2
        replace h := hl_c (P := Ch (fun q => q == r) [(2, 17, none)] H0) (Ch.sI (rsr r) rfl q) h
        clear q
        obtain ⟨H5, q, h⟩ := h
        replace h := vl_c h
        obtain ⟨v6, h⟩ := h
        exact ih v6 H5 q h
theorem chL_X3_marksSpread_a_2 {r : Nat}  {k : Hp → Option (Int32 × Hp)} {res : Int32 × Hp} {H0 : Hp} (hk : ∀ (H : Hp), Ch (fun q => q == r) [(2, 17, none)] H0 H → k H = some res → Ch (fun q => q == r) [(2, 17, none)] H0 res.2) : ∀ (n : Nat) (x3 : Int32) (H : Hp), Ch (fun q => q == r) [(2, 17, none)] H0 H → L_X3_marksSpread_a_2 r k n x3 H = some res → Ch (fun q => q == r) [(2, 17, none)] H0 res.2 := by
  intro n
  induction n with
  | zero => intro x3 H q h; exact nomatch (show (none : Option (Int32 × Hp)) = some res from h)
  | succ n ih =>
    intro x3 H q h
    rw [L_X3_marksSpread_a_2] at h
    replace h := it_c h
    rcases h with h | h
    · exact hk H q h
    · refine chL_X3_marksSpread_a_13 (fun H7 q h => ?_) _ 0 H q h
      replace h := vl_c h
      obtain ⟨v8, h⟩ := h
      exact ih v8 H7 q h
theorem chL_X3_marksSpread_a_58 {r : Nat}  {k : Hp → Option (Int32 × Hp)} {res : Int32 × Hp} {H0 : Hp} (hk : ∀ (H : Hp), Ch (fun q => q == r) [(2, 17, none)] H0 H → k H = some res → Ch (fun q => q == r) [(2, 17, none)] H0 res.2) : ∀ (n : Nat) (x3 : Int32) (H : Hp), Ch (fun q => q == r) [(2, 17, none)] H0 H → L_X3_marksSpread_a_58 r k n x3 H = some res → Ch (fun q => q == r) [(2, 17, none)] H0 res.2 := by
  intro n
  induction n with
  | zero => intro x3 H q h; exact nomatch (show (none : Option (Int32 × Hp)) = some res from h)
  | succ n ih =>
    intro x3 H q h
    rw [L_X3_marksSpread_a_58] at h
    replace h := it_c h
    rcases h with h | h
    · exact hk H q h
    · replace h := (gd_some h).2
      replace h := it_c h
      rcases h with h | h
      · cases h
        exact q
      · replace h := vl_c h
        obtain ⟨v12, h⟩ := h
        exact ih v12 H q h
theorem ch_X3_marksSpread_a {r : Nat}  {H0 H : Hp} {res : Int32 × Hp} (q : Ch (fun q => q == r) [(2, 17, none)] H0 H) (h : f_X3_marksSpread_a r H = some res) : Ch (fun q => q == r) [(2, 17, none)] H0 res.2 := by
  unfold f_X3_marksSpread_a at h
  refine chL_X3_marksSpread_a_2 (fun H9 q h => ?_) _ 0 H q h
  refine chL_X3_marksSpread_a_58 (fun H13 q h => ?_) _ 0 H9 q h
  cases h
  exact q
theorem chL_X3_marksSpread_b_13 {r : Nat}  {b3 : Int32} {k : Hp → Option (Int32 × Hp)} {res : Int32 × Hp} {H0 : Hp} (hk : ∀ (H : Hp), Ch (fun q => q == r) [(2, 17, none)] H0 H → k H = some res → Ch (fun q => q == r) [(2, 17, none)] H0 res.2) : ∀ (n : Nat) (x4 : Int32) (H : Hp), Ch (fun q => q == r) [(2, 17, none)] H0 H → L_X3_marksSpread_b_13 r b3 k n x4 H = some res → Ch (fun q => q == r) [(2, 17, none)] H0 res.2 := by
  intro n
  induction n with
  | zero => intro x4 H q h; exact nomatch (show (none : Option (Int32 × Hp)) = some res from h)
  | succ n ih =>
    intro x4 H q h
    rw [L_X3_marksSpread_b_13] at h
    replace h := it_c h
    rcases h with h | h
    · exact hk H q h
    · replace h := (gd_some h).2
      replace h := (gd_some h).2
      replace h := it_c h
      rcases h with h | h
      · replace h := vl_c h
        obtain ⟨v4, h⟩ := h
        exact ih v4 H q h
      · replace h := (gd_some h).2
        replace h := (gd_some h).2
        replace h := hl_c (P := Ch (fun q => q == r) [(2, 17, none)] H0) (Ch.sI (rsr r) rfl q) h
        clear q
        obtain ⟨H5, q, h⟩ := h
        replace h := vl_c h
        obtain ⟨v6, h⟩ := h
        exact ih v6 H5 q h
theorem chL_X3_marksSpread_b_2 {r : Nat}  {k : Hp → Option (Int32 × Hp)} {res : Int32 × Hp} {H0 : Hp} (hk : ∀ (H : Hp), Ch (fun q => q == r) [(2, 17, none)] H0 H → k H = some res → Ch (fun q => q == r) [(2, 17, none)] H0 res.2) : ∀ (n : Nat) (x3 : Int32) (H : Hp), Ch (fun q => q == r) [(2, 17, none)] H0 H → L_X3_marksSpread_b_2 r k n x3 H = some res → Ch (fun q => q == r) [(2, 17, none)] H0 res.2 := by
  intro n
  induction n with
  | zero => intro x3 H q h; exact nomatch (show (none : Option (Int32 × Hp)) = some res from h)
  | succ n ih =>
    intro x3 H q h
    rw [L_X3_marksSpread_b_2] at h
    replace h := it_c h
    rcases h with h | h
    · exact hk H q h
    · refine chL_X3_marksSpread_b_13 (fun H7 q h => ?_) _ 0 H q h
      replace h := vl_c h
      obtain ⟨v8, h⟩ := h
      exact ih v8 H7 q h
theorem chL_X3_marksSpread_b_58 {r : Nat}  {k : Hp → Option (Int32 × Hp)} {res : Int32 × Hp} {H0 : Hp} (hk : ∀ (H : Hp), Ch (fun q => q == r) [(2, 17, none)] H0 H → k H = some res → Ch (fun q => q == r) [(2, 17, none)] H0 res.2) : ∀ (n : Nat) (x3 : Int32) (H : Hp), Ch (fun q => q == r) [(2, 17, none)] H0 H → L_X3_marksSpread_b_58 r k n x3 H = some res → Ch (fun q => q == r) [(2, 17, none)] H0 res.2 := by
  intro n
  induction n with
  | zero => intro x3 H q h; exact nomatch (show (none : Option (Int32 × Hp)) = some res from h)
  | succ n ih =>
    intro x3 H q h
    rw [L_X3_marksSpread_b_58] at h
    replace h := it_c h
    rcases h with h | h
    · exact hk H q h
    · replace h := (gd_some h).2
      replace h := it_c h
      rcases h with h | h
      · cases h
        exact q
      · replace h := vl_c h
        obtain ⟨v12, h⟩ := h
        exact ih v12 H q h
theorem ch_X3_marksSpread_b {r : Nat}  {H0 H : Hp} {res : Int32 × Hp} (q : Ch (fun q => q == r) [(2, 17, none)] H0 H) (h : f_X3_marksSpread_b r H = some res) : Ch (fun q => q == r) [(2, 17, none)] H0 res.2 := by
  unfold f_X3_marksSpread_b at h
  refine chL_X3_marksSpread_b_2 (fun H9 q h => ?_) _ 0 H q h
  refine chL_X3_marksSpread_b_58 (fun H13 q h => ?_) _ 0 H9 q h
  cases h
  exact q
theorem chL_X3_allReached_2 {r : Nat}  {k : Hp → Option (Int32 × Hp)} {res : Int32 × Hp} {H0 : Hp} (hk : ∀ (H : Hp), Ch (fun q => q == r) [(2, 17, none)] H0 H → k H = some res → Ch (fun q => q == r) [(2, 17, none)] H0 res.2) : ∀ (n : Nat) (x1 : Int32) (H : Hp), Ch (fun q => q == r) [(2, 17, none)] H0 H → L_X3_allReached_2 r k n x1 H = some res → Ch (fun q => q == r) [(2, 17, none)] H0 res.2 := by
  intro n
  induction n with
  | zero => intro x1 H q h; exact nomatch (show (none : Option (Int32 × Hp)) = some res from h)
  | succ n ih =>
    intro x1 H q h
    rw [L_X3_allReached_2] at h
    replace h := it_c h
    rcases h with h | h
    · exact hk H q h
    · replace h := it_c h
      rcases h with h | h
      · replace h := (gd_some h).2
        replace h := hl_c (P := Ch (fun q => q == r) [(2, 17, none)] H0) (Ch.sI (rsr r) rfl q) h
        clear q
        obtain ⟨H5, q, h⟩ := h
        replace h := vl_c h
        obtain ⟨v6, h⟩ := h
        exact ih v6 H5 q h
      · replace h := (gd_some h).2
        replace h := hl_c (P := Ch (fun q => q == r) [(2, 17, none)] H0) (Ch.sI (rsr r) rfl q) h
        clear q
        obtain ⟨H3, q, h⟩ := h
        replace h := vl_c h
        obtain ⟨v4, h⟩ := h
        exact ih v4 H3 q h
theorem ch_X3_allReached {r : Nat}  {H0 H : Hp} {res : Int32 × Hp} (q : Ch (fun q => q == r) [(2, 17, none)] H0 H) (h : f_X3_allReached r H = some res) : Ch (fun q => q == r) [(2, 17, none)] H0 res.2 := by
  unfold f_X3_allReached at h
  refine chL_X3_allReached_2 (fun H7 q h => ?_) _ 0 H q h
  replace h := bnd_some h
  obtain ⟨w9, H8, hc, h⟩ := h
  replace q := Ch.tr (fun _ h => h) (by decide) q (ch_X3_marksSpread_a (Ch.rf _) hc)
  replace h := (gb_some h).2
  cases h
  exact q
theorem chL_X3_allCanEnd_2 {r : Nat}  {k : Hp → Option (Int32 × Hp)} {res : Int32 × Hp} {H0 : Hp} (hk : ∀ (H : Hp), Ch (fun q => q == r) [(2, 17, none)] H0 H → k H = some res → Ch (fun q => q == r) [(2, 17, none)] H0 res.2) : ∀ (n : Nat) (x1 : Int32) (H : Hp), Ch (fun q => q == r) [(2, 17, none)] H0 H → L_X3_allCanEnd_2 r k n x1 H = some res → Ch (fun q => q == r) [(2, 17, none)] H0 res.2 := by
  intro n
  induction n with
  | zero => intro x1 H q h; exact nomatch (show (none : Option (Int32 × Hp)) = some res from h)
  | succ n ih =>
    intro x1 H q h
    rw [L_X3_allCanEnd_2] at h
    replace h := it_c h
    rcases h with h | h
    · exact hk H q h
    · replace h := bnd_some h
      obtain ⟨w3, H2, hc, h⟩ := h
      replace q := Ch.tr (fun _ h => h) (by decide) q (ch_X3_endsIn (Ch.rf _) hc)
      replace h := (gd_some h).2
      replace h := hl_c (P := Ch (fun q => q == r) [(2, 17, none)] H0) (Ch.sI (rsr r) rfl q) h
      clear q
      obtain ⟨H4, q, h⟩ := h
      replace h := vl_c h
      obtain ⟨v5, h⟩ := h
      exact ih v5 H4 q h
theorem ch_X3_allCanEnd {r : Nat}  {H0 H : Hp} {res : Int32 × Hp} (q : Ch (fun q => q == r) [(2, 17, none)] H0 H) (h : f_X3_allCanEnd r H = some res) : Ch (fun q => q == r) [(2, 17, none)] H0 res.2 := by
  unfold f_X3_allCanEnd at h
  refine chL_X3_allCanEnd_2 (fun H6 q h => ?_) _ 0 H q h
  replace h := bnd_some h
  obtain ⟨w8, H7, hc, h⟩ := h
  replace q := Ch.tr (fun _ h => h) (by decide) q (ch_X3_marksSpread_b (Ch.rf _) hc)
  replace h := (gb_some h).2
  cases h
  exact q
theorem ch_X3_firstFault {r : Nat}  {H0 H : Hp} {res : Int32 × Hp} (q : Ch (fun q => q == r) [(2, 17, none)] H0 H) (h : f_X3_firstFault r H = some res) : Ch (fun q => q == r) [(2, 17, none)] H0 res.2 := by
  unfold f_X3_firstFault at h
  replace h := it_c h
  rcases h with h | h
  · cases h
    exact q
  · replace h := bnd_some h
    obtain ⟨w3, H2, hc, h⟩ := h
    replace q := Ch.tr (fun _ h => h) (by decide) q (ch_X3_outsFitKinds (Ch.rf _) hc)
    replace h := it_c h
    rcases h with h | h
    · cases h
      exact q
    · replace h := bnd_some h
      obtain ⟨w6, H5, hc, h⟩ := h
      replace q := Ch.tr (fun _ h => h) (by decide) q (ch_X3_allReached (Ch.rf _) hc)
      replace h := it_c h
      rcases h with h | h
      · cases h
        exact q
      · replace h := bnd_some h
        obtain ⟨w9, H8, hc, h⟩ := h
        replace q := Ch.tr (fun _ h => h) (by decide) q (ch_X3_allCanEnd (Ch.rf _) hc)
        replace h := it_c h
        rcases h with h | h
        · cases h
          exact q
        · cases h
          exact q
theorem ch_X3_addLink {r : Nat}  {a1 : Int32} {a2 : Int32} {H0 H : Hp} {res : Unit × Hp} (q : Ch (fun q => q == r) [(2, 1, some 12), (2, 13, none), (2, 14, none)] H0 H) (h : f_X3_addLink r a1 a2 H = some res) : Ch (fun q => q == r) [(2, 1, some 12), (2, 13, none), (2, 14, none)] H0 res.2 := by
  unfold f_X3_addLink at h
  replace h := (gd_some h).2
  replace h := hl_c (P := Ch (fun q => q == r) [(2, 1, some 12), (2, 13, none), (2, 14, none)] H0) (Ch.sI (rsr r) rfl q) h
  clear q
  obtain ⟨H1, q, h⟩ := h
  replace h := (gd_some h).2
  replace h := hl_c (P := Ch (fun q => q == r) [(2, 1, some 12), (2, 13, none), (2, 14, none)] H0) (Ch.sI (rsr r) rfl q) h
  clear q
  obtain ⟨H2, q, h⟩ := h
  replace h := hl_c (P := Ch (fun q => q == r) [(2, 1, some 12), (2, 13, none), (2, 14, none)] H0) (Ch.sI (rsr r) rfl q) h
  clear q
  obtain ⟨H3, q, h⟩ := h
  cases h
  exact q
theorem chL_X3_linkEnd_10 {r : Nat}  {k : Hp → Option (Unit × Hp)} {res : Unit × Hp} {H0 : Hp} (hk : ∀ (H : Hp), Ch (fun q => q == r) [(2, 1, some 12), (2, 13, none), (2, 14, none)] H0 H → k H = some res → Ch (fun q => q == r) [(2, 1, some 12), (2, 13, none), (2, 14, none)] H0 res.2) : ∀ (n : Nat) (x1 : Int32) (H : Hp), Ch (fun q => q == r) [(2, 1, some 12), (2, 13, none), (2, 14, none)] H0 H → L_X3_linkEnd_10 r k n x1 H = some res → Ch (fun q => q == r) [(2, 1, some 12), (2, 13, none), (2, 14, none)] H0 res.2 := by
  intro n
  induction n with
  | zero => intro x1 H q h; exact nomatch (show (none : Option (Unit × Hp)) = some res from h)
  | succ n ih =>
    intro x1 H q h
    rw [L_X3_linkEnd_10] at h
    replace h := it_c h
    rcases h with h | h
    · exact hk H q h
    · replace h := (gd_some h).2
      replace h := it_c h
      rcases h with h | h
      · replace h := bnd_some h
        obtain ⟨w6, H5, hc, h⟩ := h
        replace q := Ch.tr (fun _ h => h) (by decide) q (ch_X3_addLink (Ch.rf _) hc)
        replace h := vl_c h
        obtain ⟨v7, h⟩ := h
        exact ih v7 H5 q h
      · replace h := vl_c h
        obtain ⟨v4, h⟩ := h
        exact ih v4 H q h
theorem ch_X3_linkEnd {r : Nat}  {H0 H : Hp} {res : Unit × Hp} (q : Ch (fun q => q == r) [(2, 1, some 12), (2, 13, none), (2, 14, none)] H0 H) (h : f_X3_linkEnd r H = some res) : Ch (fun q => q == r) [(2, 1, some 12), (2, 13, none), (2, 14, none)] H0 res.2 := by
  unfold f_X3_linkEnd at h
  replace h := hl_c (P := Ch (fun q => q == r) [(2, 1, some 12), (2, 13, none), (2, 14, none)] H0) (Ch.sI (rsr r) rfl q) h
  clear q
  obtain ⟨H1, q, h⟩ := h
  refine chL_X3_linkEnd_10 (fun H8 q h => ?_) _ 0 H1 q h
  replace h := bnd_some h
  obtain ⟨w10, H9, hc, h⟩ := h
  replace q := Ch.tr (fun _ h => h) (by decide) q (ch_X3_addLink (Ch.rf _) hc)
  cases h
  exact q
theorem ch_X3_standOf {r : Nat}  {a1 : Int32} {H0 H : Hp} {res : Int32 × Hp} (q : Ch (fun q => q == r) [] H0 H) (h : f_X3_standOf r a1 H = some res) : Ch (fun q => q == r) [] H0 res.2 := by
  unfold f_X3_standOf at h
  replace h := (gd_some h).2
  replace h := (gd_some h).2
  replace h := it_c h
  rcases h with h | h
  · cases h
    exact q
  · replace h := (gd_some h).2
    replace h := (gd_some h).2
    replace h := (gd_some h).2
    replace h := it_c h
    rcases h with h | h
    · replace h := vl_c h
      obtain ⟨v5, h⟩ := h
      replace h := it_c h
      rcases h with h | h
      · cases h
        exact q
      · cases h
        exact q
    · replace h := vl_c h
      obtain ⟨v3, h⟩ := h
      replace h := it_c h
      rcases h with h | h
      · cases h
        exact q
      · cases h
        exact q
theorem ch_X3_shapeOfEdge {r : Nat}  {a1 : Int32} {a2 : Int32} {H0 H : Hp} {res : Int64 × Hp} (q : Ch (fun q => q == r) [] H0 H) (h : f_X3_shapeOfEdge r a1 a2 H = some res) : Ch (fun q => q == r) [] H0 res.2 := by
  unfold f_X3_shapeOfEdge at h
  replace h := it_c h
  rcases h with h | h
  · replace h := (gd_some h).2
    cases h
    exact q
  · replace h := it_c h
    rcases h with h | h
    · replace h := (gd_some h).2
      cases h
      exact q
    · replace h := it_c h
      rcases h with h | h
      · replace h := (gd_some h).2
        cases h
        exact q
      · replace h := (gd_some h).2
        replace h := it_c h
        rcases h with h | h
        · cases h
          exact q
        · cases h
          exact q
theorem ch_X3_shapeOfBlock {r : Nat}  {a1 : Int32} {a2 : Int32} {H0 H : Hp} {res : Int64 × Hp} (q : Ch (fun q => q == r) [] H0 H) (h : f_X3_shapeOfBlock r a1 a2 H = some res) : Ch (fun q => q == r) [] H0 res.2 := by
  unfold f_X3_shapeOfBlock at h
  replace h := it_c h
  rcases h with h | h
  · replace h := (gd_some h).2
    cases h
    exact q
  · replace h := it_c h
    rcases h with h | h
    · replace h := (gd_some h).2
      cases h
      exact q
    · replace h := it_c h
      rcases h with h | h
      · replace h := (gd_some h).2
        cases h
        exact q
      · replace h := (gd_some h).2
        cases h
        exact q
theorem chL_X0_clear_2 {r : Nat}  {k : Hp → Option (Unit × Hp)} {res : Unit × Hp} {H0 : Hp} (hk : ∀ (H : Hp), Ch (fun q => q == r) [(2, 4, some 3), (2, 4, some 4), (2, 34, none), (2, 35, none), (2, 36, none)] H0 H → k H = some res → Ch (fun q => q == r) [(2, 4, some 3), (2, 4, some 4), (2, 34, none), (2, 35, none), (2, 36, none)] H0 res.2) : ∀ (n : Nat) (x1 : Int32) (H : Hp), Ch (fun q => q == r) [(2, 4, some 3), (2, 4, some 4), (2, 34, none), (2, 35, none), (2, 36, none)] H0 H → L_X0_clear_2 r k n x1 H = some res → Ch (fun q => q == r) [(2, 4, some 3), (2, 4, some 4), (2, 34, none), (2, 35, none), (2, 36, none)] H0 res.2 := by
  intro n
  induction n with
  | zero => intro x1 H q h; exact nomatch (show (none : Option (Unit × Hp)) = some res from h)
  | succ n ih =>
    intro x1 H q h
    rw [L_X0_clear_2] at h
    replace h := it_c h
    rcases h with h | h
    · exact hk H q h
    · replace h := (gd_some h).2
      replace h := hl_c (P := Ch (fun q => q == r) [(2, 4, some 3), (2, 4, some 4), (2, 34, none), (2, 35, none), (2, 36, none)] H0) (Ch.sJ (rsr r) rfl q) h
      clear q
      obtain ⟨H2, q, h⟩ := h
      replace h := (gd_some h).2
      replace h := hl_c (P := Ch (fun q => q == r) [(2, 4, some 3), (2, 4, some 4), (2, 34, none), (2, 35, none), (2, 36, none)] H0) (Ch.sJ (rsr r) rfl q) h
      clear q
      obtain ⟨H3, q, h⟩ := h
      replace h := vl_c h
      obtain ⟨v4, h⟩ := h
      exact ih v4 H3 q h
theorem chL_X0_clear_30 {r : Nat}  {k : Hp → Option (Unit × Hp)} {res : Unit × Hp} {H0 : Hp} (hk : ∀ (H : Hp), Ch (fun q => q == r) [(2, 4, some 3), (2, 4, some 4), (2, 34, none), (2, 35, none), (2, 36, none)] H0 H → k H = some res → Ch (fun q => q == r) [(2, 4, some 3), (2, 4, some 4), (2, 34, none), (2, 35, none), (2, 36, none)] H0 res.2) : ∀ (n : Nat) (x1 : Int32) (H : Hp), Ch (fun q => q == r) [(2, 4, some 3), (2, 4, some 4), (2, 34, none), (2, 35, none), (2, 36, none)] H0 H → L_X0_clear_30 r k n x1 H = some res → Ch (fun q => q == r) [(2, 4, some 3), (2, 4, some 4), (2, 34, none), (2, 35, none), (2, 36, none)] H0 res.2 := by
  intro n
  induction n with
  | zero => intro x1 H q h; exact nomatch (show (none : Option (Unit × Hp)) = some res from h)
  | succ n ih =>
    intro x1 H q h
    rw [L_X0_clear_30] at h
    replace h := it_c h
    rcases h with h | h
    · exact hk H q h
    · replace h := (gd_some h).2
      replace h := hl_c (P := Ch (fun q => q == r) [(2, 4, some 3), (2, 4, some 4), (2, 34, none), (2, 35, none), (2, 36, none)] H0) (Ch.sJ (rsr r) rfl q) h
      clear q
      obtain ⟨H7, q, h⟩ := h
      replace h := vl_c h
      obtain ⟨v8, h⟩ := h
      exact ih v8 H7 q h
theorem ch_X0_clear {r : Nat}  {H0 H : Hp} {res : Unit × Hp} (q : Ch (fun q => q == r) [(2, 4, some 3), (2, 4, some 4), (2, 34, none), (2, 35, none), (2, 36, none)] H0 H) (h : f_X0_clear r H = some res) : Ch (fun q => q == r) [(2, 4, some 3), (2, 4, some 4), (2, 34, none), (2, 35, none), (2, 36, none)] H0 res.2 := by
  unfold f_X0_clear at h
  refine chL_X0_clear_2 (fun H5 q h => ?_) _ 0 H q h
  refine chL_X0_clear_30 (fun H9 q h => ?_) _ 0 H5 q h
  replace h := hl_c (P := Ch (fun q => q == r) [(2, 4, some 3), (2, 4, some 4), (2, 34, none), (2, 35, none), (2, 36, none)] H0) (Ch.sJ (rsr r) rfl q) h
  clear q
  obtain ⟨H10, q, h⟩ := h
  replace h := hl_c (P := Ch (fun q => q == r) [(2, 4, some 3), (2, 4, some 4), (2, 34, none), (2, 35, none), (2, 36, none)] H0) (Ch.sJ (rsr r) rfl q) h
  clear q
  obtain ⟨H11, q, h⟩ := h
  cases h
  exact q
theorem ch_X4_clear {r : Nat}  {H0 H : Hp} {res : Unit × Hp} (q : Ch (fun q => q == r) [(2, 5, some 2), (2, 5, some 3)] H0 H) (h : f_X4_clear r H = some res) : Ch (fun q => q == r) [(2, 5, some 2), (2, 5, some 3)] H0 res.2 := by
  unfold f_X4_clear at h
  replace h := hl_c (P := Ch (fun q => q == r) [(2, 5, some 2), (2, 5, some 3)] H0) (Ch.sI (rsr r) rfl q) h
  clear q
  obtain ⟨H1, q, h⟩ := h
  replace h := hl_c (P := Ch (fun q => q == r) [(2, 5, some 2), (2, 5, some 3)] H0) (Ch.sJ (rsr r) rfl q) h
  clear q
  obtain ⟨H2, q, h⟩ := h
  cases h
  exact q
theorem chL_X4_count_2 {r : Nat}  {b1 : Int64} {k : Hp → Option (Unit × Hp)} {res : Unit × Hp} {H0 : Hp} (hk : ∀ (H : Hp), Ch (fun q => q == r) [(2, 5, some 2), (2, 5, some 3), (2, 37, none), (2, 38, none)] H0 H → k H = some res → Ch (fun q => q == r) [(2, 5, some 2), (2, 5, some 3), (2, 37, none), (2, 38, none)] H0 res.2) : ∀ (n : Nat) (x3 : Int32) (H : Hp), Ch (fun q => q == r) [(2, 5, some 2), (2, 5, some 3), (2, 37, none), (2, 38, none)] H0 H → L_X4_count_2 r b1 k n x3 H = some res → Ch (fun q => q == r) [(2, 5, some 2), (2, 5, some 3), (2, 37, none), (2, 38, none)] H0 res.2 := by
  intro n
  induction n with
  | zero => intro x3 H q h; exact nomatch (show (none : Option (Unit × Hp)) = some res from h)
  | succ n ih =>
    intro x3 H q h
    rw [L_X4_count_2] at h
    replace h := it_c h
    rcases h with h | h
    · exact hk H q h
    · replace h := (gd_some h).2
      replace h := it_c h
      rcases h with h | h
      · replace h := (gd_some h).2
        replace h := (gd_some h).2
        replace h := hl_c (P := Ch (fun q => q == r) [(2, 5, some 2), (2, 5, some 3), (2, 37, none), (2, 38, none)] H0) (Ch.sJ (rsr r) rfl q) h
        clear q
        obtain ⟨H4, q, h⟩ := h
        cases h
        exact q
      · replace h := vl_c h
        obtain ⟨v3, h⟩ := h
        exact ih v3 H q h
theorem ch_X4_count {r : Nat}  {a1 : Int64} {H0 H : Hp} {res : Unit × Hp} (q : Ch (fun q => q == r) [(2, 5, some 2), (2, 5, some 3), (2, 37, none), (2, 38, none)] H0 H) (h : f_X4_count r a1 H = some res) : Ch (fun q => q == r) [(2, 5, some 2), (2, 5, some 3), (2, 37, none), (2, 38, none)] H0 res.2 := by
  unfold f_X4_count at h
  refine chL_X4_count_2 (fun H5 q h => ?_) _ 0 H q h
  replace h := it_c h
  rcases h with h | h
  · replace h := (gd_some h).2
    replace h := hl_c (P := Ch (fun q => q == r) [(2, 5, some 2), (2, 5, some 3), (2, 37, none), (2, 38, none)] H0) (Ch.sJ (rsr r) rfl q) h
    clear q
    obtain ⟨H7, q, h⟩ := h
    replace h := (gd_some h).2
    replace h := hl_c (P := Ch (fun q => q == r) [(2, 5, some 2), (2, 5, some 3), (2, 37, none), (2, 38, none)] H0) (Ch.sJ (rsr r) rfl q) h
    clear q
    obtain ⟨H8, q, h⟩ := h
    replace h := hl_c (P := Ch (fun q => q == r) [(2, 5, some 2), (2, 5, some 3), (2, 37, none), (2, 38, none)] H0) (Ch.sI (rsr r) rfl q) h
    clear q
    obtain ⟨H9, q, h⟩ := h
    cases h
    exact q
  · replace h := hl_c (P := Ch (fun q => q == r) [(2, 5, some 2), (2, 5, some 3), (2, 37, none), (2, 38, none)] H0) (Ch.sJ (rsr r) rfl q) h
    clear q
    obtain ⟨H10, q, h⟩ := h
    cases h
    exact q
theorem ch_X4_inRow {r : Nat}  {a1 : Int32} {a2 : Int32} {H0 H : Hp} {res : Int64 × Hp} (q : Ch (fun q => q == r) [] H0 H) (h : f_X4_inRow r a1 a2 H = some res) : Ch (fun q => q == r) [] H0 res.2 := by
  unfold f_X4_inRow at h
  replace h := it_c h
  rcases h with h | h
  · cases h
    exact q
  · replace h := it_c h
    rcases h with h | h
    · cases h
      exact q
    · replace h := it_c h
      rcases h with h | h
      · cases h
        exact q
      · replace h := it_c h
        rcases h with h | h
        · replace h := it_c h
          rcases h with h | h
          · replace h := (gd_some h).2
            cases h
            exact q
          · replace h := (gd_some h).2
            cases h
            exact q
        · cases h
          exact q
theorem chL_X5_sortByGuess_15 {r : Nat}  {b1 : Int32} {k : Int32 → Hp → Option (Unit × Hp)} {res : Unit × Hp} {H0 : Hp} (hk : ∀ (z2 : Int32) (H : Hp), Ch (fun q => q == r) [(2, 26, none)] H0 H → k z2 H = some res → Ch (fun q => q == r) [(2, 26, none)] H0 res.2) : ∀ (n : Nat) (x2 : Int32) (H : Hp), Ch (fun q => q == r) [(2, 26, none)] H0 H → L_X5_sortByGuess_15 r b1 k n x2 H = some res → Ch (fun q => q == r) [(2, 26, none)] H0 res.2 := by
  intro n
  induction n with
  | zero => intro x2 H q h; exact nomatch (show (none : Option (Unit × Hp)) = some res from h)
  | succ n ih =>
    intro x2 H q h
    rw [L_X5_sortByGuess_15] at h
    replace h := it_c h
    rcases h with h | h
    · exact hk x2 H q h
    · replace h := (gd_some h).2
      replace h := (gd_some h).2
      replace h := (gd_some h).2
      replace h := it_c h
      rcases h with h | h
      · exact hk x2 H q h
      · replace h := (gd_some h).2
        replace h := (gd_some h).2
        replace h := hl_c (P := Ch (fun q => q == r) [(2, 26, none)] H0) (Ch.sI (rsr r) rfl q) h
        clear q
        obtain ⟨H4, q, h⟩ := h
        replace h := vl_c h
        obtain ⟨v5, h⟩ := h
        exact ih v5 H4 q h
theorem chL_X5_sortByGuess_2 {r : Nat}  {k : Hp → Option (Unit × Hp)} {res : Unit × Hp} {H0 : Hp} (hk : ∀ (H : Hp), Ch (fun q => q == r) [(2, 26, none)] H0 H → k H = some res → Ch (fun q => q == r) [(2, 26, none)] H0 res.2) : ∀ (n : Nat) (x1 : Int32) (H : Hp), Ch (fun q => q == r) [(2, 26, none)] H0 H → L_X5_sortByGuess_2 r k n x1 H = some res → Ch (fun q => q == r) [(2, 26, none)] H0 res.2 := by
  intro n
  induction n with
  | zero => intro x1 H q h; exact nomatch (show (none : Option (Unit × Hp)) = some res from h)
  | succ n ih =>
    intro x1 H q h
    rw [L_X5_sortByGuess_2] at h
    replace h := it_c h
    rcases h with h | h
    · exact hk H q h
    · refine chL_X5_sortByGuess_15 (fun z6 H7 q h => ?_) _ x1 H q h
      replace h := (gd_some h).2
      replace h := hl_c (P := Ch (fun q => q == r) [(2, 26, none)] H0) (Ch.sI (rsr r) rfl q) h
      clear q
      obtain ⟨H8, q, h⟩ := h
      replace h := vl_c h
      obtain ⟨v9, h⟩ := h
      exact ih v9 H8 q h
theorem ch_X5_sortByGuess {r : Nat}  {H0 H : Hp} {res : Unit × Hp} (q : Ch (fun q => q == r) [(2, 26, none)] H0 H) (h : f_X5_sortByGuess r H = some res) : Ch (fun q => q == r) [(2, 26, none)] H0 res.2 := by
  unfold f_X5_sortByGuess at h
  refine chL_X5_sortByGuess_2 (fun H10 q h => ?_) _ 0 H q h
  cases h
  exact q
theorem chL_X5_joinParts_40 {r : Nat}  {b2 : Int32} {b3 : Int32} {k : Hp → Option (Int32 × Hp)} {res : Int32 × Hp} {H0 : Hp} (hk : ∀ (H : Hp), Ch (fun q => q == r) [(2, 28, none)] H0 H → k H = some res → Ch (fun q => q == r) [(2, 28, none)] H0 res.2) : ∀ (n : Nat) (x4 : Int32) (H : Hp), Ch (fun q => q == r) [(2, 28, none)] H0 H → L_X5_joinParts_40 r b2 b3 k n x4 H = some res → Ch (fun q => q == r) [(2, 28, none)] H0 res.2 := by
  intro n
  induction n with
  | zero => intro x4 H q h; exact nomatch (show (none : Option (Int32 × Hp)) = some res from h)
  | succ n ih =>
    intro x4 H q h
    rw [L_X5_joinParts_40] at h
    replace h := it_c h
    rcases h with h | h
    · exact hk H q h
    · replace h := (gd_some h).2
      replace h := it_c h
      rcases h with h | h
      · replace h := (gd_some h).2
        replace h := hl_c (P := Ch (fun q => q == r) [(2, 28, none)] H0) (Ch.sI (rsr r) rfl q) h
        clear q
        obtain ⟨H7, q, h⟩ := h
        replace h := vl_c h
        obtain ⟨v8, h⟩ := h
        exact ih v8 H7 q h
      · replace h := vl_c h
        obtain ⟨v6, h⟩ := h
        exact ih v6 H q h
theorem ch_X5_joinParts {r : Nat}  {a1 : Int32} {H0 H : Hp} {res : Int32 × Hp} (q : Ch (fun q => q == r) [(2, 28, none)] H0 H) (h : f_X5_joinParts r a1 H = some res) : Ch (fun q => q == r) [(2, 28, none)] H0 res.2 := by
  unfold f_X5_joinParts at h
  replace h := (gd_some h).2
  replace h := (gd_some h).2
  replace h := vl_c h
  obtain ⟨v1, h⟩ := h
  replace h := (gd_some h).2
  replace h := (gd_some h).2
  replace h := vl_c h
  obtain ⟨v2, h⟩ := h
  replace h := it_c h
  rcases h with h | h
  · cases h
    exact q
  · refine chL_X5_joinParts_40 (fun H9 q h => ?_) _ 0 H q h
    cases h
    exact q
theorem chL_X5_takeLinks_2 {r : Nat}  {k : Hp → Option (Unit × Hp)} {res : Unit × Hp} {H0 : Hp} (hk : ∀ (H : Hp), Ch (fun q => q == r) [(2, 3, some 10), (2, 3, some 11), (2, 27, none), (2, 28, none)] H0 H → k H = some res → Ch (fun q => q == r) [(2, 3, some 10), (2, 3, some 11), (2, 27, none), (2, 28, none)] H0 res.2) : ∀ (n : Nat) (x1 : Int32) (H : Hp), Ch (fun q => q == r) [(2, 3, some 10), (2, 3, some 11), (2, 27, none), (2, 28, none)] H0 H → L_X5_takeLinks_2 r k n x1 H = some res → Ch (fun q => q == r) [(2, 3, some 10), (2, 3, some 11), (2, 27, none), (2, 28, none)] H0 res.2 := by
  intro n
  induction n with
  | zero => intro x1 H q h; exact nomatch (show (none : Option (Unit × Hp)) = some res from h)
  | succ n ih =>
    intro x1 H q h
    rw [L_X5_takeLinks_2] at h
    replace h := it_c h
    rcases h with h | h
    · exact hk H q h
    · replace h := (gd_some h).2
      replace h := hl_c (P := Ch (fun q => q == r) [(2, 3, some 10), (2, 3, some 11), (2, 27, none), (2, 28, none)] H0) (Ch.sI (rsr r) rfl q) h
      clear q
      obtain ⟨H2, q, h⟩ := h
      replace h := vl_c h
      obtain ⟨v3, h⟩ := h
      exact ih v3 H2 q h
theorem chL_X5_takeLinks_34 {r : Nat}  {k : Hp → Option (Unit × Hp)} {res : Unit × Hp} {H0 : Hp} (hk : ∀ (H : Hp), Ch (fun q => q == r) [(2, 3, some 10), (2, 3, some 11), (2, 27, none), (2, 28, none)] H0 H → k H = some res → Ch (fun q => q == r) [(2, 3, some 10), (2, 3, some 11), (2, 27, none), (2, 28, none)] H0 res.2) : ∀ (n : Nat) (x1 : Int32) (H : Hp), Ch (fun q => q == r) [(2, 3, some 10), (2, 3, some 11), (2, 27, none), (2, 28, none)] H0 H → L_X5_takeLinks_34 r k n x1 H = some res → Ch (fun q => q == r) [(2, 3, some 10), (2, 3, some 11), (2, 27, none), (2, 28, none)] H0 res.2 := by
  intro n
  induction n with
  | zero => intro x1 H q h; exact nomatch (show (none : Option (Unit × Hp)) = some res from h)
  | succ n ih =>
    intro x1 H q h
    rw [L_X5_takeLinks_34] at h
    replace h := it_c h
    rcases h with h | h
    · exact hk H q h
    · replace h := bnd_some h
      obtain ⟨w8, H7, hc, h⟩ := h
      replace q := Ch.tr (fun _ h => h) (by decide) q (ch_X5_joinParts (Ch.rf _) hc)
      replace h := (gd_some h).2
      replace h := hl_c (P := Ch (fun q => q == r) [(2, 3, some 10), (2, 3, some 11), (2, 27, none), (2, 28, none)] H0) (Ch.sI (rsr r) rfl q) h
      clear q
      obtain ⟨H9, q, h⟩ := h
      replace h := vl_c h
      obtain ⟨v10, h⟩ := h
      exact ih v10 H9 q h
theorem chL_X5_takeLinks_76 {r : Nat}  {k : Hp → Option (Unit × Hp)} {res : Unit × Hp} {H0 : Hp} (hk : ∀ (H : Hp), Ch (fun q => q == r) [(2, 3, some 10), (2, 3, some 11), (2, 27, none), (2, 28, none)] H0 H → k H = some res → Ch (fun q => q == r) [(2, 3, some 10), (2, 3, some 11), (2, 27, none), (2, 28, none)] H0 res.2) : ∀ (n : Nat) (x1 : Int32) (H : Hp), Ch (fun q => q == r) [(2, 3, some 10), (2, 3, some 11), (2, 27, none), (2, 28, none)] H0 H → L_X5_takeLinks_76 r k n x1 H = some res → Ch (fun q => q == r) [(2, 3, some 10), (2, 3, some 11), (2, 27, none), (2, 28, none)] H0 res.2 := by
  intro n
  induction n with
  | zero => intro x1 H q h; exact nomatch (show (none : Option (Unit × Hp)) = some res from h)
  | succ n ih =>
    intro x1 H q h
    rw [L_X5_takeLinks_76] at h
    replace h := it_c h
    rcases h with h | h
    · exact hk H q h
    · replace h := (gd_some h).2
      replace h := vl_c h
      obtain ⟨v15, h⟩ := h
      replace h := bnd_some h
      obtain ⟨w17, H16, hc, h⟩ := h
      replace q := Ch.tr (fun _ h => h) (by decide) q (ch_X5_joinParts (Ch.rf _) hc)
      replace h := (gd_some h).2
      replace h := hl_c (P := Ch (fun q => q == r) [(2, 3, some 10), (2, 3, some 11), (2, 27, none), (2, 28, none)] H0) (Ch.sI (rsr r) rfl q) h
      clear q
      obtain ⟨H18, q, h⟩ := h
      replace h := (gd_some h).2
      replace h := it_c h
      rcases h with h | h
      · replace h := hl_c (P := Ch (fun q => q == r) [(2, 3, some 10), (2, 3, some 11), (2, 27, none), (2, 28, none)] H0) (Ch.sI (rsr r) rfl q) h
        clear q
        obtain ⟨H21, q, h⟩ := h
        replace h := (gd_some h).2
        replace h := hl_c (P := Ch (fun q => q == r) [(2, 3, some 10), (2, 3, some 11), (2, 27, none), (2, 28, none)] H0) (Ch.sJ (rsr r) rfl q) h
        clear q
        obtain ⟨H22, q, h⟩ := h
        replace h := vl_c h
        obtain ⟨v23, h⟩ := h
        exact ih v23 H22 q h
      · replace h := vl_c h
        obtain ⟨v20, h⟩ := h
        exact ih v20 H18 q h
theorem ch_X5_takeLinks {r : Nat}  {H0 H : Hp} {res : Unit × Hp} (q : Ch (fun q => q == r) [(2, 3, some 10), (2, 3, some 11), (2, 27, none), (2, 28, none)] H0 H) (h : f_X5_takeLinks r H = some res) : Ch (fun q => q == r) [(2, 3, some 10), (2, 3, some 11), (2, 27, none), (2, 28, none)] H0 res.2 := by
  unfold f_X5_takeLinks at h
  refine chL_X5_takeLinks_2 (fun H4 q h => ?_) _ 0 H q h
  replace h := vl_c h
  obtain ⟨v5, h⟩ := h
  refine chL_X5_takeLinks_34 (fun H11 q h => ?_) _ v5 H4 q h
  replace h := hl_c (P := Ch (fun q => q == r) [(2, 3, some 10), (2, 3, some 11), (2, 27, none), (2, 28, none)] H0) (Ch.sI (rsr r) rfl q) h
  clear q
  obtain ⟨H12, q, h⟩ := h
  replace h := hl_c (P := Ch (fun q => q == r) [(2, 3, some 10), (2, 3, some 11), (2, 27, none), (2, 28, none)] H0) (Ch.sJ (rsr r) rfl q) h
  clear q
  obtain ⟨H13, q, h⟩ := h
  refine chL_X5_takeLinks_76 (fun H24 q h => ?_) _ 0 H13 q h
  cases h
  exact q
theorem ch_X5_otherEnd {r : Nat}  {a1 : Int32} {a2 : Int32} {H0 H : Hp} {res : Int32 × Hp} (q : Ch (fun q => q == r) [] H0 H) (h : f_X5_otherEnd r a1 a2 H = some res) : Ch (fun q => q == r) [] H0 res.2 := by
  unfold f_X5_otherEnd at h
  replace h := (gd_some h).2
  replace h := it_c h
  rcases h with h | h
  · replace h := (gd_some h).2
    cases h
    exact q
  · replace h := (gd_some h).2
    replace h := it_c h
    rcases h with h | h
    · replace h := (gd_some h).2
      cases h
      exact q
    · cases h
      exact q
theorem ch_X5_lineUp {r : Nat}  {a1 : Int32} {a2 : Int32} {H0 H : Hp} {res : Unit × Hp} (q : Ch (fun q => q == r) [(2, 3, some 9), (2, 29, none), (2, 30, none), (2, 31, none)] H0 H) (h : f_X5_lineUp r a1 a2 H = some res) : Ch (fun q => q == r) [(2, 3, some 9), (2, 29, none), (2, 30, none), (2, 31, none)] H0 res.2 := by
  unfold f_X5_lineUp at h
  replace h := it_c h
  rcases h with h | h
  · cases h
    exact q
  · replace h := (gd_some h).2
    replace h := hl_c (P := Ch (fun q => q == r) [(2, 3, some 9), (2, 29, none), (2, 30, none), (2, 31, none)] H0) (Ch.sI (rsr r) rfl q) h
    clear q
    obtain ⟨H2, q, h⟩ := h
    replace h := hl_c (P := Ch (fun q => q == r) [(2, 3, some 9), (2, 29, none), (2, 30, none), (2, 31, none)] H0) (Ch.sI (rsr r) rfl q) h
    clear q
    obtain ⟨H3, q, h⟩ := h
    replace h := (gd_some h).2
    replace h := hl_c (P := Ch (fun q => q == r) [(2, 3, some 9), (2, 29, none), (2, 30, none), (2, 31, none)] H0) (Ch.sI (rsr r) rfl q) h
    clear q
    obtain ⟨H4, q, h⟩ := h
    replace h := (gd_some h).2
    replace h := hl_c (P := Ch (fun q => q == r) [(2, 3, some 9), (2, 29, none), (2, 30, none), (2, 31, none)] H0) (Ch.sI (rsr r) rfl q) h
    clear q
    obtain ⟨H5, q, h⟩ := h
    cases h
    exact q
theorem chL_X5_lineUpFromEnd_2 {r : Nat}  {k : Hp → Option (Unit × Hp)} {res : Unit × Hp} {H0 : Hp} (hk : ∀ (H : Hp), Ch (fun q => q == r) [(2, 3, some 9), (2, 29, none), (2, 30, none), (2, 31, none)] H0 H → k H = some res → Ch (fun q => q == r) [(2, 3, some 9), (2, 29, none), (2, 30, none), (2, 31, none)] H0 res.2) : ∀ (n : Nat) (x1 : Int32) (H : Hp), Ch (fun q => q == r) [(2, 3, some 9), (2, 29, none), (2, 30, none), (2, 31, none)] H0 H → L_X5_lineUpFromEnd_2 r k n x1 H = some res → Ch (fun q => q == r) [(2, 3, some 9), (2, 29, none), (2, 30, none), (2, 31, none)] H0 res.2 := by
  intro n
  induction n with
  | zero => intro x1 H q h; exact nomatch (show (none : Option (Unit × Hp)) = some res from h)
  | succ n ih =>
    intro x1 H q h
    rw [L_X5_lineUpFromEnd_2] at h
    replace h := it_c h
    rcases h with h | h
    · exact hk H q h
    · replace h := (gd_some h).2
      replace h := hl_c (P := Ch (fun q => q == r) [(2, 3, some 9), (2, 29, none), (2, 30, none), (2, 31, none)] H0) (Ch.sI (rsr r) rfl q) h
      clear q
      obtain ⟨H2, q, h⟩ := h
      replace h := (gd_some h).2
      replace h := hl_c (P := Ch (fun q => q == r) [(2, 3, some 9), (2, 29, none), (2, 30, none), (2, 31, none)] H0) (Ch.sI (rsr r) rfl q) h
      clear q
      obtain ⟨H3, q, h⟩ := h
      replace h := vl_c h
      obtain ⟨v4, h⟩ := h
      exact ih v4 H3 q h
theorem chL_X5_lineUpFromEnd_68 {r : Nat}  {b1 : Int32} {k : Hp → Option (Unit × Hp)} {res : Unit × Hp} {H0 : Hp} (hk : ∀ (H : Hp), Ch (fun q => q == r) [(2, 3, some 9), (2, 29, none), (2, 30, none), (2, 31, none)] H0 H → k H = some res → Ch (fun q => q == r) [(2, 3, some 9), (2, 29, none), (2, 30, none), (2, 31, none)] H0 res.2) : ∀ (n : Nat) (x2 : Int32) (H : Hp), Ch (fun q => q == r) [(2, 3, some 9), (2, 29, none), (2, 30, none), (2, 31, none)] H0 H → L_X5_lineUpFromEnd_68 r b1 k n x2 H = some res → Ch (fun q => q == r) [(2, 3, some 9), (2, 29, none), (2, 30, none), (2, 31, none)] H0 res.2 := by
  intro n
  induction n with
  | zero => intro x2 H q h; exact nomatch (show (none : Option (Unit × Hp)) = some res from h)
  | succ n ih =>
    intro x2 H q h
    rw [L_X5_lineUpFromEnd_68] at h
    replace h := it_c h
    rcases h with h | h
    · exact hk H q h
    · replace h := (gd_some h).2
      refine jn_c1 (P := Ch (fun q => q == r) [(2, 3, some 9), (2, 29, none), (2, 30, none), (2, 31, none)] H0) h (fun y13 H14 q h => ?_) (fun hj12 h => ?_)
      · replace h := it_c h
        rcases h with h | h
        · replace h := vl_c h
          obtain ⟨v16, h⟩ := h
          exact ih v16 H14 q h
        · replace h := (gd_some h).2
          replace h := it_c h
          rcases h with h | h
          · replace h := bnd_some h
            obtain ⟨w20, H19, hc, h⟩ := h
            replace q := Ch.tr (fun _ h => h) (by decide) q (ch_X5_lineUp (Ch.rf _) hc)
            replace h := vl_c h
            obtain ⟨v21, h⟩ := h
            exact ih v21 H19 q h
          · replace h := vl_c h
            obtain ⟨v18, h⟩ := h
            exact ih v18 H14 q h
      · replace h := it_c h
        rcases h with h | h
        · exact hj12 (-1) H q h
        · replace h := (gd_some h).2
          replace h := bnd_some h
          obtain ⟨w24, H23, hc, h⟩ := h
          replace q := Ch.tr (fun _ h => h) (by decide) q (ch_X5_otherEnd (Ch.rf _) hc)
          exact hj12 w24 H23 q h
theorem chL_X5_lineUpFromEnd_52 {r : Nat}  {k : Hp → Option (Unit × Hp)} {res : Unit × Hp} {H0 : Hp} (hk : ∀ (H : Hp), Ch (fun q => q == r) [(2, 3, some 9), (2, 29, none), (2, 30, none), (2, 31, none)] H0 H → k H = some res → Ch (fun q => q == r) [(2, 3, some 9), (2, 29, none), (2, 30, none), (2, 31, none)] H0 res.2) : ∀ (n : Nat) (x1 : Int32) (H : Hp), Ch (fun q => q == r) [(2, 3, some 9), (2, 29, none), (2, 30, none), (2, 31, none)] H0 H → L_X5_lineUpFromEnd_52 r k n x1 H = some res → Ch (fun q => q == r) [(2, 3, some 9), (2, 29, none), (2, 30, none), (2, 31, none)] H0 res.2 := by
  intro n
  induction n with
  | zero => intro x1 H q h; exact nomatch (show (none : Option (Unit × Hp)) = some res from h)
  | succ n ih =>
    intro x1 H q h
    rw [L_X5_lineUpFromEnd_52] at h
    replace h := it_c h
    rcases h with h | h
    · exact hk H q h
    · replace h := it_c h
      rcases h with h | h
      · exact hk H q h
      · refine chL_X5_lineUpFromEnd_68 (fun H25 q h => ?_) _ 0 H q h
        replace h := vl_c h
        obtain ⟨v26, h⟩ := h
        exact ih v26 H25 q h
theorem ch_X5_lineUpFromEnd {r : Nat}  {H0 H : Hp} {res : Unit × Hp} (q : Ch (fun q => q == r) [(2, 3, some 9), (2, 29, none), (2, 30, none), (2, 31, none)] H0 H) (h : f_X5_lineUpFromEnd r H = some res) : Ch (fun q => q == r) [(2, 3, some 9), (2, 29, none), (2, 30, none), (2, 31, none)] H0 res.2 := by
  unfold f_X5_lineUpFromEnd at h
  refine chL_X5_lineUpFromEnd_2 (fun H5 q h => ?_) _ 0 H q h
  replace h := hl_c (P := Ch (fun q => q == r) [(2, 3, some 9), (2, 29, none), (2, 30, none), (2, 31, none)] H0) (Ch.sI (rsr r) rfl q) h
  clear q
  obtain ⟨H6, q, h⟩ := h
  replace h := bnd_some h
  obtain ⟨w8, H7, hc, h⟩ := h
  replace q := Ch.tr (fun _ h => h) (by decide) q (ch_X5_lineUp (Ch.rf _) hc)
  refine chL_X5_lineUpFromEnd_52 (fun H27 q h => ?_) _ 0 H7 q h
  cases h
  exact q
theorem ch_X5_grow {r : Nat}  {H0 H : Hp} {res : Unit × Hp} (q : Ch (fun q => q == r) [(2, 3, some 9), (2, 3, some 10), (2, 3, some 11), (2, 26, none), (2, 27, none), (2, 28, none), (2, 29, none), (2, 30, none), (2, 31, none)] H0 H) (h : f_X5_grow r H = some res) : Ch (fun q => q == r) [(2, 3, some 9), (2, 3, some 10), (2, 3, some 11), (2, 26, none), (2, 27, none), (2, 28, none), (2, 29, none), (2, 30, none), (2, 31, none)] H0 res.2 := by
  unfold f_X5_grow at h
  replace h := bnd_some h
  obtain ⟨w2, H1, hc, h⟩ := h
  replace q := Ch.tr (fun _ h => h) (by decide) q (ch_X5_sortByGuess (Ch.rf _) hc)
  replace h := bnd_some h
  obtain ⟨w4, H3, hc, h⟩ := h
  replace q := Ch.tr (fun _ h => h) (by decide) q (ch_X5_takeLinks (Ch.rf _) hc)
  replace h := bnd_some h
  obtain ⟨w6, H5, hc, h⟩ := h
  replace q := Ch.tr (fun _ h => h) (by decide) q (ch_X5_lineUpFromEnd (Ch.rf _) hc)
  cases h
  exact q
theorem chL_X5_isBelow_5 {r : Nat}  {b2 : Int32} {k : Hp → Option (Int32 × Hp)} {res : Int32 × Hp} {H0 : Hp} (hk : ∀ (H : Hp), Ch (fun q => q == r) [] H0 H → k H = some res → Ch (fun q => q == r) [] H0 res.2) : ∀ (n : Nat) (x3 : Int32) (x4 : Int32) (H : Hp), Ch (fun q => q == r) [] H0 H → L_X5_isBelow_5 r b2 k n x3 x4 H = some res → Ch (fun q => q == r) [] H0 res.2 := by
  intro n
  induction n with
  | zero => intro x3 x4 H q h; exact nomatch (show (none : Option (Int32 × Hp)) = some res from h)
  | succ n ih =>
    intro x3 x4 H q h
    rw [L_X5_isBelow_5] at h
    replace h := it_c h
    rcases h with h | h
    · exact hk H q h
    · replace h := it_c h
      rcases h with h | h
      · cases h
        exact q
      · replace h := (gd_some h).2
        replace h := it_c h
        rcases h with h | h
        · cases h
          exact q
        · replace h := (gd_some h).2
          replace h := bnd_some h
          obtain ⟨w5, H4, hc, h⟩ := h
          replace q := Ch.tr (fun _ h => h) (by decide) q (ch_X5_otherEnd (Ch.rf _) hc)
          replace h := it_c h
          rcases h with h | h
          · cases h
            exact q
          · replace h := vl_c h
            obtain ⟨v7, h⟩ := h
            exact ih w5 v7 H4 q h
theorem ch_X5_isBelow {r : Nat}  {a1 : Int32} {a2 : Int32} {H0 H : Hp} {res : Int32 × Hp} (q : Ch (fun q => q == r) [] H0 H) (h : f_X5_isBelow r a1 a2 H = some res) : Ch (fun q => q == r) [] H0 res.2 := by
  unfold f_X5_isBelow at h
  refine chL_X5_isBelow_5 (fun H8 q h => ?_) _ a1 0 H q h
  cases h
  exact q
theorem ch_X5_placeInRing {r : Nat}  {a1 : Int32} {a2 : Int32} {H0 H : Hp} {res : Int32 × Hp} (q : Ch (fun q => q == r) [] H0 H) (h : f_X5_placeInRing r a1 a2 H = some res) : Ch (fun q => q == r) [] H0 res.2 := by
  unfold f_X5_placeInRing at h
  replace h := it_c h
  rcases h with h | h
  · cases h
    exact q
  · replace h := (gd_some h).2
    replace h := it_c h
    rcases h with h | h
    · cases h
      exact q
    · replace h := (gd_some h).2
      replace h := (gd_some h).2
      refine jn_c1 (P := Ch (fun q => q == r) [] H0) h (fun y4 H5 q h => ?_) (fun hj3 h => ?_)
      · replace h := (gd_some h).2
        replace h := bnd_some h
        obtain ⟨w7, H6, hc, h⟩ := h
        replace q := Ch.tr (fun _ h => h) (by decide) q (ch_X5_isBelow (Ch.rf _) hc)
        replace h := (gd_some h).2
        replace h := bnd_some h
        obtain ⟨w9, H8, hc, h⟩ := h
        replace q := Ch.tr (fun _ h => h) (by decide) q (ch_X5_isBelow (Ch.rf _) hc)
        replace h := it_c h
        rcases h with h | h
        · cases h
          exact q
        · replace h := (gd_some h).2
          replace h := it_c h
          rcases h with h | h
          · replace h := it_c h
            rcases h with h | h
            · cases h
              exact q
            · cases h
              exact q
          · replace h := it_c h
            rcases h with h | h
            · cases h
              exact q
            · cases h
              exact q
      · replace h := it_c h
        rcases h with h | h
        · replace h := (gd_some h).2
          exact hj3 ((gI H (r + 2) 13 (Int32.toNatClampNeg a2))) H q h
        · replace h := (gd_some h).2
          exact hj3 ((gI H (r + 2) 14 (Int32.toNatClampNeg a2))) H q h
theorem ch_X5_carry {r : Nat}  {a1 : Int32} {a2 : Int64} {H0 H : Hp} {res : Unit × Hp} (q : Ch (fun q => q == r) [(2, 32, none), (2, 33, none)] H0 H) (h : f_X5_carry r a1 a2 H = some res) : Ch (fun q => q == r) [(2, 32, none), (2, 33, none)] H0 res.2 := by
  unfold f_X5_carry at h
  replace h := (gd_some h).2
  replace h := hl_c (P := Ch (fun q => q == r) [(2, 32, none), (2, 33, none)] H0) (Ch.sJ (rsr r) rfl q) h
  clear q
  obtain ⟨H1, q, h⟩ := h
  replace h := (gd_some h).2
  replace h := (gd_some h).2
  replace h := (gd_some h).2
  replace h := hl_c (P := Ch (fun q => q == r) [(2, 32, none), (2, 33, none)] H0) (Ch.sJ (rsr r) rfl q) h
  clear q
  obtain ⟨H2, q, h⟩ := h
  replace h := (gd_some h).2
  replace h := (gd_some h).2
  replace h := (gd_some h).2
  replace h := hl_c (P := Ch (fun q => q == r) [(2, 32, none), (2, 33, none)] H0) (Ch.sJ (rsr r) rfl q) h
  clear q
  obtain ⟨H3, q, h⟩ := h
  cases h
  exact q
theorem chL_X5_rebuild_2 {r : Nat}  {k : Hp → Option (Unit × Hp)} {res : Unit × Hp} {H0 : Hp} (hk : ∀ (H : Hp), Ch (fun q => q == r) [(2, 32, none), (2, 33, none)] H0 H → k H = some res → Ch (fun q => q == r) [(2, 32, none), (2, 33, none)] H0 res.2) : ∀ (n : Nat) (x3 : Int32) (H : Hp), Ch (fun q => q == r) [(2, 32, none), (2, 33, none)] H0 H → L_X5_rebuild_2 r k n x3 H = some res → Ch (fun q => q == r) [(2, 32, none), (2, 33, none)] H0 res.2 := by
  intro n
  induction n with
  | zero => intro x3 H q h; exact nomatch (show (none : Option (Unit × Hp)) = some res from h)
  | succ n ih =>
    intro x3 H q h
    rw [L_X5_rebuild_2] at h
    replace h := it_c h
    rcases h with h | h
    · exact hk H q h
    · replace h := (gd_some h).2
      replace h := (gd_some h).2
      replace h := hl_c (P := Ch (fun q => q == r) [(2, 32, none), (2, 33, none)] H0) (Ch.sJ (rsr r) rfl q) h
      clear q
      obtain ⟨H2, q, h⟩ := h
      replace h := vl_c h
      obtain ⟨v3, h⟩ := h
      exact ih v3 H2 q h
theorem chL_X5_rebuild_44 {r : Nat}  {k : Hp → Option (Unit × Hp)} {res : Unit × Hp} {H0 : Hp} (hk : ∀ (H : Hp), Ch (fun q => q == r) [(2, 32, none), (2, 33, none)] H0 H → k H = some res → Ch (fun q => q == r) [(2, 32, none), (2, 33, none)] H0 res.2) : ∀ (n : Nat) (x3 : Int32) (H : Hp), Ch (fun q => q == r) [(2, 32, none), (2, 33, none)] H0 H → L_X5_rebuild_44 r k n x3 H = some res → Ch (fun q => q == r) [(2, 32, none), (2, 33, none)] H0 res.2 := by
  intro n
  induction n with
  | zero => intro x3 H q h; exact nomatch (show (none : Option (Unit × Hp)) = some res from h)
  | succ n ih =>
    intro x3 H q h
    rw [L_X5_rebuild_44] at h
    replace h := it_c h
    rcases h with h | h
    · exact hk H q h
    · replace h := (gd_some h).2
      replace h := it_c h
      rcases h with h | h
      · replace h := (gd_some h).2
        replace h := bnd_some h
        obtain ⟨w10, H9, hc, h⟩ := h
        replace q := Ch.tr (fun _ h => h) (by decide) q (ch_X5_carry (Ch.rf _) hc)
        replace h := vl_c h
        obtain ⟨v11, h⟩ := h
        exact ih v11 H9 q h
      · replace h := vl_c h
        obtain ⟨v8, h⟩ := h
        exact ih v8 H q h
theorem chL_X5_rebuild_85 {r : Nat}  {k : Hp → Option (Unit × Hp)} {res : Unit × Hp} {H0 : Hp} (hk : ∀ (H : Hp), Ch (fun q => q == r) [(2, 32, none), (2, 33, none)] H0 H → k H = some res → Ch (fun q => q == r) [(2, 32, none), (2, 33, none)] H0 res.2) : ∀ (n : Nat) (x3 : Int32) (H : Hp), Ch (fun q => q == r) [(2, 32, none), (2, 33, none)] H0 H → L_X5_rebuild_85 r k n x3 H = some res → Ch (fun q => q == r) [(2, 32, none), (2, 33, none)] H0 res.2 := by
  intro n
  induction n with
  | zero => intro x3 H q h; exact nomatch (show (none : Option (Unit × Hp)) = some res from h)
  | succ n ih =>
    intro x3 H q h
    rw [L_X5_rebuild_85] at h
    replace h := it_c h
    rcases h with h | h
    · exact hk H q h
    · replace h := (gd_some h).2
      replace h := vl_c h
      obtain ⟨v15, h⟩ := h
      replace h := (gd_some h).2
      replace h := vl_c h
      obtain ⟨v16, h⟩ := h
      replace h := it_c h
      rcases h with h | h
      · replace h := vl_c h
        obtain ⟨v18, h⟩ := h
        exact ih v18 H q h
      · replace h := (gd_some h).2
        replace h := it_c h
        rcases h with h | h
        · replace h := (gd_some h).2
          replace h := bnd_some h
          obtain ⟨w24, H23, hc, h⟩ := h
          replace q := Ch.tr (fun _ h => h) (by decide) q (ch_X5_carry (Ch.rf _) hc)
          replace h := vl_c h
          obtain ⟨v25, h⟩ := h
          exact ih v25 H23 q h
        · replace h := (gd_some h).2
          replace h := bnd_some h
          obtain ⟨w21, H20, hc, h⟩ := h
          replace q := Ch.tr (fun _ h => h) (by decide) q (ch_X5_carry (Ch.rf _) hc)
          replace h := vl_c h
          obtain ⟨v22, h⟩ := h
          exact ih v22 H20 q h
theorem ch_X5_rebuild {r : Nat}  {H0 H : Hp} {res : Unit × Hp} (q : Ch (fun q => q == r) [(2, 32, none), (2, 33, none)] H0 H) (h : f_X5_rebuild r H = some res) : Ch (fun q => q == r) [(2, 32, none), (2, 33, none)] H0 res.2 := by
  unfold f_X5_rebuild at h
  refine chL_X5_rebuild_2 (fun H4 q h => ?_) _ 0 H q h
  replace h := (gd_some h).2
  replace h := hl_c (P := Ch (fun q => q == r) [(2, 32, none), (2, 33, none)] H0) (Ch.sJ (rsr r) rfl q) h
  clear q
  obtain ⟨H5, q, h⟩ := h
  refine chL_X5_rebuild_44 (fun H12 q h => ?_) _ 0 H5 q h
  replace h := vl_c h
  obtain ⟨v13, h⟩ := h
  refine chL_X5_rebuild_85 (fun H26 q h => ?_) _ v13 H12 q h
  cases h
  exact q
theorem ch_X7_countBeyond {r : Nat}  {a1 : Int32} {H0 H : Hp} {res : Int64 × Hp} (q : Ch (fun q => q == r) [] H0 H) (h : f_X7_countBeyond r a1 H = some res) : Ch (fun q => q == r) [] H0 res.2 := by
  unfold f_X7_countBeyond at h
  replace h := (gd_some h).2
  replace h := it_c h
  rcases h with h | h
  · replace h := (gd_some h).2
    replace h := (gd_some h).2
    cases h
    exact q
  · cases h
    exact q
theorem chL_X7_countFrom_18 {r : Nat}  {b1 : Int32} {k : Int64 → Hp → Option (Int64 × Hp)} {res : Int64 × Hp} {H0 : Hp} (hk : ∀ (z2 : Int64) (H : Hp), Ch (fun q => q == r) [] H0 H → k z2 H = some res → Ch (fun q => q == r) [] H0 res.2) : ∀ (n : Nat) (x2 : Int64) (x4 : Int32) (H : Hp), Ch (fun q => q == r) [] H0 H → L_X7_countFrom_18 r b1 k n x2 x4 H = some res → Ch (fun q => q == r) [] H0 res.2 := by
  intro n
  induction n with
  | zero => intro x2 x4 H q h; exact nomatch (show (none : Option (Int64 × Hp)) = some res from h)
  | succ n ih =>
    intro x2 x4 H q h
    rw [L_X7_countFrom_18] at h
    replace h := (gd_some h).2
    replace h := it_c h
    rcases h with h | h
    · exact hk x2 H q h
    · replace h := (gd_some h).2
      replace h := bnd_some h
      obtain ⟨w6, H5, hc, h⟩ := h
      replace q := Ch.tr (fun _ h => h) (by decide) q (ch_X7_countBeyond (Ch.rf _) hc)
      replace h := it_c h
      rcases h with h | h
      · cases h
        exact q
      · replace h := vl_c h
        obtain ⟨v8, h⟩ := h
        replace h := vl_c h
        obtain ⟨v9, h⟩ := h
        exact ih v8 v9 H5 q h
theorem ch_X7_countFrom {r : Nat}  {a1 : Int32} {H0 H : Hp} {res : Int64 × Hp} (q : Ch (fun q => q == r) [] H0 H) (h : f_X7_countFrom r a1 H = some res) : Ch (fun q => q == r) [] H0 res.2 := by
  unfold f_X7_countFrom at h
  replace h := bnd_some h
  obtain ⟨w2, H1, hc, h⟩ := h
  replace q := Ch.tr (fun _ h => h) (by decide) q (ch_X3_endsIn (Ch.rf _) hc)
  replace h := it_c h
  rcases h with h | h
  · refine chL_X7_countFrom_18 (fun z10 H11 q h => ?_) _ 0 0 H1 q h
    cases h
    exact q
  · cases h
    exact q
theorem chL_X7_countFromBlocks_2 {r : Nat}  {k : Hp → Option (Int32 × Hp)} {res : Int32 × Hp} {H0 : Hp} (hk : ∀ (H : Hp), Ch (fun q => q == r) [(2, 18, none)] H0 H → k H = some res → Ch (fun q => q == r) [(2, 18, none)] H0 res.2) : ∀ (n : Nat) (x1 : Int32) (H : Hp), Ch (fun q => q == r) [(2, 18, none)] H0 H → L_X7_countFromBlocks_2 r k n x1 H = some res → Ch (fun q => q == r) [(2, 18, none)] H0 res.2 := by
  intro n
  induction n with
  | zero => intro x1 H q h; exact nomatch (show (none : Option (Int32 × Hp)) = some res from h)
  | succ n ih =>
    intro x1 H q h
    rw [L_X7_countFromBlocks_2] at h
    replace h := it_c h
    rcases h with h | h
    · exact hk H q h
    · replace h := (gd_some h).2
      replace h := hl_c (P := Ch (fun q => q == r) [(2, 18, none)] H0) (Ch.sJ (rsr r) rfl q) h
      clear q
      obtain ⟨H2, q, h⟩ := h
      replace h := vl_c h
      obtain ⟨v3, h⟩ := h
      exact ih v3 H2 q h
theorem chL_X7_countFromBlocks_41 {r : Nat}  {b1 : Int32} {k : Hp → Option (Int32 × Hp)} {res : Int32 × Hp} {H0 : Hp} (hk : ∀ (H : Hp), Ch (fun q => q == r) [(2, 18, none)] H0 H → k H = some res → Ch (fun q => q == r) [(2, 18, none)] H0 res.2) : ∀ (n : Nat) (x2 : Int32) (H : Hp), Ch (fun q => q == r) [(2, 18, none)] H0 H → L_X7_countFromBlocks_41 r b1 k n x2 H = some res → Ch (fun q => q == r) [(2, 18, none)] H0 res.2 := by
  intro n
  induction n with
  | zero => intro x2 H q h; exact nomatch (show (none : Option (Int32 × Hp)) = some res from h)
  | succ n ih =>
    intro x2 H q h
    rw [L_X7_countFromBlocks_41] at h
    replace h := it_c h
    rcases h with h | h
    · exact hk H q h
    · replace h := bnd_some h
      obtain ⟨w8, H7, hc, h⟩ := h
      replace q := Ch.tr (fun _ h => h) (by decide) q (ch_X7_countFrom (Ch.rf _) hc)
      replace h := (gd_some h).2
      replace h := hl_c (P := Ch (fun q => q == r) [(2, 18, none)] H0) (Ch.sJ (rsr r) rfl q) h
      clear q
      obtain ⟨H9, q, h⟩ := h
      replace h := vl_c h
      obtain ⟨v10, h⟩ := h
      exact ih v10 H9 q h
theorem chL_X7_countFromBlocks_28 {r : Nat}  {k : Hp → Option (Int32 × Hp)} {res : Int32 × Hp} {H0 : Hp} (hk : ∀ (H : Hp), Ch (fun q => q == r) [(2, 18, none)] H0 H → k H = some res → Ch (fun q => q == r) [(2, 18, none)] H0 res.2) : ∀ (n : Nat) (x1 : Int32) (H : Hp), Ch (fun q => q == r) [(2, 18, none)] H0 H → L_X7_countFromBlocks_28 r k n x1 H = some res → Ch (fun q => q == r) [(2, 18, none)] H0 res.2 := by
  intro n
  induction n with
  | zero => intro x1 H q h; exact nomatch (show (none : Option (Int32 × Hp)) = some res from h)
  | succ n ih =>
    intro x1 H q h
    rw [L_X7_countFromBlocks_28] at h
    replace h := it_c h
    rcases h with h | h
    · exact hk H q h
    · refine chL_X7_countFromBlocks_41 (fun H11 q h => ?_) _ 0 H q h
      replace h := vl_c h
      obtain ⟨v12, h⟩ := h
      exact ih v12 H11 q h
theorem chL_X7_countFromBlocks_77 {r : Nat}  {k : Hp → Option (Int32 × Hp)} {res : Int32 × Hp} {H0 : Hp} (hk : ∀ (H : Hp), Ch (fun q => q == r) [(2, 18, none)] H0 H → k H = some res → Ch (fun q => q == r) [(2, 18, none)] H0 res.2) : ∀ (n : Nat) (x1 : Int32) (H : Hp), Ch (fun q => q == r) [(2, 18, none)] H0 H → L_X7_countFromBlocks_77 r k n x1 H = some res → Ch (fun q => q == r) [(2, 18, none)] H0 res.2 := by
  intro n
  induction n with
  | zero => intro x1 H q h; exact nomatch (show (none : Option (Int32 × Hp)) = some res from h)
  | succ n ih =>
    intro x1 H q h
    rw [L_X7_countFromBlocks_77] at h
    replace h := it_c h
    rcases h with h | h
    · exact hk H q h
    · replace h := (gd_some h).2
      replace h := it_c h
      rcases h with h | h
      · cases h
        exact q
      · replace h := vl_c h
        obtain ⟨v16, h⟩ := h
        exact ih v16 H q h
theorem ch_X7_countFromBlocks {r : Nat}  {H0 H : Hp} {res : Int32 × Hp} (q : Ch (fun q => q == r) [(2, 18, none)] H0 H) (h : f_X7_countFromBlocks r H = some res) : Ch (fun q => q == r) [(2, 18, none)] H0 res.2 := by
  unfold f_X7_countFromBlocks at h
  refine chL_X7_countFromBlocks_2 (fun H4 q h => ?_) _ 0 H q h
  refine chL_X7_countFromBlocks_28 (fun H13 q h => ?_) _ 0 H4 q h
  refine chL_X7_countFromBlocks_77 (fun H17 q h => ?_) _ 0 H13 q h
  cases h
  exact q
theorem chL_X7_sumAdds_18 {r : Nat}  {b1 : Int32} {k : Hp → Option (Unit × Hp)} {res : Unit × Hp} {H0 : Hp} (hk : ∀ (H : Hp), Ch (fun q => q == r) [(2, 21, none)] H0 H → k H = some res → Ch (fun q => q == r) [(2, 21, none)] H0 res.2) : ∀ (n : Nat) (x2 : Int64) (x4 : Int32) (H : Hp), Ch (fun q => q == r) [(2, 21, none)] H0 H → L_X7_sumAdds_18 r b1 k n x2 x4 H = some res → Ch (fun q => q == r) [(2, 21, none)] H0 res.2 := by
  intro n
  induction n with
  | zero => intro x2 x4 H q h; exact nomatch (show (none : Option (Unit × Hp)) = some res from h)
  | succ n ih =>
    intro x2 x4 H q h
    rw [L_X7_sumAdds_18] at h
    replace h := (gd_some h).2
    replace h := it_c h
    rcases h with h | h
    · exact hk H q h
    · replace h := (gd_some h).2
      replace h := vl_c h
      obtain ⟨v3, h⟩ := h
      replace h := (gd_some h).2
      replace h := hl_c (P := Ch (fun q => q == r) [(2, 21, none)] H0) (Ch.sJ (rsr r) rfl q) h
      clear q
      obtain ⟨H4, q, h⟩ := h
      replace h := bnd_some h
      obtain ⟨w6, H5, hc, h⟩ := h
      replace q := Ch.tr (fun _ h => h) (by decide) q (ch_X7_countBeyond (Ch.rf _) hc)
      replace h := vl_c h
      obtain ⟨v7, h⟩ := h
      replace h := vl_c h
      obtain ⟨v8, h⟩ := h
      exact ih v7 v8 H5 q h
theorem chL_X7_sumAdds_2 {r : Nat}  {k : Hp → Option (Unit × Hp)} {res : Unit × Hp} {H0 : Hp} (hk : ∀ (H : Hp), Ch (fun q => q == r) [(2, 21, none)] H0 H → k H = some res → Ch (fun q => q == r) [(2, 21, none)] H0 res.2) : ∀ (n : Nat) (x1 : Int32) (H : Hp), Ch (fun q => q == r) [(2, 21, none)] H0 H → L_X7_sumAdds_2 r k n x1 H = some res → Ch (fun q => q == r) [(2, 21, none)] H0 res.2 := by
  intro n
  induction n with
  | zero => intro x1 H q h; exact nomatch (show (none : Option (Unit × Hp)) = some res from h)
  | succ n ih =>
    intro x1 H q h
    rw [L_X7_sumAdds_2] at h
    replace h := it_c h
    rcases h with h | h
    · exact hk H q h
    · refine chL_X7_sumAdds_18 (fun H9 q h => ?_) _ 0 0 H q h
      replace h := vl_c h
      obtain ⟨v10, h⟩ := h
      exact ih v10 H9 q h
theorem ch_X7_sumAdds {r : Nat}  {H0 H : Hp} {res : Unit × Hp} (q : Ch (fun q => q == r) [(2, 21, none)] H0 H) (h : f_X7_sumAdds r H = some res) : Ch (fun q => q == r) [(2, 21, none)] H0 res.2 := by
  unfold f_X7_sumAdds at h
  refine chL_X7_sumAdds_2 (fun H11 q h => ?_) _ 0 H q h
  cases h
  exact q
theorem chL_X7_setBases_2 {r : Nat}  {k : Hp → Option (Unit × Hp)} {res : Unit × Hp} {H0 : Hp} (hk : ∀ (H : Hp), Ch (fun q => q == r) [(2, 2, some 10), (2, 19, none)] H0 H → k H = some res → Ch (fun q => q == r) [(2, 2, some 10), (2, 19, none)] H0 res.2) : ∀ (n : Nat) (x1 : Int32) (H : Hp), Ch (fun q => q == r) [(2, 2, some 10), (2, 19, none)] H0 H → L_X7_setBases_2 r k n x1 H = some res → Ch (fun q => q == r) [(2, 2, some 10), (2, 19, none)] H0 res.2 := by
  intro n
  induction n with
  | zero => intro x1 H q h; exact nomatch (show (none : Option (Unit × Hp)) = some res from h)
  | succ n ih =>
    intro x1 H q h
    rw [L_X7_setBases_2] at h
    replace h := it_c h
    rcases h with h | h
    · exact hk H q h
    · replace h := (gd_some h).2
      replace h := hl_c (P := Ch (fun q => q == r) [(2, 2, some 10), (2, 19, none)] H0) (Ch.sJ (rsr r) rfl q) h
      clear q
      obtain ⟨H2, q, h⟩ := h
      replace h := vl_c h
      obtain ⟨v3, h⟩ := h
      exact ih v3 H2 q h
theorem chL_X7_setBases_30 {r : Nat}  {k : Hp → Option (Unit × Hp)} {res : Unit × Hp} {H0 : Hp} (hk : ∀ (H : Hp), Ch (fun q => q == r) [(2, 2, some 10), (2, 19, none)] H0 H → k H = some res → Ch (fun q => q == r) [(2, 2, some 10), (2, 19, none)] H0 res.2) : ∀ (n : Nat) (x1 : Int32) (H : Hp), Ch (fun q => q == r) [(2, 2, some 10), (2, 19, none)] H0 H → L_X7_setBases_30 r k n x1 H = some res → Ch (fun q => q == r) [(2, 2, some 10), (2, 19, none)] H0 res.2 := by
  intro n
  induction n with
  | zero => intro x1 H q h; exact nomatch (show (none : Option (Unit × Hp)) = some res from h)
  | succ n ih =>
    intro x1 H q h
    rw [L_X7_setBases_30] at h
    replace h := it_c h
    rcases h with h | h
    · exact hk H q h
    · replace h := (gd_some h).2
      replace h := it_c h
      rcases h with h | h
      · replace h := vl_c h
        obtain ⟨v7, h⟩ := h
        exact ih v7 H q h
      · replace h := (gd_some h).2
        replace h := (gd_some h).2
        replace h := hl_c (P := Ch (fun q => q == r) [(2, 2, some 10), (2, 19, none)] H0) (Ch.sJ (rsr r) rfl q) h
        clear q
        obtain ⟨H8, q, h⟩ := h
        replace h := vl_c h
        obtain ⟨v9, h⟩ := h
        exact ih v9 H8 q h
theorem chL_X7_setBases_86 {r : Nat}  {k : Hp → Option (Unit × Hp)} {res : Unit × Hp} {H0 : Hp} (hk : ∀ (H : Hp), Ch (fun q => q == r) [(2, 2, some 10), (2, 19, none)] H0 H → k H = some res → Ch (fun q => q == r) [(2, 2, some 10), (2, 19, none)] H0 res.2) : ∀ (n : Nat) (x1 : Int32) (H : Hp), Ch (fun q => q == r) [(2, 2, some 10), (2, 19, none)] H0 H → L_X7_setBases_86 r k n x1 H = some res → Ch (fun q => q == r) [(2, 2, some 10), (2, 19, none)] H0 res.2 := by
  intro n
  induction n with
  | zero => intro x1 H q h; exact nomatch (show (none : Option (Unit × Hp)) = some res from h)
  | succ n ih =>
    intro x1 H q h
    rw [L_X7_setBases_86] at h
    replace h := it_c h
    rcases h with h | h
    · exact hk H q h
    · replace h := (gd_some h).2
      replace h := it_c h
      rcases h with h | h
      · replace h := vl_c h
        obtain ⟨v14, h⟩ := h
        exact ih v14 H q h
      · replace h := (gd_some h).2
        replace h := hl_c (P := Ch (fun q => q == r) [(2, 2, some 10), (2, 19, none)] H0) (Ch.sJ (rsr r) rfl q) h
        clear q
        obtain ⟨H15, q, h⟩ := h
        replace h := (gd_some h).2
        replace h := hl_c (P := Ch (fun q => q == r) [(2, 2, some 10), (2, 19, none)] H0) (Ch.sJ (rsr r) rfl q) h
        clear q
        obtain ⟨H16, q, h⟩ := h
        replace h := vl_c h
        obtain ⟨v17, h⟩ := h
        exact ih v17 H16 q h
theorem ch_X7_setBases {r : Nat}  {H0 H : Hp} {res : Unit × Hp} (q : Ch (fun q => q == r) [(2, 2, some 10), (2, 19, none)] H0 H) (h : f_X7_setBases r H = some res) : Ch (fun q => q == r) [(2, 2, some 10), (2, 19, none)] H0 res.2 := by
  unfold f_X7_setBases at h
  refine chL_X7_setBases_2 (fun H4 q h => ?_) _ 0 H q h
  refine chL_X7_setBases_30 (fun H10 q h => ?_) _ 0 H4 q h
  replace h := (gd_some h).2
  replace h := hl_c (P := Ch (fun q => q == r) [(2, 2, some 10), (2, 19, none)] H0) (Ch.sJ (rsr r) rfl q) h
  clear q
  obtain ⟨H11, q, h⟩ := h
  refine chL_X7_setBases_86 (fun H18 q h => ?_) _ 0 H11 q h
  cases h
  exact q
theorem ch_X7_firstFault {r : Nat}  {H0 H : Hp} {res : Int32 × Hp} (q : Ch (fun q => q == r) [(2, 2, some 10), (2, 18, none), (2, 19, none), (2, 21, none)] H0 H) (h : f_X7_firstFault r H = some res) : Ch (fun q => q == r) [(2, 2, some 10), (2, 18, none), (2, 19, none), (2, 21, none)] H0 res.2 := by
  unfold f_X7_firstFault at h
  replace h := bnd_some h
  obtain ⟨w2, H1, hc, h⟩ := h
  replace q := Ch.tr (fun _ h => h) (by decide) q (ch_X7_countFromBlocks (Ch.rf _) hc)
  replace h := it_c h
  rcases h with h | h
  · cases h
    exact q
  · replace h := bnd_some h
    obtain ⟨w5, H4, hc, h⟩ := h
    replace q := Ch.tr (fun _ h => h) (by decide) q (ch_X7_sumAdds (Ch.rf _) hc)
    replace h := bnd_some h
    obtain ⟨w7, H6, hc, h⟩ := h
    replace q := Ch.tr (fun _ h => h) (by decide) q (ch_X7_setBases (Ch.rf _) hc)
    replace h := it_c h
    rcases h with h | h
    · cases h
      exact q
    · cases h
      exact q
theorem chL_X7_joinTrees_77 {r : Nat}  {b2 : Int32} {b3 : Int32} {b4 : Int64} {k : Hp → Option (Unit × Hp)} {res : Unit × Hp} {H0 : Hp} (hk : ∀ (H : Hp), Ch (fun q => q == r) [(2, 20, none), (2, 23, none)] H0 H → k H = some res → Ch (fun q => q == r) [(2, 20, none), (2, 23, none)] H0 res.2) : ∀ (n : Nat) (x6 : Int32) (H : Hp), Ch (fun q => q == r) [(2, 20, none), (2, 23, none)] H0 H → L_X7_joinTrees_77 r b2 b3 b4 k n x6 H = some res → Ch (fun q => q == r) [(2, 20, none), (2, 23, none)] H0 res.2 := by
  intro n
  induction n with
  | zero => intro x6 H q h; exact nomatch (show (none : Option (Unit × Hp)) = some res from h)
  | succ n ih =>
    intro x6 H q h
    rw [L_X7_joinTrees_77] at h
    replace h := it_c h
    rcases h with h | h
    · exact hk H q h
    · replace h := (gd_some h).2
      replace h := it_c h
      rcases h with h | h
      · replace h := (gd_some h).2
        replace h := (gd_some h).2
        replace h := hl_c (P := Ch (fun q => q == r) [(2, 20, none), (2, 23, none)] H0) (Ch.sJ (rsr r) rfl q) h
        clear q
        obtain ⟨H11, q, h⟩ := h
        replace h := (gd_some h).2
        replace h := hl_c (P := Ch (fun q => q == r) [(2, 20, none), (2, 23, none)] H0) (Ch.sI (rsr r) rfl q) h
        clear q
        obtain ⟨H12, q, h⟩ := h
        replace h := vl_c h
        obtain ⟨v13, h⟩ := h
        exact ih v13 H12 q h
      · replace h := (gd_some h).2
        replace h := it_c h
        rcases h with h | h
        · replace h := (gd_some h).2
          replace h := hl_c (P := Ch (fun q => q == r) [(2, 20, none), (2, 23, none)] H0) (Ch.sI (rsr r) rfl q) h
          clear q
          obtain ⟨H9, q, h⟩ := h
          replace h := vl_c h
          obtain ⟨v10, h⟩ := h
          exact ih v10 H9 q h
        · replace h := vl_c h
          obtain ⟨v8, h⟩ := h
          exact ih v8 H q h
theorem ch_X7_joinTrees {r : Nat}  {a1 : Int32} {H0 H : Hp} {res : Unit × Hp} (q : Ch (fun q => q == r) [(2, 20, none), (2, 23, none)] H0 H) (h : f_X7_joinTrees r a1 H = some res) : Ch (fun q => q == r) [(2, 20, none), (2, 23, none)] H0 res.2 := by
  unfold f_X7_joinTrees at h
  replace h := (gd_some h).2
  replace h := (gd_some h).2
  replace h := vl_c h
  obtain ⟨v1, h⟩ := h
  replace h := (gd_some h).2
  replace h := (gd_some h).2
  replace h := vl_c h
  obtain ⟨v2, h⟩ := h
  replace h := it_c h
  rcases h with h | h
  · cases h
    exact q
  · replace h := (gd_some h).2
    replace h := (gd_some h).2
    replace h := (gd_some h).2
    replace h := (gd_some h).2
    replace h := (gd_some h).2
    replace h := vl_c h
    obtain ⟨v4, h⟩ := h
    refine chL_X7_joinTrees_77 (fun H14 q h => ?_) _ 0 H q h
    cases h
    exact q
theorem chL_X7_lighten_2 {r : Nat}  {k : Hp → Option (Unit × Hp)} {res : Unit × Hp} {H0 : Hp} (hk : ∀ (H : Hp), Ch (fun q => q == r) [(2, 20, none), (2, 22, none), (2, 23, none)] H0 H → k H = some res → Ch (fun q => q == r) [(2, 20, none), (2, 22, none), (2, 23, none)] H0 res.2) : ∀ (n : Nat) (x2 : Int32) (H : Hp), Ch (fun q => q == r) [(2, 20, none), (2, 22, none), (2, 23, none)] H0 H → L_X7_lighten_2 r k n x2 H = some res → Ch (fun q => q == r) [(2, 20, none), (2, 22, none), (2, 23, none)] H0 res.2 := by
  intro n
  induction n with
  | zero => intro x2 H q h; exact nomatch (show (none : Option (Unit × Hp)) = some res from h)
  | succ n ih =>
    intro x2 H q h
    rw [L_X7_lighten_2] at h
    replace h := it_c h
    rcases h with h | h
    · exact hk H q h
    · replace h := (gd_some h).2
      replace h := hl_c (P := Ch (fun q => q == r) [(2, 20, none), (2, 22, none), (2, 23, none)] H0) (Ch.sI (rsr r) rfl q) h
      clear q
      obtain ⟨H2, q, h⟩ := h
      replace h := (gd_some h).2
      replace h := hl_c (P := Ch (fun q => q == r) [(2, 20, none), (2, 22, none), (2, 23, none)] H0) (Ch.sJ (rsr r) rfl q) h
      clear q
      obtain ⟨H3, q, h⟩ := h
      replace h := vl_c h
      obtain ⟨v4, h⟩ := h
      exact ih v4 H3 q h
theorem chL_X7_lighten_35 {r : Nat}  {k : Hp → Option (Unit × Hp)} {res : Unit × Hp} {H0 : Hp} (hk : ∀ (H : Hp), Ch (fun q => q == r) [(2, 20, none), (2, 22, none), (2, 23, none)] H0 H → k H = some res → Ch (fun q => q == r) [(2, 20, none), (2, 22, none), (2, 23, none)] H0 res.2) : ∀ (n : Nat) (x2 : Int32) (H : Hp), Ch (fun q => q == r) [(2, 20, none), (2, 22, none), (2, 23, none)] H0 H → L_X7_lighten_35 r k n x2 H = some res → Ch (fun q => q == r) [(2, 20, none), (2, 22, none), (2, 23, none)] H0 res.2 := by
  intro n
  induction n with
  | zero => intro x2 H q h; exact nomatch (show (none : Option (Unit × Hp)) = some res from h)
  | succ n ih =>
    intro x2 H q h
    rw [L_X7_lighten_35] at h
    replace h := it_c h
    rcases h with h | h
    · exact hk H q h
    · replace h := (gd_some h).2
      replace h := (gd_some h).2
      replace h := it_c h
      rcases h with h | h
      · replace h := (gd_some h).2
        replace h := bnd_some h
        obtain ⟨w10, H9, hc, h⟩ := h
        replace q := Ch.tr (fun _ h => h) (by decide) q (ch_X7_joinTrees (Ch.rf _) hc)
        replace h := vl_c h
        obtain ⟨v11, h⟩ := h
        exact ih v11 H9 q h
      · replace h := vl_c h
        obtain ⟨v8, h⟩ := h
        exact ih v8 H q h
theorem chL_X7_lighten_83 {r : Nat}  {k : Hp → Option (Unit × Hp)} {res : Unit × Hp} {H0 : Hp} (hk : ∀ (H : Hp), Ch (fun q => q == r) [(2, 20, none), (2, 22, none), (2, 23, none)] H0 H → k H = some res → Ch (fun q => q == r) [(2, 20, none), (2, 22, none), (2, 23, none)] H0 res.2) : ∀ (n : Nat) (x2 : Int32) (H : Hp), Ch (fun q => q == r) [(2, 20, none), (2, 22, none), (2, 23, none)] H0 H → L_X7_lighten_83 r k n x2 H = some res → Ch (fun q => q == r) [(2, 20, none), (2, 22, none), (2, 23, none)] H0 res.2 := by
  intro n
  induction n with
  | zero => intro x2 H q h; exact nomatch (show (none : Option (Unit × Hp)) = some res from h)
  | succ n ih =>
    intro x2 H q h
    rw [L_X7_lighten_83] at h
    replace h := it_c h
    rcases h with h | h
    · exact hk H q h
    · replace h := (gd_some h).2
      replace h := (gd_some h).2
      replace h := (gd_some h).2
      replace h := (gd_some h).2
      replace h := hl_c (P := Ch (fun q => q == r) [(2, 20, none), (2, 22, none), (2, 23, none)] H0) (Ch.sJ (rsr r) rfl q) h
      clear q
      obtain ⟨H15, q, h⟩ := h
      replace h := vl_c h
      obtain ⟨v16, h⟩ := h
      exact ih v16 H15 q h
theorem chL_X7_lighten_115 {r : Nat}  {k : Hp → Option (Unit × Hp)} {res : Unit × Hp} {H0 : Hp} (hk : ∀ (H : Hp), Ch (fun q => q == r) [(2, 20, none), (2, 22, none), (2, 23, none)] H0 H → k H = some res → Ch (fun q => q == r) [(2, 20, none), (2, 22, none), (2, 23, none)] H0 res.2) : ∀ (n : Nat) (x2 : Int32) (H : Hp), Ch (fun q => q == r) [(2, 20, none), (2, 22, none), (2, 23, none)] H0 H → L_X7_lighten_115 r k n x2 H = some res → Ch (fun q => q == r) [(2, 20, none), (2, 22, none), (2, 23, none)] H0 res.2 := by
  intro n
  induction n with
  | zero => intro x2 H q h; exact nomatch (show (none : Option (Unit × Hp)) = some res from h)
  | succ n ih =>
    intro x2 H q h
    rw [L_X7_lighten_115] at h
    replace h := it_c h
    rcases h with h | h
    · exact hk H q h
    · replace h := (gd_some h).2
      replace h := it_c h
      rcases h with h | h
      · replace h := (gd_some h).2
        replace h := (gd_some h).2
        replace h := (gd_some h).2
        replace h := (gd_some h).2
        replace h := (gd_some h).2
        replace h := (gd_some h).2
        replace h := hl_c (P := Ch (fun q => q == r) [(2, 20, none), (2, 22, none), (2, 23, none)] H0) (Ch.sJ (rsr r) rfl q) h
        clear q
        obtain ⟨H20, q, h⟩ := h
        replace h := vl_c h
        obtain ⟨v21, h⟩ := h
        exact ih v21 H20 q h
      · replace h := (gd_some h).2
        replace h := hl_c (P := Ch (fun q => q == r) [(2, 20, none), (2, 22, none), (2, 23, none)] H0) (Ch.sJ (rsr r) rfl q) h
        clear q
        obtain ⟨H22, q, h⟩ := h
        replace h := vl_c h
        obtain ⟨v23, h⟩ := h
        exact ih v23 H22 q h
theorem ch_X7_lighten {r : Nat}  {H0 H : Hp} {res : Unit × Hp} (q : Ch (fun q => q == r) [(2, 20, none), (2, 22, none), (2, 23, none)] H0 H) (h : f_X7_lighten r H = some res) : Ch (fun q => q == r) [(2, 20, none), (2, 22, none), (2, 23, none)] H0 res.2 := by
  unfold f_X7_lighten at h
  refine chL_X7_lighten_2 (fun H5 q h => ?_) _ 0 H q h
  refine chL_X7_lighten_35 (fun H12 q h => ?_) _ 0 H5 q h
  replace h := vl_c h
  obtain ⟨v13, h⟩ := h
  refine chL_X7_lighten_83 (fun H17 q h => ?_) _ v13 H12 q h
  refine chL_X7_lighten_115 (fun H24 q h => ?_) _ 0 H17 q h
  cases h
  exact q
theorem chL_X7_beginningOf_5 {r : Nat}  {b1 : Int64} {k : Int32 → Hp → Option (Int32 × Hp)} {res : Int32 × Hp} {H0 : Hp} (hk : ∀ (z3 : Int32) (H : Hp), Ch (fun q => q == r) [] H0 H → k z3 H = some res → Ch (fun q => q == r) [] H0 res.2) : ∀ (n : Nat) (x3 : Int32) (x4 : Int32) (H : Hp), Ch (fun q => q == r) [] H0 H → L_X7_beginningOf_5 r b1 k n x3 x4 H = some res → Ch (fun q => q == r) [] H0 res.2 := by
  intro n
  induction n with
  | zero => intro x3 x4 H q h; exact nomatch (show (none : Option (Int32 × Hp)) = some res from h)
  | succ n ih =>
    intro x3 x4 H q h
    rw [L_X7_beginningOf_5] at h
    replace h := it_c h
    rcases h with h | h
    · exact hk x3 H q h
    · replace h := (gd_some h).2
      replace h := it_c h
      rcases h with h | h
      · replace h := vl_c h
        obtain ⟨v3, h⟩ := h
        exact ih x3 v3 H q h
      · replace h := (gd_some h).2
        replace h := it_c h
        rcases h with h | h
        · replace h := vl_c h
          obtain ⟨v5, h⟩ := h
          exact ih x3 v5 H q h
        · replace h := vl_c h
          obtain ⟨v6, h⟩ := h
          exact ih x4 v6 H q h
theorem ch_X7_beginningOf {r : Nat}  {a1 : Int64} {H0 H : Hp} {res : Int32 × Hp} (q : Ch (fun q => q == r) [] H0 H) (h : f_X7_beginningOf r a1 H = some res) : Ch (fun q => q == r) [] H0 res.2 := by
  unfold f_X7_beginningOf at h
  refine chL_X7_beginningOf_5 (fun z7 H8 q h => ?_) _ 0 0 H q h
  cases h
  exact q
theorem chL_X7_edgeFor_6 {r : Nat}  {b1 : Int32} {b2 : Int64} {k : Int32 → Hp → Option (Int32 × Hp)} {res : Int32 × Hp} {H0 : Hp} (hk : ∀ (z4 : Int32) (H : Hp), Ch (fun q => q == r) [] H0 H → k z4 H = some res → Ch (fun q => q == r) [] H0 res.2) : ∀ (n : Nat) (x4 : Int32) (x5 : Int32) (H : Hp), Ch (fun q => q == r) [] H0 H → L_X7_edgeFor_6 r b1 b2 k n x4 x5 H = some res → Ch (fun q => q == r) [] H0 res.2 := by
  intro n
  induction n with
  | zero => intro x4 x5 H q h; exact nomatch (show (none : Option (Int32 × Hp)) = some res from h)
  | succ n ih =>
    intro x4 x5 H q h
    rw [L_X7_edgeFor_6] at h
    replace h := (gd_some h).2
    replace h := it_c h
    rcases h with h | h
    · exact hk x4 H q h
    · replace h := (gd_some h).2
      replace h := vl_c h
      obtain ⟨v2, h⟩ := h
      replace h := (gd_some h).2
      replace h := it_c h
      rcases h with h | h
      · replace h := vl_c h
        obtain ⟨v4, h⟩ := h
        exact ih x4 v4 H q h
      · replace h := vl_c h
        obtain ⟨v5, h⟩ := h
        exact ih v2 v5 H q h
theorem ch_X7_edgeFor {r : Nat}  {a1 : Int32} {a2 : Int64} {H0 H : Hp} {res : Int32 × Hp} (q : Ch (fun q => q == r) [] H0 H) (h : f_X7_edgeFor r a1 a2 H = some res) : Ch (fun q => q == r) [] H0 res.2 := by
  unfold f_X7_edgeFor at h
  refine chL_X7_edgeFor_6 (fun z6 H7 q h => ?_) _ (-1) 0 H q h
  cases h
  exact q
theorem chL_X7_unfold_53 {r : Nat}  {k : Hp → Option (Int32 × Hp)} {res : Int32 × Hp} {H0 : Hp} (hk : ∀ (H : Hp), Ch (fun q => q == r) [(2, 2, some 9), (2, 24, none), (2, 25, none)] H0 H → k H = some res → Ch (fun q => q == r) [(2, 2, some 9), (2, 24, none), (2, 25, none)] H0 res.2) : ∀ (n : Nat) (x3 : Int32) (x4 : Int64) (H : Hp), Ch (fun q => q == r) [(2, 2, some 9), (2, 24, none), (2, 25, none)] H0 H → L_X7_unfold_53 r k n x3 x4 H = some res → Ch (fun q => q == r) [(2, 2, some 9), (2, 24, none), (2, 25, none)] H0 res.2 := by
  intro n
  induction n with
  | zero => intro x3 x4 H q h; exact nomatch (show (none : Option (Int32 × Hp)) = some res from h)
  | succ n ih =>
    intro x3 x4 H q h
    rw [L_X7_unfold_53] at h
    replace h := it_c h
    rcases h with h | h
    · exact hk H q h
    · replace h := it_c h
      rcases h with h | h
      · exact hk H q h
      · replace h := bnd_some h
        obtain ⟨w13, H12, hc, h⟩ := h
        replace q := Ch.tr (fun _ h => h) (by decide) q (ch_X7_edgeFor (Ch.rf _) hc)
        replace h := (gd_some h).2
        replace h := hl_c (P := Ch (fun q => q == r) [(2, 2, some 9), (2, 24, none), (2, 25, none)] H0) (Ch.sI (rsr r) rfl q) h
        clear q
        obtain ⟨H14, q, h⟩ := h
        replace h := (gd_some h).2
        replace h := hl_c (P := Ch (fun q => q == r) [(2, 2, some 9), (2, 24, none), (2, 25, none)] H0) (Ch.sI (rsr r) rfl q) h
        clear q
        obtain ⟨H15, q, h⟩ := h
        replace h := hl_c (P := Ch (fun q => q == r) [(2, 2, some 9), (2, 24, none), (2, 25, none)] H0) (Ch.sI (rsr r) rfl q) h
        clear q
        obtain ⟨H16, q, h⟩ := h
        refine jn_c1 (P := Ch (fun q => q == r) [(2, 2, some 9), (2, 24, none), (2, 25, none)] H0) h (fun y18 H19 q h => ?_) (fun hj17 h => ?_)
        · replace h := vl_c h
          obtain ⟨v20, h⟩ := h
          replace h := it_c h
          rcases h with h | h
          · exact ih (-1) v20 H19 q h
          · replace h := (gd_some h).2
            replace h := it_c h
            rcases h with h | h
            · replace h := (gd_some h).2
              replace h := vl_c h
              obtain ⟨v23, h⟩ := h
              exact ih v23 v20 H19 q h
            · exact ih (-1) v20 H19 q h
        · replace h := it_c h
          rcases h with h | h
          · exact hj17 0 H16 q h
          · replace h := (gd_some h).2
            exact hj17 ((gJ H16 (r + 2) 21 (Int32.toNatClampNeg w13))) H16 q h
theorem ch_X7_unfold {r : Nat}  {a1 : Int64} {H0 H : Hp} {res : Int32 × Hp} (q : Ch (fun q => q == r) [(2, 2, some 9), (2, 24, none), (2, 25, none)] H0 H) (h : f_X7_unfold r a1 H = some res) : Ch (fun q => q == r) [(2, 2, some 9), (2, 24, none), (2, 25, none)] H0 res.2 := by
  unfold f_X7_unfold at h
  replace h := hl_c (P := Ch (fun q => q == r) [(2, 2, some 9), (2, 24, none), (2, 25, none)] H0) (Ch.sI (rsr r) rfl q) h
  clear q
  obtain ⟨H1, q, h⟩ := h
  replace h := it_c h
  rcases h with h | h
  · cases h
    exact q
  · replace h := it_c h
    rcases h with h | h
    · replace h := bnd_some h
      obtain ⟨w5, H4, hc, h⟩ := h
      replace q := Ch.tr (fun _ h => h) (by decide) q (ch_X7_beginningOf (Ch.rf _) hc)
      replace h := (gd_some h).2
      refine jn_c1 (P := Ch (fun q => q == r) [(2, 2, some 9), (2, 24, none), (2, 25, none)] H0) h (fun y7 H8 q h => ?_) (fun hj6 h => ?_)
      · replace h := vl_c h
        obtain ⟨v9, h⟩ := h
        refine chL_X7_unfold_53 (fun H25 q h => ?_) _ w5 v9 H8 q h
        cases h
        exact q
      · replace h := it_c h
        rcases h with h | h
        · replace h := (gd_some h).2
          exact hj6 ((gJ H4 (r + 2) 19 (Int32.toNatClampNeg w5))) H4 q h
        · exact hj6 0 H4 q h
    · cases h
      exact q
theorem ch_X7_unfoldedBlock {r : Nat}  {a1 : Int32} {H0 H : Hp} {res : Int32 × Hp} (q : Ch (fun q => q == r) [] H0 H) (h : f_X7_unfoldedBlock r a1 H = some res) : Ch (fun q => q == r) [] H0 res.2 := by
  unfold f_X7_unfoldedBlock at h
  replace h := it_c h
  rcases h with h | h
  · cases h
    exact q
  · replace h := it_c h
    rcases h with h | h
    · replace h := (gd_some h).2
      cases h
      exact q
    · cases h
      exact q
theorem ch_X7_unfoldedEdge {r : Nat}  {a1 : Int32} {H0 H : Hp} {res : Int32 × Hp} (q : Ch (fun q => q == r) [] H0 H) (h : f_X7_unfoldedEdge r a1 H = some res) : Ch (fun q => q == r) [] H0 res.2 := by
  unfold f_X7_unfoldedEdge at h
  replace h := it_c h
  rcases h with h | h
  · cases h
    exact q
  · replace h := it_c h
    rcases h with h | h
    · replace h := (gd_some h).2
      cases h
      exact q
    · cases h
      exact q
theorem chL_X7_unfoldedHas_2 {r : Nat}  {b1 : Int32} {k : Hp → Option (Int32 × Hp)} {res : Int32 × Hp} {H0 : Hp} (hk : ∀ (H : Hp), Ch (fun q => q == r) [] H0 H → k H = some res → Ch (fun q => q == r) [] H0 res.2) : ∀ (n : Nat) (x2 : Int32) (H : Hp), Ch (fun q => q == r) [] H0 H → L_X7_unfoldedHas_2 r b1 k n x2 H = some res → Ch (fun q => q == r) [] H0 res.2 := by
  intro n
  induction n with
  | zero => intro x2 H q h; exact nomatch (show (none : Option (Int32 × Hp)) = some res from h)
  | succ n ih =>
    intro x2 H q h
    rw [L_X7_unfoldedHas_2] at h
    replace h := it_c h
    rcases h with h | h
    · exact hk H q h
    · replace h := (gd_some h).2
      replace h := it_c h
      rcases h with h | h
      · cases h
        exact q
      · replace h := vl_c h
        obtain ⟨v3, h⟩ := h
        exact ih v3 H q h
theorem ch_X7_unfoldedHas {r : Nat}  {a1 : Int32} {H0 H : Hp} {res : Int32 × Hp} (q : Ch (fun q => q == r) [] H0 H) (h : f_X7_unfoldedHas r a1 H = some res) : Ch (fun q => q == r) [] H0 res.2 := by
  unfold f_X7_unfoldedHas at h
  refine chL_X7_unfoldedHas_2 (fun H4 q h => ?_) _ 0 H q h
  cases h
  exact q
theorem ch_X6_isOf {nr : Nat}  {a1 : Int32} {a2 : Int32} {H0 H : Hp} {res : Int32 × Hp} (q : Ch (fun _ => true) [] H0 H) (h : f_X6_isOf nr a1 a2 H = some res) : Ch (fun _ => true) [] H0 res.2 := by
  unfold f_X6_isOf at h
  replace h := (gd_some h).2
  replace h := vl_c h
  obtain ⟨o1, h⟩ := h
  replace h := nz_some h
  rcases h with ⟨rfl, h⟩ | ⟨r2, rfl, hr_r2, h⟩
  · cases h
    exact q
  · replace h := (gd_some h).2
    replace h := vl_c h
    obtain ⟨o3, h⟩ := h
    replace h := nn_some h
    obtain ⟨r4, rfl, hr_r4, h⟩ := h
    replace h := it_c h
    rcases h with h | h
    · cases h
      exact q
    · cases h
      exact q
theorem chL_X6_openAt_5 {nr : Nat}  {b1 : Int32} {b2 : Int32} {k : Int32 → Hp → Option (Int32 × Hp)} {res : Int32 × Hp} {H0 : Hp} (hk : ∀ (z3 : Int32) (H : Hp), Ch (fun _ => true) [] H0 H → k z3 H = some res → Ch (fun _ => true) [] H0 res.2) : ∀ (n : Nat) (x3 : Int32) (x4 : Int32) (H : Hp), Ch (fun _ => true) [] H0 H → L_X6_openAt_5 nr b1 b2 k n x3 x4 H = some res → Ch (fun _ => true) [] H0 res.2 := by
  intro n
  induction n with
  | zero => intro x3 x4 H q h; exact nomatch (show (none : Option (Int32 × Hp)) = some res from h)
  | succ n ih =>
    intro x3 x4 H q h
    rw [L_X6_openAt_5] at h
    replace h := it_c h
    rcases h with h | h
    · exact hk x3 H q h
    · replace h := bnd_some h
      obtain ⟨w3, H2, hc, h⟩ := h
      replace q := Ch.tr (fun _ h => h) (by decide) q (ch_X6_isOf (Ch.rf _) hc)
      replace h := it_c h
      rcases h with h | h
      · replace h := vl_c h
        obtain ⟨v5, h⟩ := h
        exact ih x3 v5 H2 q h
      · replace h := (gd_some h).2
        replace h := it_c h
        rcases h with h | h
        · replace h := vl_c h
          obtain ⟨v8, h⟩ := h
          replace h := vl_c h
          obtain ⟨v9, h⟩ := h
          exact ih v8 v9 H2 q h
        · replace h := vl_c h
          obtain ⟨v7, h⟩ := h
          exact ih x3 v7 H2 q h
theorem ch_X6_openAt {nr : Nat}  {a1 : Int32} {a2 : Int32} {H0 H : Hp} {res : Int32 × Hp} (q : Ch (fun _ => true) [] H0 H) (h : f_X6_openAt nr a1 a2 H = some res) : Ch (fun _ => true) [] H0 res.2 := by
  unfold f_X6_openAt at h
  refine chL_X6_openAt_5 (fun z10 H11 q h => ?_) _ 0 0 H q h
  cases h
  exact q
theorem chL_X6_hasFrameOf_2 {nr : Nat}  {b1 : Int32} {k : Hp → Option (Int32 × Hp)} {res : Int32 × Hp} {H0 : Hp} (hk : ∀ (H : Hp), Ch (fun _ => true) [] H0 H → k H = some res → Ch (fun _ => true) [] H0 res.2) : ∀ (n : Nat) (x2 : Int32) (H : Hp), Ch (fun _ => true) [] H0 H → L_X6_hasFrameOf_2 nr b1 k n x2 H = some res → Ch (fun _ => true) [] H0 res.2 := by
  intro n
  induction n with
  | zero => intro x2 H q h; exact nomatch (show (none : Option (Int32 × Hp)) = some res from h)
  | succ n ih =>
    intro x2 H q h
    rw [L_X6_hasFrameOf_2] at h
    replace h := it_c h
    rcases h with h | h
    · exact hk H q h
    · replace h := bnd_some h
      obtain ⟨w3, H2, hc, h⟩ := h
      replace q := Ch.tr (fun _ h => h) (by decide) q (ch_X6_isOf (Ch.rf _) hc)
      replace h := it_c h
      rcases h with h | h
      · replace h := vl_c h
        obtain ⟨v5, h⟩ := h
        exact ih v5 H2 q h
      · cases h
        exact q
theorem ch_X6_hasFrameOf {nr : Nat}  {a1 : Int32} {H0 H : Hp} {res : Int32 × Hp} (q : Ch (fun _ => true) [] H0 H) (h : f_X6_hasFrameOf nr a1 H = some res) : Ch (fun _ => true) [] H0 res.2 := by
  unfold f_X6_hasFrameOf at h
  refine chL_X6_hasFrameOf_2 (fun H6 q h => ?_) _ 0 H q h
  cases h
  exact q
theorem ch_X2_planAnew {r : Nat}  {H0 H : Hp} {res : Unit × Hp} (q : Ch (fun q => q == r) [(2, 3, some 9), (2, 3, some 10), (2, 3, some 11), (2, 4, some 3), (2, 4, some 4), (2, 5, some 2), (2, 5, some 3), (2, 20, none), (2, 22, none), (2, 23, none), (2, 26, none), (2, 27, none), (2, 28, none), (2, 29, none), (2, 30, none), (2, 31, none), (2, 34, none), (2, 35, none), (2, 36, none)] H0 H) (h : f_X2_planAnew r H = some res) : Ch (fun q => q == r) [(2, 3, some 9), (2, 3, some 10), (2, 3, some 11), (2, 4, some 3), (2, 4, some 4), (2, 5, some 2), (2, 5, some 3), (2, 20, none), (2, 22, none), (2, 23, none), (2, 26, none), (2, 27, none), (2, 28, none), (2, 29, none), (2, 30, none), (2, 31, none), (2, 34, none), (2, 35, none), (2, 36, none)] H0 res.2 := by
  unfold f_X2_planAnew at h
  replace h := bnd_some h
  obtain ⟨w2, H1, hc, h⟩ := h
  replace q := Ch.tr (fun _ h => h) (by decide) q (ch_X5_grow (Ch.rf _) hc)
  replace h := bnd_some h
  obtain ⟨w4, H3, hc, h⟩ := h
  replace q := Ch.tr (fun _ h => h) (by decide) q (ch_X7_lighten (Ch.rf _) hc)
  replace h := bnd_some h
  obtain ⟨w6, H5, hc, h⟩ := h
  replace q := Ch.tr (fun _ h => h) (by decide) q (ch_X0_clear (Ch.rf _) hc)
  replace h := bnd_some h
  obtain ⟨w8, H7, hc, h⟩ := h
  replace q := Ch.tr (fun _ h => h) (by decide) q (ch_X4_clear (Ch.rf _) hc)
  cases h
  exact q
theorem ch_X2_settle {r : Nat}  {H0 H : Hp} {res : Int32 × Hp} (q : Ch (fun q => q == r) [(2, 0, some 8), (2, 1, some 12), (2, 2, some 10), (2, 3, some 9), (2, 3, some 10), (2, 3, some 11), (2, 4, some 3), (2, 4, some 4), (2, 5, some 2), (2, 5, some 3), (2, 13, none), (2, 14, none), (2, 17, none), (2, 18, none), (2, 19, none), (2, 20, none), (2, 21, none), (2, 22, none), (2, 23, none), (2, 26, none), (2, 27, none), (2, 28, none), (2, 29, none), (2, 30, none), (2, 31, none), (2, 34, none), (2, 35, none), (2, 36, none)] H0 H) (h : f_X2_settle r H = some res) : Ch (fun q => q == r) [(2, 0, some 8), (2, 1, some 12), (2, 2, some 10), (2, 3, some 9), (2, 3, some 10), (2, 3, some 11), (2, 4, some 3), (2, 4, some 4), (2, 5, some 2), (2, 5, some 3), (2, 13, none), (2, 14, none), (2, 17, none), (2, 18, none), (2, 19, none), (2, 20, none), (2, 21, none), (2, 22, none), (2, 23, none), (2, 26, none), (2, 27, none), (2, 28, none), (2, 29, none), (2, 30, none), (2, 31, none), (2, 34, none), (2, 35, none), (2, 36, none)] H0 res.2 := by
  unfold f_X2_settle at h
  replace h := it_c h
  rcases h with h | h
  · replace h := bnd_some h
    obtain ⟨w3, H2, hc, h⟩ := h
    replace q := Ch.tr (fun _ h => h) (by decide) q (ch_X3_firstFault (Ch.rf _) hc)
    refine jn_c1 (P := Ch (fun q => q == r) [(2, 0, some 8), (2, 1, some 12), (2, 2, some 10), (2, 3, some 9), (2, 3, some 10), (2, 3, some 11), (2, 4, some 3), (2, 4, some 4), (2, 5, some 2), (2, 5, some 3), (2, 13, none), (2, 14, none), (2, 17, none), (2, 18, none), (2, 19, none), (2, 20, none), (2, 21, none), (2, 22, none), (2, 23, none), (2, 26, none), (2, 27, none), (2, 28, none), (2, 29, none), (2, 30, none), (2, 31, none), (2, 34, none), (2, 35, none), (2, 36, none)] H0) h (fun y5 H6 q h => ?_) (fun hj4 h => ?_)
    · replace h := it_c h
      rcases h with h | h
      · replace h := bnd_some h
        obtain ⟨w9, H8, hc, h⟩ := h
        replace q := Ch.tr (fun _ h => h) (by decide) q (ch_X3_linkEnd (Ch.rf _) hc)
        replace h := hl_c (P := Ch (fun q => q == r) [(2, 0, some 8), (2, 1, some 12), (2, 2, some 10), (2, 3, some 9), (2, 3, some 10), (2, 3, some 11), (2, 4, some 3), (2, 4, some 4), (2, 5, some 2), (2, 5, some 3), (2, 13, none), (2, 14, none), (2, 17, none), (2, 18, none), (2, 19, none), (2, 20, none), (2, 21, none), (2, 22, none), (2, 23, none), (2, 26, none), (2, 27, none), (2, 28, none), (2, 29, none), (2, 30, none), (2, 31, none), (2, 34, none), (2, 35, none), (2, 36, none)] H0) (Ch.sI (rsr r) rfl q) h
        clear q
        obtain ⟨H10, q, h⟩ := h
        replace h := bnd_some h
        obtain ⟨w12, H11, hc, h⟩ := h
        replace q := Ch.tr (fun _ h => h) (by decide) q (ch_X2_planAnew (Ch.rf _) hc)
        cases h
        exact q
      · cases h
        exact q
    · replace h := it_c h
      rcases h with h | h
      · replace h := bnd_some h
        obtain ⟨w15, H14, hc, h⟩ := h
        replace q := Ch.tr (fun _ h => h) (by decide) q (ch_X7_firstFault (Ch.rf _) hc)
        exact hj4 w15 H14 q h
      · exact hj4 w3 H2 q h
  · cases h
    exact q
theorem ch_X2_hasCounter {r : Nat}  {a1 : Int32} {H0 H : Hp} {res : Int32 × Hp} (q : Ch (fun q => q == r) [] H0 H) (h : f_X2_hasCounter r a1 H = some res) : Ch (fun q => q == r) [] H0 res.2 := by
  unfold f_X2_hasCounter at h
  replace h := it_c h
  rcases h with h | h
  · cases h
    exact q
  · replace h := bnd_some h
    obtain ⟨w3, H2, hc, h⟩ := h
    replace q := Ch.tr (fun _ h => h) (by decide) q (ch_X3_hasEdge (Ch.rf _) hc)
    replace h := it_c h
    rcases h with h | h
    · cases h
      exact q
    · replace h := (gd_some h).2
      replace h := it_c h
      rcases h with h | h
      · cases h
        exact q
      · cases h
        exact q
theorem ch_X2_ofItself {r : Nat}  {a1 : Int32} {H0 H : Hp} {res : Int64 × Hp} (q : Ch (fun q => q == r) [] H0 H) (h : f_X2_ofItself r a1 H = some res) : Ch (fun q => q == r) [] H0 res.2 := by
  unfold f_X2_ofItself at h
  refine jn_c0 (P := Ch (fun q => q == r) [] H0) h (fun H2 q h => ?_) (fun hj1 h => ?_)
  · replace h := it_c h
    rcases h with h | h
    · cases h
      exact q
    · replace h := it_c h
      rcases h with h | h
      · cases h
        exact q
      · replace h := it_c h
        rcases h with h | h
        · replace h := it_c h
          rcases h with h | h
          · cases h
            exact q
          · cases h
            exact q
        · replace h := it_c h
          rcases h with h | h
          · cases h
            exact q
          · replace h := it_c h
            rcases h with h | h
            · cases h
              exact q
            · replace h := it_c h
              rcases h with h | h
              · cases h
                exact q
              · replace h := it_c h
                rcases h with h | h
                · cases h
                  exact q
                · replace h := it_c h
                  rcases h with h | h
                  · cases h
                    exact q
                  · replace h := it_c h
                    rcases h with h | h
                    · cases h
                      exact q
                    · cases h
                      exact q
  · replace h := it_c h
    rcases h with h | h
    · exact hj1 H q h
    · replace h := it_c h
      rcases h with h | h
      · cases h
        exact q
      · exact hj1 H q h
theorem ch_X2_countOfEdge {r : Nat}  {a1 : Int32} {a2 : Int32} {H0 H : Hp} {res : Int64 × Hp} (q : Ch (fun q => q == r) [] H0 H) (h : f_X2_countOfEdge r a1 a2 H = some res) : Ch (fun q => q == r) [] H0 res.2 := by
  unfold f_X2_countOfEdge at h
  replace h := it_c h
  rcases h with h | h
  · replace h := bnd_some h
    obtain ⟨w12, H11, hc, h⟩ := h
    replace q := Ch.tr (fun _ h => h) (by decide) q (ch_X2_hasCounter (Ch.rf _) hc)
    replace h := it_c h
    rcases h with h | h
    · cases h
      exact q
    · replace h := bnd_some h
      obtain ⟨w15, H14, hc, h⟩ := h
      replace q := Ch.tr (fun _ h => h) (by decide) q (ch_X3_standOf (Ch.rf _) hc)
      cases h
      exact q
  · replace h := it_c h
    rcases h with h | h
    · cases h
      exact q
    · replace h := it_c h
      rcases h with h | h
      · replace h := bnd_some h
        obtain ⟨w9, H8, hc, h⟩ := h
        replace q := Ch.tr (fun _ h => h) (by decide) q (ch_X2_hasCounter (Ch.rf _) hc)
        replace h := it_c h
        rcases h with h | h
        · cases h
          exact q
        · cases h
          exact q
      · replace h := it_c h
        rcases h with h | h
        · replace h := (gd_some h).2
          cases h
          exact q
        · replace h := it_c h
          rcases h with h | h
          · replace h := (gd_some h).2
            cases h
            exact q
          · replace h := it_c h
            rcases h with h | h
            · replace h := (gd_some h).2
              cases h
              exact q
            · replace h := it_c h
              rcases h with h | h
              · replace h := (gd_some h).2
                cases h
                exact q
              · replace h := (gd_some h).2
                cases h
                exact q
theorem ch_X2_countOfBlock {r : Nat}  {a1 : Int32} {a2 : Int32} {H0 H : Hp} {res : Int64 × Hp} (q : Ch (fun q => q == r) [] H0 H) (h : f_X2_countOfBlock r a1 a2 H = some res) : Ch (fun q => q == r) [] H0 res.2 := by
  unfold f_X2_countOfBlock at h
  replace h := it_c h
  rcases h with h | h
  · replace h := it_c h
    rcases h with h | h
    · cases h
      exact q
    · cases h
      exact q
  · replace h := it_c h
    rcases h with h | h
    · replace h := (gd_some h).2
      cases h
      exact q
    · replace h := it_c h
      rcases h with h | h
      · replace h := (gd_some h).2
        cases h
        exact q
      · replace h := it_c h
        rcases h with h | h
        · replace h := (gd_some h).2
          cases h
          exact q
        · replace h := (gd_some h).2
          cases h
          exact q
theorem chL_X2_rebuiltCount_2 {nr : Nat} {r : Nat}  {b1 : Int32} {k : Hp → Option (Int64 × Hp)} {res : Int64 × Hp} {H0 : Hp} (hk : ∀ (H : Hp), Ch (fun q => q == r) [(2, 7, none), (2, 32, none), (2, 33, none)] H0 H → k H = some res → Ch (fun q => q == r) [(2, 7, none), (2, 32, none), (2, 33, none)] H0 res.2) : ∀ (n : Nat) (x3 : Int32) (H : Hp), Ch (fun q => q == r) [(2, 7, none), (2, 32, none), (2, 33, none)] H0 H → L_X2_rebuiltCount_2 nr r b1 k n x3 H = some res → Ch (fun q => q == r) [(2, 7, none), (2, 32, none), (2, 33, none)] H0 res.2 := by
  intro n
  induction n with
  | zero => intro x3 H q h; exact nomatch (show (none : Option (Int64 × Hp)) = some res from h)
  | succ n ih =>
    intro x3 H q h
    rw [L_X2_rebuiltCount_2] at h
    replace h := it_c h
    rcases h with h | h
    · exact hk H q h
    · replace h := (gd_some h).2
      replace h := bnd_some h
      obtain ⟨w3, H2, hc, h⟩ := h
      replace q := Ch.trn (by decide) (by decide) q (ch_X6_openAt (Ch.rf _) hc)
      replace h := (gd_some h).2
      replace h := hl_c (P := Ch (fun q => q == r) [(2, 7, none), (2, 32, none), (2, 33, none)] H0) (Ch.sJ (rsr r) rfl q) h
      clear q
      obtain ⟨H4, q, h⟩ := h
      replace h := vl_c h
      obtain ⟨v5, h⟩ := h
      exact ih v5 H4 q h
theorem ch_X2_rebuiltCount {nr : Nat} {r : Nat}  {a1 : Int32} {H0 H : Hp} {res : Int64 × Hp} (q : Ch (fun q => q == r) [(2, 7, none), (2, 32, none), (2, 33, none)] H0 H) (h : f_X2_rebuiltCount nr r a1 H = some res) : Ch (fun q => q == r) [(2, 7, none), (2, 32, none), (2, 33, none)] H0 res.2 := by
  unfold f_X2_rebuiltCount at h
  refine chL_X2_rebuiltCount_2 (fun H6 q h => ?_) _ 0 H q h
  replace h := bnd_some h
  obtain ⟨w8, H7, hc, h⟩ := h
  replace q := Ch.tr (fun _ h => h) (by decide) q (ch_X5_rebuild (Ch.rf _) hc)
  replace h := (gd_some h).2
  cases h
  exact q
theorem chL_X2_toldCount_5 {r : Nat}  {b1 : Int32} {k : Int64 → Hp → Option (Int64 × Hp)} {res : Int64 × Hp} {H0 : Hp} (hk : ∀ (z2 : Int64) (H : Hp), Ch (fun q => q == r) [(2, 2, some 9), (2, 24, none), (2, 25, none)] H0 H → k z2 H = some res → Ch (fun q => q == r) [(2, 2, some 9), (2, 24, none), (2, 25, none)] H0 res.2) : ∀ (n : Nat) (x2 : Int64) (x4 : Int32) (H : Hp), Ch (fun q => q == r) [(2, 2, some 9), (2, 24, none), (2, 25, none)] H0 H → L_X2_toldCount_5 r b1 k n x2 x4 H = some res → Ch (fun q => q == r) [(2, 2, some 9), (2, 24, none), (2, 25, none)] H0 res.2 := by
  intro n
  induction n with
  | zero => intro x2 x4 H q h; exact nomatch (show (none : Option (Int64 × Hp)) = some res from h)
  | succ n ih =>
    intro x2 x4 H q h
    rw [L_X2_toldCount_5] at h
    replace h := it_c h
    rcases h with h | h
    · exact hk x2 H q h
    · replace h := (gd_some h).2
      replace h := bnd_some h
      obtain ⟨w3, H2, hc, h⟩ := h
      replace q := Ch.tr (fun _ h => h) (by decide) q (ch_X7_unfold (Ch.rf _) hc)
      replace h := it_c h
      rcases h with h | h
      · replace h := vl_c h
        obtain ⟨v5, h⟩ := h
        exact ih x2 v5 H2 q h
      · replace h := bnd_some h
        obtain ⟨w7, H6, hc, h⟩ := h
        replace q := Ch.tr (fun _ h => h) (by decide) q (ch_X7_unfoldedHas (Ch.rf _) hc)
        replace h := it_c h
        rcases h with h | h
        · replace h := vl_c h
          obtain ⟨v9, h⟩ := h
          exact ih x2 v9 H6 q h
        · replace h := (gd_some h).2
          replace h := vl_c h
          obtain ⟨v10, h⟩ := h
          replace h := vl_c h
          obtain ⟨v11, h⟩ := h
          exact ih v10 v11 H6 q h
theorem ch_X2_toldCount {r : Nat}  {a1 : Int32} {H0 H : Hp} {res : Int64 × Hp} (q : Ch (fun q => q == r) [(2, 2, some 9), (2, 24, none), (2, 25, none)] H0 H) (h : f_X2_toldCount r a1 H = some res) : Ch (fun q => q == r) [(2, 2, some 9), (2, 24, none), (2, 25, none)] H0 res.2 := by
  unfold f_X2_toldCount at h
  refine chL_X2_toldCount_5 (fun z12 H13 q h => ?_) _ 0 0 H q h
  cases h
  exact q
theorem ch_X2_countEntry {r : Nat}  {H0 H : Hp} {res : Unit × Hp} (q : Ch (fun q => q == r) [(2, 4, some 3)] H0 H) (h : f_X2_countEntry r H = some res) : Ch (fun q => q == r) [(2, 4, some 3)] H0 res.2 := by
  unfold f_X2_countEntry at h
  replace h := hl_c (P := Ch (fun q => q == r) [(2, 4, some 3)] H0) (Ch.sJ (rsr r) rfl q) h
  clear q
  obtain ⟨H1, q, h⟩ := h
  cases h
  exact q
theorem ch_X2_countStopped {r : Nat}  {a1 : Int32} {H0 H : Hp} {res : Unit × Hp} (q : Ch (fun q => q == r) [(2, 4, some 4), (2, 36, none)] H0 H) (h : f_X2_countStopped r a1 H = some res) : Ch (fun q => q == r) [(2, 4, some 4), (2, 36, none)] H0 res.2 := by
  unfold f_X2_countStopped at h
  replace h := (gd_some h).2
  replace h := (gd_some h).2
  replace h := hl_c (P := Ch (fun q => q == r) [(2, 4, some 4), (2, 36, none)] H0) (Ch.sJ (rsr r) rfl q) h
  clear q
  obtain ⟨H1, q, h⟩ := h
  replace h := hl_c (P := Ch (fun q => q == r) [(2, 4, some 4), (2, 36, none)] H0) (Ch.sJ (rsr r) rfl q) h
  clear q
  obtain ⟨H2, q, h⟩ := h
  cases h
  exact q
theorem ch_X2_countGone {r : Nat}  {a1 : Int32} {H0 H : Hp} {res : Int32 × Hp} (q : Ch (fun q => q == r) [(2, 34, none), (2, 35, none)] H0 H) (h : f_X2_countGone r a1 H = some res) : Ch (fun q => q == r) [(2, 34, none), (2, 35, none)] H0 res.2 := by
  unfold f_X2_countGone at h
  replace h := (gd_some h).2
  replace h := (gd_some h).2
  replace h := hl_c (P := Ch (fun q => q == r) [(2, 34, none), (2, 35, none)] H0) (Ch.sJ (rsr r) rfl q) h
  clear q
  obtain ⟨H1, q, h⟩ := h
  replace h := (gd_some h).2
  replace h := it_c h
  rcases h with h | h
  · replace h := (gd_some h).2
    replace h := (gd_some h).2
    replace h := hl_c (P := Ch (fun q => q == r) [(2, 34, none), (2, 35, none)] H0) (Ch.sJ (rsr r) rfl q) h
    clear q
    obtain ⟨H3, q, h⟩ := h
    cases h
    exact q
  · cases h
    exact q
theorem ch_X6_topRoutine  {H0 H : Hp} {res : Option Nat × Hp} (q : Ch (fun _ => true) [] H0 H) (h : f_X6_topRoutine H = some res) : Ch (fun _ => true) [] H0 res.2 := by
  unfold f_X6_topRoutine at h
  replace h := it_c h
  rcases h with h | h
  · cases h
    exact q
  · replace h := it_c h
    rcases h with h | h
    · replace h := (gd_some h).2
      replace h := vl_c h
      obtain ⟨o3, h⟩ := h
      cases h
      exact q
    · cases h
      exact q
theorem chL_X6_dropFrames_7 {nr : Nat}  {k : Hp → Option (Unit × Hp)} {res : Unit × Hp} {H0 : Hp} (hk : ∀ (H : Hp), Ch (fun _ => true) [(1, 2, some 3), (2, 4, some 4), (2, 36, none)] H0 H → k H = some res → Ch (fun _ => true) [(1, 2, some 3), (2, 4, some 4), (2, 36, none)] H0 res.2) : ∀ (n : Nat) (x1 : Int32) (H : Hp), Ch (fun _ => true) [(1, 2, some 3), (2, 4, some 4), (2, 36, none)] H0 H → L_X6_dropFrames_7 nr k n x1 H = some res → Ch (fun _ => true) [(1, 2, some 3), (2, 4, some 4), (2, 36, none)] H0 res.2 := by
  intro n
  induction n with
  | zero => intro x1 H q h; exact nomatch (show (none : Option (Unit × Hp)) = some res from h)
  | succ n ih =>
    intro x1 H q h
    rw [L_X6_dropFrames_7] at h
    replace h := it_c h
    rcases h with h | h
    · exact hk H q h
    · replace h := (gd_some h).2
      replace h := vl_c h
      obtain ⟨o3, h⟩ := h
      replace h := nz_some h
      rcases h with ⟨rfl, h⟩ | ⟨r4, rfl, hr_r4, h⟩
      · replace h := vl_c h
        obtain ⟨v5, h⟩ := h
        exact ih v5 H q h
      · replace h := (gd_some h).2
        replace h := vl_c h
        obtain ⟨o6, h⟩ := h
        replace h := (gd_some h).2
        replace h := nn_some h
        obtain ⟨r7, rfl, hr_r7, h⟩ := h
        replace h := bnd_some h
        obtain ⟨w9, H8, hc, h⟩ := h
        replace q := Ch.tr (fun _ _ => rfl) (by decide) q (ch_X2_countStopped (Ch.rf _) hc)
        replace h := vl_c h
        obtain ⟨v10, h⟩ := h
        exact ih v10 H8 q h
theorem ch_X6_dropFrames {nr : Nat}  {H0 H : Hp} {res : Unit × Hp} (q : Ch (fun _ => true) [(1, 2, some 3), (2, 4, some 4), (2, 36, none)] H0 H) (h : f_X6_dropFrames nr H = some res) : Ch (fun _ => true) [(1, 2, some 3), (2, 4, some 4), (2, 36, none)] H0 res.2 := by
  unfold f_X6_dropFrames at h
  replace h := vl_c h
  obtain ⟨v1, h⟩ := h
  refine chL_X6_dropFrames_7 (fun H11 q h => ?_) _ v1 H q h
  replace h := hl_c (P := Ch (fun _ => true) [(1, 2, some 3), (2, 4, some 4), (2, 36, none)] H0) (Ch.sI rfl rfl q) h
  clear q
  obtain ⟨H12, q, h⟩ := h
  cases h
  exact q
theorem ch_X6_choose  {a1 : Int32} {H0 H : Hp} {res : Int32 × Hp} (q : Ch (fun _ => true) [(1, 2, some 7)] H0 H) (h : f_X6_choose a1 H = some res) : Ch (fun _ => true) [(1, 2, some 7)] H0 res.2 := by
  unfold f_X6_choose at h
  replace h := (gb_some h).2
  replace h := vl_c h
  obtain ⟨v1, h⟩ := h
  replace h := hl_c (P := Ch (fun _ => true) [(1, 2, some 7)] H0) (Ch.sI rfl rfl q) h
  clear q
  obtain ⟨H2, q, h⟩ := h
  replace h := it_c h
  rcases h with h | h
  · cases h
    exact q
  · replace h := (gb_some h).2
    cases h
    exact q
theorem ch_X6_enter {r : Nat}  {H0 H : Hp} {res : Unit × Hp} (q : Ch (fun q => q == r) [(1, 2, some 3), (1, 4, none), (1, 5, none), (1, 6, none), (2, 4, some 3)] H0 H) (h : f_X6_enter r H = some res) : Ch (fun q => q == r) [(1, 2, some 3), (1, 4, none), (1, 5, none), (1, 6, none), (2, 4, some 3)] H0 res.2 := by
  unfold f_X6_enter at h
  replace h := it_c h
  rcases h with h | h
  · cases h
    exact q
  · replace h := (gd_some h).2
    replace h := hl_c (P := Ch (fun q => q == r) [(1, 2, some 3), (1, 4, none), (1, 5, none), (1, 6, none), (2, 4, some 3)] H0) (Ch.sR rfl rfl q) h
    clear q
    obtain ⟨H2, q, h⟩ := h
    replace h := (gd_some h).2
    replace h := hl_c (P := Ch (fun q => q == r) [(1, 2, some 3), (1, 4, none), (1, 5, none), (1, 6, none), (2, 4, some 3)] H0) (Ch.sI rfl rfl q) h
    clear q
    obtain ⟨H3, q, h⟩ := h
    replace h := (gd_some h).2
    replace h := hl_c (P := Ch (fun q => q == r) [(1, 2, some 3), (1, 4, none), (1, 5, none), (1, 6, none), (2, 4, some 3)] H0) (Ch.sJ rfl rfl q) h
    clear q
    obtain ⟨H4, q, h⟩ := h
    replace h := hl_c (P := Ch (fun q => q == r) [(1, 2, some 3), (1, 4, none), (1, 5, none), (1, 6, none), (2, 4, some 3)] H0) (Ch.sI rfl rfl q) h
    clear q
    obtain ⟨H5, q, h⟩ := h
    replace h := bnd_some h
    obtain ⟨w7, H6, hc, h⟩ := h
    replace q := Ch.tr (fun _ h => h) (by decide) q (ch_X2_countEntry (Ch.rf _) hc)
    cases h
    exact q
theorem ch_X6_enterCalled {nr : Nat}  {a1 : Int32} {H0 H : Hp} {res : Unit × Hp} (q : Ch (fun _ => true) [(1, 2, some 3), (1, 2, some 4), (1, 4, none), (1, 5, none), (1, 6, none), (2, 4, some 3), (2, 4, some 4), (2, 36, none)] H0 H) (h : f_X6_enterCalled nr a1 H = some res) : Ch (fun _ => true) [(1, 2, some 3), (1, 2, some 4), (1, 4, none), (1, 5, none), (1, 6, none), (2, 4, some 3), (2, 4, some 4), (2, 36, none)] H0 res.2 := by
  unfold f_X6_enterCalled at h
  refine jn_c1 (P := Ch (fun _ => true) [(1, 2, some 3), (1, 2, some 4), (1, 4, none), (1, 5, none), (1, 6, none), (2, 4, some 3), (2, 4, some 4), (2, 36, none)] H0) h (fun y2 H3 q h => ?_) (fun hj1 h => ?_)
  · replace h := nz_some h
    rcases h with ⟨rfl, h⟩ | ⟨r4, rfl, hr_r4, h⟩
    · replace h := bnd_some h
      obtain ⟨w6, H5, hc, h⟩ := h
      replace q := Ch.tr (fun _ h => h) (by decide) q (ch_X6_dropFrames (Ch.rf _) hc)
      replace h := hl_c (P := Ch (fun _ => true) [(1, 2, some 3), (1, 2, some 4), (1, 4, none), (1, 5, none), (1, 6, none), (2, 4, some 3), (2, 4, some 4), (2, 36, none)] H0) (Ch.sI rfl rfl q) h
      clear q
      obtain ⟨H7, q, h⟩ := h
      cases h
      exact q
    · replace h := it_c h
      rcases h with h | h
      · replace h := bnd_some h
        obtain ⟨w10, H9, hc, h⟩ := h
        replace q := Ch.tr (fun _ h => h) (by decide) q (ch_X6_dropFrames (Ch.rf _) hc)
        replace h := hl_c (P := Ch (fun _ => true) [(1, 2, some 3), (1, 2, some 4), (1, 4, none), (1, 5, none), (1, 6, none), (2, 4, some 3), (2, 4, some 4), (2, 36, none)] H0) (Ch.sI rfl rfl q) h
        clear q
        obtain ⟨H11, q, h⟩ := h
        cases h
        exact q
      · replace h := it_c h
        rcases h with h | h
        · replace h := bnd_some h
          obtain ⟨w14, H13, hc, h⟩ := h
          replace q := Ch.tr (fun _ _ => rfl) (by decide) q (ch_X6_enter (Ch.rf _) hc)
          cases h
          exact q
        · replace h := bnd_some h
          obtain ⟨w16, H15, hc, h⟩ := h
          replace q := Ch.tr (fun _ h => h) (by decide) q (ch_X6_dropFrames (Ch.rf _) hc)
          replace h := hl_c (P := Ch (fun _ => true) [(1, 2, some 3), (1, 2, some 4), (1, 4, none), (1, 5, none), (1, 6, none), (2, 4, some 3), (2, 4, some 4), (2, 36, none)] H0) (Ch.sI rfl rfl q) h
          clear q
          obtain ⟨H17, q, h⟩ := h
          cases h
          exact q
  · replace h := it_c h
    rcases h with h | h
    · exact hj1 none H q h
    · replace h := it_c h
      rcases h with h | h
      · replace h := (gd_some h).2
        replace h := vl_c h
        obtain ⟨o20, h⟩ := h
        exact hj1 o20 H q h
      · exact hj1 none H q h
theorem ch_X6_cross {r : Nat}  {a2 : Int32} {H0 H : Hp} {res : Unit × Hp} (q : Ch (fun q => q == r) [(1, 2, some 6), (1, 5, none), (1, 6, none), (2, 5, some 2), (2, 5, some 3), (2, 34, none), (2, 35, none), (2, 37, none), (2, 38, none)] H0 H) (h : f_X6_cross r a2 H = some res) : Ch (fun q => q == r) [(1, 2, some 6), (1, 5, none), (1, 6, none), (2, 5, some 2), (2, 5, some 3), (2, 34, none), (2, 35, none), (2, 37, none), (2, 38, none)] H0 res.2 := by
  unfold f_X6_cross at h
  replace h := it_c h
  rcases h with h | h
  · cases h
    exact q
  · replace h := it_c h
    rcases h with h | h
    · replace h := vl_c h
      obtain ⟨v3, h⟩ := h
      replace h := (gd_some h).2
      replace h := vl_c h
      obtain ⟨v4, h⟩ := h
      replace h := bnd_some h
      obtain ⟨w6, H5, hc, h⟩ := h
      replace q := Ch.tr (fun _ h => h) (by decide) q (ch_X2_countGone (Ch.rf _) hc)
      replace h := hl_c (P := Ch (fun q => q == r) [(1, 2, some 6), (1, 5, none), (1, 6, none), (2, 5, some 2), (2, 5, some 3), (2, 34, none), (2, 35, none), (2, 37, none), (2, 38, none)] H0) (Ch.sI rfl rfl q) h
      clear q
      obtain ⟨H7, q, h⟩ := h
      replace h := (gd_some h).2
      replace h := (gd_some h).2
      replace h := (gd_some h).2
      replace h := hl_c (P := Ch (fun q => q == r) [(1, 2, some 6), (1, 5, none), (1, 6, none), (2, 5, some 2), (2, 5, some 3), (2, 34, none), (2, 35, none), (2, 37, none), (2, 38, none)] H0) (Ch.sJ rfl rfl q) h
      clear q
      obtain ⟨H8, q, h⟩ := h
      replace h := (gd_some h).2
      replace h := it_c h
      rcases h with h | h
      · replace h := (gd_some h).2
        replace h := hl_c (P := Ch (fun q => q == r) [(1, 2, some 6), (1, 5, none), (1, 6, none), (2, 5, some 2), (2, 5, some 3), (2, 34, none), (2, 35, none), (2, 37, none), (2, 38, none)] H0) (Ch.sI rfl rfl q) h
        clear q
        obtain ⟨H10, q, h⟩ := h
        cases h
        exact q
      · replace h := (gd_some h).2
        replace h := bnd_some h
        obtain ⟨w12, H11, hc, h⟩ := h
        replace q := Ch.tr (fun _ h => h) (by decide) q (ch_X4_count (Ch.rf _) hc)
        replace h := (gd_some h).2
        replace h := (gd_some h).2
        replace h := hl_c (P := Ch (fun q => q == r) [(1, 2, some 6), (1, 5, none), (1, 6, none), (2, 5, some 2), (2, 5, some 3), (2, 34, none), (2, 35, none), (2, 37, none), (2, 38, none)] H0) (Ch.sJ rfl rfl q) h
        clear q
        obtain ⟨H13, q, h⟩ := h
        replace h := (gd_some h).2
        replace h := hl_c (P := Ch (fun q => q == r) [(1, 2, some 6), (1, 5, none), (1, 6, none), (2, 5, some 2), (2, 5, some 3), (2, 34, none), (2, 35, none), (2, 37, none), (2, 38, none)] H0) (Ch.sI rfl rfl q) h
        clear q
        obtain ⟨H14, q, h⟩ := h
        cases h
        exact q
    · cases h
      exact q
theorem ch_X6_leave {nr : Nat} {r : Nat}  {H0 H : Hp} {res : Unit × Hp} (q : Ch (fun _ => true) [(1, 2, some 3), (1, 2, some 4), (1, 2, some 6), (1, 5, none), (1, 6, none), (2, 5, some 2), (2, 5, some 3), (2, 34, none), (2, 35, none), (2, 37, none), (2, 38, none)] H0 H) (h : f_X6_leave nr r H = some res) : Ch (fun _ => true) [(1, 2, some 3), (1, 2, some 4), (1, 2, some 6), (1, 5, none), (1, 6, none), (2, 5, some 2), (2, 5, some 3), (2, 34, none), (2, 35, none), (2, 37, none), (2, 38, none)] H0 res.2 := by
  unfold f_X6_leave at h
  replace h := (gd_some h).2
  replace h := bnd_some h
  obtain ⟨w2, H1, hc, h⟩ := h
  replace q := Ch.tr (fun _ _ => rfl) (by decide) q (ch_X4_count (Ch.rf _) hc)
  replace h := hl_c (P := Ch (fun _ => true) [(1, 2, some 3), (1, 2, some 4), (1, 2, some 6), (1, 5, none), (1, 6, none), (2, 5, some 2), (2, 5, some 3), (2, 34, none), (2, 35, none), (2, 37, none), (2, 38, none)] H0) (Ch.sI rfl rfl q) h
  clear q
  obtain ⟨H3, q, h⟩ := h
  replace h := bnd_some h
  obtain ⟨w5, H4, hc, h⟩ := h
  replace q := Ch.tr (fun _ h => h) (by decide) q (ch_X6_topRoutine (Ch.rf _) hc)
  replace h := nz_some h
  rcases h with ⟨rfl, h⟩ | ⟨r6, rfl, hr_r6, h⟩
  · replace h := hl_c (P := Ch (fun _ => true) [(1, 2, some 3), (1, 2, some 4), (1, 2, some 6), (1, 5, none), (1, 6, none), (2, 5, some 2), (2, 5, some 3), (2, 34, none), (2, 35, none), (2, 37, none), (2, 38, none)] H0) (Ch.sI rfl rfl q) h
    clear q
    obtain ⟨H7, q, h⟩ := h
    cases h
    exact q
  · replace h := (gd_some h).2
    replace h := bnd_some h
    obtain ⟨w9, H8, hc, h⟩ := h
    replace q := Ch.tr (fun _ _ => rfl) (by decide) q (ch_X3_outOf (Ch.rf _) hc)
    replace h := bnd_some h
    obtain ⟨w11, H10, hc, h⟩ := h
    replace q := Ch.tr (fun _ _ => rfl) (by decide) q (ch_X6_cross (Ch.rf _) hc)
    cases h
    exact q
theorem ch_X6_step {nr : Nat}  {H0 H : Hp} {res : Unit × Hp} (q : Ch (fun _ => true) [(1, 2, some 3), (1, 2, some 4), (1, 2, some 6), (1, 2, some 7), (1, 4, none), (1, 5, none), (1, 6, none), (2, 4, some 3), (2, 4, some 4), (2, 5, some 2), (2, 5, some 3), (2, 34, none), (2, 35, none), (2, 36, none), (2, 37, none), (2, 38, none)] H0 H) (h : f_X6_step nr H = some res) : Ch (fun _ => true) [(1, 2, some 3), (1, 2, some 4), (1, 2, some 6), (1, 2, some 7), (1, 4, none), (1, 5, none), (1, 6, none), (2, 4, some 3), (2, 4, some 4), (2, 5, some 2), (2, 5, some 3), (2, 34, none), (2, 35, none), (2, 36, none), (2, 37, none), (2, 38, none)] H0 res.2 := by
  unfold f_X6_step at h
  replace h := bnd_some h
  obtain ⟨w2, H1, hc, h⟩ := h
  replace q := Ch.tr (fun _ h => h) (by decide) q (ch_X6_topRoutine (Ch.rf _) hc)
  replace h := nz_some h
  rcases h with ⟨rfl, h⟩ | ⟨r3, rfl, hr_r3, h⟩
  · cases h
    exact q
  · replace h := (gd_some h).2
    replace h := vl_c h
    obtain ⟨v4, h⟩ := h
    replace h := (gd_some h).2
    replace h := vl_c h
    obtain ⟨v5, h⟩ := h
    replace h := it_c h
    rcases h with h | h
    · replace h := bnd_some h
      obtain ⟨w26, H25, hc, h⟩ := h
      replace q := Ch.tr (fun _ _ => rfl) (by decide) q (ch_X3_outOf (Ch.rf _) hc)
      replace h := bnd_some h
      obtain ⟨w28, H27, hc, h⟩ := h
      replace q := Ch.tr (fun _ _ => rfl) (by decide) q (ch_X6_cross (Ch.rf _) hc)
      cases h
      exact q
    · replace h := it_c h
      rcases h with h | h
      · replace h := (gd_some h).2
        replace h := bnd_some h
        obtain ⟨w20, H19, hc, h⟩ := h
        replace q := Ch.tr (fun _ h => h) (by decide) q (ch_X6_choose (Ch.rf _) hc)
        replace h := bnd_some h
        obtain ⟨w22, H21, hc, h⟩ := h
        replace q := Ch.tr (fun _ _ => rfl) (by decide) q (ch_X3_outOf (Ch.rf _) hc)
        replace h := bnd_some h
        obtain ⟨w24, H23, hc, h⟩ := h
        replace q := Ch.tr (fun _ _ => rfl) (by decide) q (ch_X6_cross (Ch.rf _) hc)
        cases h
        exact q
      · replace h := it_c h
        rcases h with h | h
        · replace h := (gd_some h).2
          replace h := bnd_some h
          obtain ⟨w18, H17, hc, h⟩ := h
          replace q := Ch.tr (fun _ h => h) (by decide) q (ch_X6_enterCalled (Ch.rf _) hc)
          cases h
          exact q
        · replace h := it_c h
          rcases h with h | h
          · replace h := bnd_some h
            obtain ⟨w16, H15, hc, h⟩ := h
            replace q := Ch.tr (fun _ h => h) (by decide) q (ch_X6_leave (Ch.rf _) hc)
            cases h
            exact q
          · replace h := (gd_some h).2
            replace h := bnd_some h
            obtain ⟨w11, H10, hc, h⟩ := h
            replace q := Ch.tr (fun _ _ => rfl) (by decide) q (ch_X4_count (Ch.rf _) hc)
            replace h := bnd_some h
            obtain ⟨w13, H12, hc, h⟩ := h
            replace q := Ch.tr (fun _ h => h) (by decide) q (ch_X6_dropFrames (Ch.rf _) hc)
            replace h := hl_c (P := Ch (fun _ => true) [(1, 2, some 3), (1, 2, some 4), (1, 2, some 6), (1, 2, some 7), (1, 4, none), (1, 5, none), (1, 6, none), (2, 4, some 3), (2, 4, some 4), (2, 5, some 2), (2, 5, some 3), (2, 34, none), (2, 35, none), (2, 36, none), (2, 37, none), (2, 38, none)] H0) (Ch.sI rfl rfl q) h
            clear q
            obtain ⟨H14, q, h⟩ := h
            cases h
            exact q
theorem chL_X6_stepOn_13 {nr : Nat}  {b1 : Int32} {k : Int32 → Hp → Option (Int32 × Hp)} {res : Int32 × Hp} {H0 : Hp} (hk : ∀ (z4 : Int32) (H : Hp), Ch (fun _ => true) [(1, 2, some 3), (1, 2, some 4), (1, 2, some 5), (1, 2, some 6), (1, 2, some 7), (1, 2, some 8), (1, 4, none), (1, 5, none), (1, 6, none), (2, 4, some 3), (2, 4, some 4), (2, 5, some 2), (2, 5, some 3), (2, 34, none), (2, 35, none), (2, 36, none), (2, 37, none), (2, 38, none)] H0 H → k z4 H = some res → Ch (fun _ => true) [(1, 2, some 3), (1, 2, some 4), (1, 2, some 5), (1, 2, some 6), (1, 2, some 7), (1, 2, some 8), (1, 4, none), (1, 5, none), (1, 6, none), (2, 4, some 3), (2, 4, some 4), (2, 5, some 2), (2, 5, some 3), (2, 34, none), (2, 35, none), (2, 36, none), (2, 37, none), (2, 38, none)] H0 res.2) : ∀ (n : Nat) (x4 : Int32) (H : Hp), Ch (fun _ => true) [(1, 2, some 3), (1, 2, some 4), (1, 2, some 5), (1, 2, some 6), (1, 2, some 7), (1, 2, some 8), (1, 4, none), (1, 5, none), (1, 6, none), (2, 4, some 3), (2, 4, some 4), (2, 5, some 2), (2, 5, some 3), (2, 34, none), (2, 35, none), (2, 36, none), (2, 37, none), (2, 38, none)] H0 H → L_X6_stepOn_13 nr b1 k n x4 H = some res → Ch (fun _ => true) [(1, 2, some 3), (1, 2, some 4), (1, 2, some 5), (1, 2, some 6), (1, 2, some 7), (1, 2, some 8), (1, 4, none), (1, 5, none), (1, 6, none), (2, 4, some 3), (2, 4, some 4), (2, 5, some 2), (2, 5, some 3), (2, 34, none), (2, 35, none), (2, 36, none), (2, 37, none), (2, 38, none)] H0 res.2 := by
  intro n
  induction n with
  | zero => intro x4 H q h; exact nomatch (show (none : Option (Int32 × Hp)) = some res from h)
  | succ n ih =>
    intro x4 H q h
    rw [L_X6_stepOn_13] at h
    replace h := it_c h
    rcases h with h | h
    · exact hk x4 H q h
    · replace h := it_c h
      rcases h with h | h
      · replace h := bnd_some h
        obtain ⟨w6, H5, hc, h⟩ := h
        replace q := Ch.tr (fun _ h => h) (by decide) q (ch_X6_step (Ch.rf _) hc)
        replace h := vl_c h
        obtain ⟨v7, h⟩ := h
        exact ih v7 H5 q h
      · exact hk x4 H q h
theorem ch_X6_stepOn {nr : Nat}  {a1 : Int32} {a2 : Int32} {H0 H : Hp} {res : Int32 × Hp} (q : Ch (fun _ => true) [(1, 2, some 3), (1, 2, some 4), (1, 2, some 5), (1, 2, some 6), (1, 2, some 7), (1, 2, some 8), (1, 4, none), (1, 5, none), (1, 6, none), (2, 4, some 3), (2, 4, some 4), (2, 5, some 2), (2, 5, some 3), (2, 34, none), (2, 35, none), (2, 36, none), (2, 37, none), (2, 38, none)] H0 H) (h : f_X6_stepOn nr a1 a2 H = some res) : Ch (fun _ => true) [(1, 2, some 3), (1, 2, some 4), (1, 2, some 5), (1, 2, some 6), (1, 2, some 7), (1, 2, some 8), (1, 4, none), (1, 5, none), (1, 6, none), (2, 4, some 3), (2, 4, some 4), (2, 5, some 2), (2, 5, some 3), (2, 34, none), (2, 35, none), (2, 36, none), (2, 37, none), (2, 38, none)] H0 res.2 := by
  unfold f_X6_stepOn at h
  replace h := hl_c (P := Ch (fun _ => true) [(1, 2, some 3), (1, 2, some 4), (1, 2, some 5), (1, 2, some 6), (1, 2, some 7), (1, 2, some 8), (1, 4, none), (1, 5, none), (1, 6, none), (2, 4, some 3), (2, 4, some 4), (2, 5, some 2), (2, 5, some 3), (2, 34, none), (2, 35, none), (2, 36, none), (2, 37, none), (2, 38, none)] H0) (Ch.sI rfl rfl q) h
  clear q
  obtain ⟨H1, q, h⟩ := h
  replace h := hl_c (P := Ch (fun _ => true) [(1, 2, some 3), (1, 2, some 4), (1, 2, some 5), (1, 2, some 6), (1, 2, some 7), (1, 2, some 8), (1, 4, none), (1, 5, none), (1, 6, none), (2, 4, some 3), (2, 4, some 4), (2, 5, some 2), (2, 5, some 3), (2, 34, none), (2, 35, none), (2, 36, none), (2, 37, none), (2, 38, none)] H0) (Ch.sI rfl rfl q) h
  clear q
  obtain ⟨H2, q, h⟩ := h
  refine chL_X6_stepOn_13 (fun z8 H9 q h => ?_) _ 0 H2 q h
  replace h := hl_c (P := Ch (fun _ => true) [(1, 2, some 3), (1, 2, some 4), (1, 2, some 5), (1, 2, some 6), (1, 2, some 7), (1, 2, some 8), (1, 4, none), (1, 5, none), (1, 6, none), (2, 4, some 3), (2, 4, some 4), (2, 5, some 2), (2, 5, some 3), (2, 34, none), (2, 35, none), (2, 36, none), (2, 37, none), (2, 38, none)] H0) (Ch.sI rfl rfl q) h
  clear q
  obtain ⟨H10, q, h⟩ := h
  cases h
  exact q
theorem ch_X6_startIn {nr : Nat} {r : Nat}  {H0 H : Hp} {res : Unit × Hp} (q : Ch (fun _ => true) [(1, 2, some 3), (1, 2, some 4), (1, 2, some 5), (1, 2, some 6), (1, 4, none), (1, 5, none), (1, 6, none), (2, 4, some 3), (2, 4, some 4), (2, 36, none)] H0 H) (h : f_X6_startIn nr r H = some res) : Ch (fun _ => true) [(1, 2, some 3), (1, 2, some 4), (1, 2, some 5), (1, 2, some 6), (1, 4, none), (1, 5, none), (1, 6, none), (2, 4, some 3), (2, 4, some 4), (2, 36, none)] H0 res.2 := by
  unfold f_X6_startIn at h
  replace h := bnd_some h
  obtain ⟨w2, H1, hc, h⟩ := h
  replace q := Ch.tr (fun _ h => h) (by decide) q (ch_X6_dropFrames (Ch.rf _) hc)
  replace h := hl_c (P := Ch (fun _ => true) [(1, 2, some 3), (1, 2, some 4), (1, 2, some 5), (1, 2, some 6), (1, 4, none), (1, 5, none), (1, 6, none), (2, 4, some 3), (2, 4, some 4), (2, 36, none)] H0) (Ch.sI rfl rfl q) h
  clear q
  obtain ⟨H3, q, h⟩ := h
  replace h := hl_c (P := Ch (fun _ => true) [(1, 2, some 3), (1, 2, some 4), (1, 2, some 5), (1, 2, some 6), (1, 4, none), (1, 5, none), (1, 6, none), (2, 4, some 3), (2, 4, some 4), (2, 36, none)] H0) (Ch.sI rfl rfl q) h
  clear q
  obtain ⟨H4, q, h⟩ := h
  replace h := hl_c (P := Ch (fun _ => true) [(1, 2, some 3), (1, 2, some 4), (1, 2, some 5), (1, 2, some 6), (1, 4, none), (1, 5, none), (1, 6, none), (2, 4, some 3), (2, 4, some 4), (2, 36, none)] H0) (Ch.sI rfl rfl q) h
  clear q
  obtain ⟨H5, q, h⟩ := h
  replace h := bnd_some h
  obtain ⟨w7, H6, hc, h⟩ := h
  replace q := Ch.tr (fun _ _ => rfl) (by decide) q (ch_X6_enter (Ch.rf _) hc)
  cases h
  exact q
theorem ch_X6_ofRun {nr : Nat}  {a1 : Int32} {H0 H : Hp} {res : Int32 × Hp} (q : Ch (fun _ => true) [] H0 H) (h : f_X6_ofRun nr a1 H = some res) : Ch (fun _ => true) [] H0 res.2 := by
  unfold f_X6_ofRun at h
  replace h := bnd_some h
  obtain ⟨w2, H1, hc, h⟩ := h
  replace q := Ch.tr (fun _ h => h) (by decide) q (ch_X6_topRoutine (Ch.rf _) hc)
  replace h := it_c h
  rcases h with h | h
  · cases h
    exact q
  · replace h := it_c h
    rcases h with h | h
    · cases h
      exact q
    · replace h := it_c h
      rcases h with h | h
      · cases h
        exact q
      · replace h := it_c h
        rcases h with h | h
        · replace h := nz_some h
          rcases h with ⟨rfl, h⟩ | ⟨r10, rfl, hr_r10, h⟩
          · cases h
            exact q
          · cases h
            exact q
        · replace h := it_c h
          rcases h with h | h
          · replace h := nz_some h
            rcases h with ⟨rfl, h⟩ | ⟨r9, rfl, hr_r9, h⟩
            · cases h
              exact q
            · replace h := (gd_some h).2
              cases h
              exact q
          · replace h := it_c h
            rcases h with h | h
            · cases h
              exact q
            · cases h
              exact q
theorem chL_X1_takeCounts_2 {r : Nat}  {k : Hp → Option (Unit × Hp)} {res : Unit × Hp} {H0 : Hp} (hk : ∀ (H : Hp), Ch (fun q => q == r) [(1, 7, none), (1, 8, none)] H0 H → k H = some res → Ch (fun q => q == r) [(1, 7, none), (1, 8, none)] H0 res.2) : ∀ (n : Nat) (x3 : Int32) (H : Hp), Ch (fun q => q == r) [(1, 7, none), (1, 8, none)] H0 H → L_X1_takeCounts_2 r k n x3 H = some res → Ch (fun q => q == r) [(1, 7, none), (1, 8, none)] H0 res.2 := by
  intro n
  induction n with
  | zero => intro x3 H q h; exact nomatch (show (none : Option (Unit × Hp)) = some res from h)
  | succ n ih =>
    intro x3 H q h
    rw [L_X1_takeCounts_2] at h
    replace h := it_c h
    rcases h with h | h
    · exact hk H q h
    · replace h := (gd_some h).2
      replace h := hl_c (P := Ch (fun q => q == r) [(1, 7, none), (1, 8, none)] H0) (Ch.sI rfl rfl q) h
      clear q
      obtain ⟨H2, q, h⟩ := h
      replace h := vl_c h
      obtain ⟨v3, h⟩ := h
      exact ih v3 H2 q h
theorem chL_X1_takeCounts_25 {r : Nat}  {k : Hp → Option (Unit × Hp)} {res : Unit × Hp} {H0 : Hp} (hk : ∀ (H : Hp), Ch (fun q => q == r) [(1, 7, none), (1, 8, none)] H0 H → k H = some res → Ch (fun q => q == r) [(1, 7, none), (1, 8, none)] H0 res.2) : ∀ (n : Nat) (x3 : Int32) (H : Hp), Ch (fun q => q == r) [(1, 7, none), (1, 8, none)] H0 H → L_X1_takeCounts_25 r k n x3 H = some res → Ch (fun q => q == r) [(1, 7, none), (1, 8, none)] H0 res.2 := by
  intro n
  induction n with
  | zero => intro x3 H q h; exact nomatch (show (none : Option (Unit × Hp)) = some res from h)
  | succ n ih =>
    intro x3 H q h
    rw [L_X1_takeCounts_25] at h
    replace h := it_c h
    rcases h with h | h
    · exact hk H q h
    · refine jn_c1 (P := Ch (fun q => q == r) [(1, 7, none), (1, 8, none)] H0) h (fun y7 H8 q h => ?_) (fun hj6 h => ?_)
      · replace h := (gd_some h).2
        replace h := hl_c (P := Ch (fun q => q == r) [(1, 7, none), (1, 8, none)] H0) (Ch.sI rfl rfl q) h
        clear q
        obtain ⟨H9, q, h⟩ := h
        replace h := (gd_some h).2
        replace h := (gd_some h).2
        replace h := (gd_some h).2
        replace h := (gd_some h).2
        replace h := hl_c (P := Ch (fun q => q == r) [(1, 7, none), (1, 8, none)] H0) (Ch.sI rfl rfl q) h
        clear q
        obtain ⟨H10, q, h⟩ := h
        replace h := (gd_some h).2
        replace h := (gd_some h).2
        replace h := (gd_some h).2
        replace h := (gd_some h).2
        replace h := hl_c (P := Ch (fun q => q == r) [(1, 7, none), (1, 8, none)] H0) (Ch.sI rfl rfl q) h
        clear q
        obtain ⟨H11, q, h⟩ := h
        replace h := vl_c h
        obtain ⟨v12, h⟩ := h
        exact ih v12 H11 q h
      · replace h := it_c h
        rcases h with h | h
        · exact hj6 0 H q h
        · replace h := (gd_some h).2
          exact hj6 ((gI H (r + 2) 6 (Int32.toNatClampNeg x3))) H q h
theorem ch_X1_takeCounts {r : Nat}  {H0 H : Hp} {res : Unit × Hp} (q : Ch (fun q => q == r) [(1, 7, none), (1, 8, none)] H0 H) (h : f_X1_takeCounts r H = some res) : Ch (fun q => q == r) [(1, 7, none), (1, 8, none)] H0 res.2 := by
  unfold f_X1_takeCounts at h
  refine chL_X1_takeCounts_2 (fun H4 q h => ?_) _ 0 H q h
  refine chL_X1_takeCounts_25 (fun H14 q h => ?_) _ 0 H4 q h
  cases h
  exact q
theorem ch_X1_comeNearer  {a1 : Int32} {a2 : Int32} {a3 : Int32} {a4 : Int32} {H0 H : Hp} {res : Int32 × Hp} (q : Ch (fun _ => true) [(1, 9, none), (1, 10, none)] H0 H) (h : f_X1_comeNearer a1 a2 a3 a4 H = some res) : Ch (fun _ => true) [(1, 9, none), (1, 10, none)] H0 res.2 := by
  unfold f_X1_comeNearer at h
  replace h := (gd_some h).2
  replace h := it_c h
  rcases h with h | h
  · cases h
    exact q
  · replace h := (gd_some h).2
    replace h := (gd_some h).2
    replace h := it_c h
    rcases h with h | h
    · replace h := (gd_some h).2
      replace h := (gd_some h).2
      replace h := hl_c (P := Ch (fun _ => true) [(1, 9, none), (1, 10, none)] H0) (Ch.sI rfl rfl q) h
      clear q
      obtain ⟨H3, q, h⟩ := h
      replace h := (gd_some h).2
      replace h := hl_c (P := Ch (fun _ => true) [(1, 9, none), (1, 10, none)] H0) (Ch.sI rfl rfl q) h
      clear q
      obtain ⟨H4, q, h⟩ := h
      cases h
      exact q
    · cases h
      exact q
theorem ch_X1_costOfMore  {a1 : Int32} {a2 : Int32} {H0 H : Hp} {res : Int32 × Hp} (q : Ch (fun _ => true) [] H0 H) (h : f_X1_costOfMore a1 a2 H = some res) : Ch (fun _ => true) [] H0 res.2 := by
  unfold f_X1_costOfMore at h
  replace h := it_c h
  rcases h with h | h
  · cases h
    exact q
  · replace h := (gd_some h).2
    replace h := it_c h
    rcases h with h | h
    · cases h
      exact q
    · cases h
      exact q
theorem ch_X1_costOfLess  {a1 : Int32} {a2 : Int32} {H0 H : Hp} {res : Int32 × Hp} (q : Ch (fun _ => true) [] H0 H) (h : f_X1_costOfLess a1 a2 H = some res) : Ch (fun _ => true) [] H0 res.2 := by
  unfold f_X1_costOfLess at h
  replace h := it_c h
  rcases h with h | h
  · cases h
    exact q
  · replace h := (gd_some h).2
    replace h := it_c h
    rcases h with h | h
    · cases h
      exact q
    · cases h
      exact q
theorem chL_X1_measure_2 {r : Nat}  {k : Hp → Option (Unit × Hp)} {res : Unit × Hp} {H0 : Hp} (hk : ∀ (H : Hp), Ch (fun q => q == r) [(1, 9, none), (1, 10, none)] H0 H → k H = some res → Ch (fun q => q == r) [(1, 9, none), (1, 10, none)] H0 res.2) : ∀ (n : Nat) (x3 : Int32) (H : Hp), Ch (fun q => q == r) [(1, 9, none), (1, 10, none)] H0 H → L_X1_measure_2 r k n x3 H = some res → Ch (fun q => q == r) [(1, 9, none), (1, 10, none)] H0 res.2 := by
  intro n
  induction n with
  | zero => intro x3 H q h; exact nomatch (show (none : Option (Unit × Hp)) = some res from h)
  | succ n ih =>
    intro x3 H q h
    rw [L_X1_measure_2] at h
    replace h := it_c h
    rcases h with h | h
    · exact hk H q h
    · replace h := (gd_some h).2
      replace h := it_c h
      rcases h with h | h
      · replace h := (gd_some h).2
        replace h := hl_c (P := Ch (fun q => q == r) [(1, 9, none), (1, 10, none)] H0) (Ch.sI rfl rfl q) h
        clear q
        obtain ⟨H3, q, h⟩ := h
        replace h := (gd_some h).2
        replace h := hl_c (P := Ch (fun q => q == r) [(1, 9, none), (1, 10, none)] H0) (Ch.sI rfl rfl q) h
        clear q
        obtain ⟨H4, q, h⟩ := h
        replace h := vl_c h
        obtain ⟨v5, h⟩ := h
        exact ih v5 H4 q h
      · replace h := (gd_some h).2
        replace h := hl_c (P := Ch (fun q => q == r) [(1, 9, none), (1, 10, none)] H0) (Ch.sI rfl rfl q) h
        clear q
        obtain ⟨H6, q, h⟩ := h
        replace h := (gd_some h).2
        replace h := hl_c (P := Ch (fun q => q == r) [(1, 9, none), (1, 10, none)] H0) (Ch.sI rfl rfl q) h
        clear q
        obtain ⟨H7, q, h⟩ := h
        replace h := vl_c h
        obtain ⟨v8, h⟩ := h
        exact ih v8 H7 q h
theorem chL_X1_measure_67 {r : Nat}  {b4 : Int32} {k : Int32 → Hp → Option (Unit × Hp)} {res : Unit × Hp} {H0 : Hp} (hk : ∀ (z3 : Int32) (H : Hp), Ch (fun q => q == r) [(1, 9, none), (1, 10, none)] H0 H → k z3 H = some res → Ch (fun q => q == r) [(1, 9, none), (1, 10, none)] H0 res.2) : ∀ (n : Nat) (x3 : Int32) (x5 : Int32) (H : Hp), Ch (fun q => q == r) [(1, 9, none), (1, 10, none)] H0 H → L_X1_measure_67 r b4 k n x3 x5 H = some res → Ch (fun q => q == r) [(1, 9, none), (1, 10, none)] H0 res.2 := by
  intro n
  induction n with
  | zero => intro x3 x5 H q h; exact nomatch (show (none : Option (Unit × Hp)) = some res from h)
  | succ n ih =>
    intro x3 x5 H q h
    rw [L_X1_measure_67] at h
    replace h := it_c h
    rcases h with h | h
    · exact hk x3 H q h
    · refine jn_c1 (P := Ch (fun q => q == r) [(1, 9, none), (1, 10, none)] H0) h (fun y14 H15 q h => ?_) (fun hj13 h => ?_)
      · replace h := (gd_some h).2
        replace h := (gd_some h).2
        replace h := bnd_some h
        obtain ⟨w17, H16, hc, h⟩ := h
        replace q := Ch.trn (by decide) (by decide) q (ch_X1_costOfMore (Ch.rf _) hc)
        replace h := bnd_some h
        obtain ⟨w19, H18, hc, h⟩ := h
        replace q := Ch.trn (by decide) (by decide) q (ch_X1_comeNearer (Ch.rf _) hc)
        refine jn_c1 (P := Ch (fun q => q == r) [(1, 9, none), (1, 10, none)] H0) h (fun y21 H22 q h => ?_) (fun hj20 h => ?_)
        · replace h := (gd_some h).2
          replace h := it_c h
          rcases h with h | h
          · replace h := vl_c h
            obtain ⟨v24, h⟩ := h
            exact ih y21 v24 H22 q h
          · replace h := (gd_some h).2
            replace h := (gd_some h).2
            replace h := bnd_some h
            obtain ⟨w26, H25, hc, h⟩ := h
            replace q := Ch.trn (by decide) (by decide) q (ch_X1_costOfLess (Ch.rf _) hc)
            replace h := bnd_some h
            obtain ⟨w28, H27, hc, h⟩ := h
            replace q := Ch.trn (by decide) (by decide) q (ch_X1_comeNearer (Ch.rf _) hc)
            replace h := it_c h
            rcases h with h | h
            · replace h := vl_c h
              obtain ⟨v30, h⟩ := h
              exact ih y21 v30 H27 q h
            · replace h := vl_c h
              obtain ⟨v31, h⟩ := h
              exact ih 1 v31 H27 q h
        · replace h := it_c h
          rcases h with h | h
          · exact hj20 x3 H18 q h
          · exact hj20 1 H18 q h
      · replace h := it_c h
        rcases h with h | h
        · exact hj13 (-1) H q h
        · replace h := (gd_some h).2
          exact hj13 ((gI H (r + 2) 6 (Int32.toNatClampNeg x5))) H q h
theorem chL_X1_measure_49 {r : Nat}  {k : Hp → Option (Unit × Hp)} {res : Unit × Hp} {H0 : Hp} (hk : ∀ (H : Hp), Ch (fun q => q == r) [(1, 9, none), (1, 10, none)] H0 H → k H = some res → Ch (fun q => q == r) [(1, 9, none), (1, 10, none)] H0 res.2) : ∀ (n : Nat) (x3 : Int32) (x4 : Int32) (H : Hp), Ch (fun q => q == r) [(1, 9, none), (1, 10, none)] H0 H → L_X1_measure_49 r k n x3 x4 H = some res → Ch (fun q => q == r) [(1, 9, none), (1, 10, none)] H0 res.2 := by
  intro n
  induction n with
  | zero => intro x3 x4 H q h; exact nomatch (show (none : Option (Unit × Hp)) = some res from h)
  | succ n ih =>
    intro x3 x4 H q h
    rw [L_X1_measure_49] at h
    replace h := it_c h
    rcases h with h | h
    · exact hk H q h
    · replace h := it_c h
      rcases h with h | h
      · exact hk H q h
      · refine chL_X1_measure_67 (fun z34 H35 q h => ?_) _ 0 0 H q h
        replace h := vl_c h
        obtain ⟨v36, h⟩ := h
        exact ih z34 v36 H35 q h
theorem ch_X1_measure {r : Nat}  {H0 H : Hp} {res : Unit × Hp} (q : Ch (fun q => q == r) [(1, 9, none), (1, 10, none)] H0 H) (h : f_X1_measure r H = some res) : Ch (fun q => q == r) [(1, 9, none), (1, 10, none)] H0 res.2 := by
  unfold f_X1_measure at h
  refine chL_X1_measure_2 (fun H9 q h => ?_) _ 0 H q h
  refine chL_X1_measure_49 (fun H37 q h => ?_) _ 1 0 H9 q h
  cases h
  exact q
theorem chL_X1_nearestLack_4 {r : Nat}  {k : Int32 → Hp → Option (Int32 × Hp)} {res : Int32 × Hp} {H0 : Hp} (hk : ∀ (z2 : Int32) (H : Hp), Ch (fun q => q == r) [] H0 H → k z2 H = some res → Ch (fun q => q == r) [] H0 res.2) : ∀ (n : Nat) (x2 : Int32) (x3 : Int32) (H : Hp), Ch (fun q => q == r) [] H0 H → L_X1_nearestLack_4 r k n x2 x3 H = some res → Ch (fun q => q == r) [] H0 res.2 := by
  intro n
  induction n with
  | zero => intro x2 x3 H q h; exact nomatch (show (none : Option (Int32 × Hp)) = some res from h)
  | succ n ih =>
    intro x2 x3 H q h
    rw [L_X1_nearestLack_4] at h
    replace h := it_c h
    rcases h with h | h
    · exact hk x2 H q h
    · replace h := (gd_some h).2
      replace h := it_c h
      rcases h with h | h
      · replace h := vl_c h
        obtain ⟨v3, h⟩ := h
        exact ih x2 v3 H q h
      · replace h := (gd_some h).2
        replace h := it_c h
        rcases h with h | h
        · replace h := vl_c h
          obtain ⟨v5, h⟩ := h
          exact ih x2 v5 H q h
        · replace h := it_c h
          rcases h with h | h
          · replace h := vl_c h
            obtain ⟨v7, h⟩ := h
            exact ih x3 v7 H q h
          · replace h := (gd_some h).2
            replace h := (gd_some h).2
            replace h := it_c h
            rcases h with h | h
            · replace h := vl_c h
              obtain ⟨v9, h⟩ := h
              exact ih x2 v9 H q h
            · replace h := vl_c h
              obtain ⟨v10, h⟩ := h
              exact ih x3 v10 H q h
theorem ch_X1_nearestLack {r : Nat}  {H0 H : Hp} {res : Int32 × Hp} (q : Ch (fun q => q == r) [] H0 H) (h : f_X1_nearestLack r H = some res) : Ch (fun q => q == r) [] H0 res.2 := by
  unfold f_X1_nearestLack at h
  refine chL_X1_nearestLack_4 (fun z11 H12 q h => ?_) _ (-1) 0 H q h
  cases h
  exact q
theorem ch_X1_roomForMore  {a1 : Int32} {a2 : Int32} {H0 H : Hp} {res : Int32 × Hp} (q : Ch (fun _ => true) [] H0 H) (h : f_X1_roomForMore a1 a2 H = some res) : Ch (fun _ => true) [] H0 res.2 := by
  unfold f_X1_roomForMore at h
  replace h := (gd_some h).2
  replace h := it_c h
  rcases h with h | h
  · cases h
    exact q
  · replace h := (gd_some h).2
    cases h
    exact q
theorem ch_X1_roomForLess  {a1 : Int32} {a2 : Int32} {H0 H : Hp} {res : Int32 × Hp} (q : Ch (fun _ => true) [] H0 H) (h : f_X1_roomForLess a1 a2 H = some res) : Ch (fun _ => true) [] H0 res.2 := by
  unfold f_X1_roomForLess at h
  replace h := it_c h
  rcases h with h | h
  · replace h := (gd_some h).2
    cases h
    exact q
  · replace h := (gd_some h).2
    replace h := it_c h
    rcases h with h | h
    · replace h := (gd_some h).2
      cases h
      exact q
    · replace h := (gd_some h).2
      cases h
      exact q
theorem chL_X1_carryTo_15 {r : Nat}  {b1 : Int32} {k : Int32 → Int32 → Hp → Option (Unit × Hp)} {res : Unit × Hp} {H0 : Hp} (hk : ∀ (z4 : Int32) (z5 : Int32) (H : Hp), Ch (fun q => q == r) [(1, 7, none), (1, 8, none)] H0 H → k z4 z5 H = some res → Ch (fun q => q == r) [(1, 7, none), (1, 8, none)] H0 res.2) : ∀ (n : Nat) (x4 : Int32) (x5 : Int32) (x6 : Int32) (H : Hp), Ch (fun q => q == r) [(1, 7, none), (1, 8, none)] H0 H → L_X1_carryTo_15 r b1 k n x4 x5 x6 H = some res → Ch (fun q => q == r) [(1, 7, none), (1, 8, none)] H0 res.2 := by
  intro n
  induction n with
  | zero => intro x4 x5 x6 H q h; exact nomatch (show (none : Option (Unit × Hp)) = some res from h)
  | succ n ih =>
    intro x4 x5 x6 H q h
    rw [L_X1_carryTo_15] at h
    replace h := it_c h
    rcases h with h | h
    · exact hk x4 x5 H q h
    · replace h := (gd_some h).2
      replace h := it_c h
      rcases h with h | h
      · exact hk x4 x5 H q h
      · replace h := (gd_some h).2
        replace h := vl_c h
        obtain ⟨v4, h⟩ := h
        refine jn_c1 (P := Ch (fun q => q == r) [(1, 7, none), (1, 8, none)] H0) h (fun y6 H7 q h => ?_) (fun hj5 h => ?_)
        · replace h := (gd_some h).2
          refine jn_c1 (P := Ch (fun q => q == r) [(1, 7, none), (1, 8, none)] H0) h (fun y9 H10 q h => ?_) (fun hj8 h => ?_)
          · refine jn_c1 (P := Ch (fun q => q == r) [(1, 7, none), (1, 8, none)] H0) h (fun y12 H13 q h => ?_) (fun hj11 h => ?_)
            · replace h := vl_c h
              obtain ⟨v14, h⟩ := h
              replace h := it_c h
              rcases h with h | h
              · replace h := (gd_some h).2
                replace h := vl_c h
                obtain ⟨v16, h⟩ := h
                replace h := vl_c h
                obtain ⟨v17, h⟩ := h
                exact ih v14 v16 v17 H13 q h
              · replace h := (gd_some h).2
                replace h := vl_c h
                obtain ⟨v18, h⟩ := h
                replace h := vl_c h
                obtain ⟨v19, h⟩ := h
                exact ih v14 v18 v19 H13 q h
            · replace h := it_c h
              rcases h with h | h
              · replace h := bnd_some h
                obtain ⟨w22, H21, hc, h⟩ := h
                replace q := Ch.trn (by decide) (by decide) q (ch_X1_roomForLess (Ch.rf _) hc)
                exact hj11 w22 H21 q h
              · replace h := bnd_some h
                obtain ⟨w24, H23, hc, h⟩ := h
                replace q := Ch.trn (by decide) (by decide) q (ch_X1_roomForMore (Ch.rf _) hc)
                exact hj11 w24 H23 q h
          · replace h := it_c h
            rcases h with h | h
            · exact hj8 1 H7 q h
            · exact hj8 0 H7 q h
        · replace h := it_c h
          rcases h with h | h
          · exact hj5 (-1) H q h
          · replace h := (gd_some h).2
            exact hj5 ((gI H (r + 2) 6 (Int32.toNatClampNeg v4))) H q h
theorem chL_X1_carryTo_186 {r : Nat}  {b4 : Int32} {k : Hp → Option (Unit × Hp)} {res : Unit × Hp} {H0 : Hp} (hk : ∀ (H : Hp), Ch (fun q => q == r) [(1, 7, none), (1, 8, none)] H0 H → k H = some res → Ch (fun q => q == r) [(1, 7, none), (1, 8, none)] H0 res.2) : ∀ (n : Nat) (x5 : Int32) (x6 : Int32) (H : Hp), Ch (fun q => q == r) [(1, 7, none), (1, 8, none)] H0 H → L_X1_carryTo_186 r b4 k n x5 x6 H = some res → Ch (fun q => q == r) [(1, 7, none), (1, 8, none)] H0 res.2 := by
  intro n
  induction n with
  | zero => intro x5 x6 H q h; exact nomatch (show (none : Option (Unit × Hp)) = some res from h)
  | succ n ih =>
    intro x5 x6 H q h
    rw [L_X1_carryTo_186] at h
    replace h := it_c h
    rcases h with h | h
    · exact hk H q h
    · replace h := (gd_some h).2
      replace h := it_c h
      rcases h with h | h
      · exact hk H q h
      · replace h := (gd_some h).2
        replace h := vl_c h
        obtain ⟨v35, h⟩ := h
        replace h := (gd_some h).2
        refine jn_c1 (P := Ch (fun q => q == r) [(1, 7, none), (1, 8, none)] H0) h (fun y37 H38 q h => ?_) (fun hj36 h => ?_)
        · replace h := (gd_some h).2
          refine jn_c1 (P := Ch (fun q => q == r) [(1, 7, none), (1, 8, none)] H0) h (fun y40 H41 q h => ?_) (fun hj39 h => ?_)
          · replace h := (gd_some h).2
            replace h := hl_c (P := Ch (fun q => q == r) [(1, 7, none), (1, 8, none)] H0) (Ch.sI rfl rfl q) h
            clear q
            obtain ⟨H42, q, h⟩ := h
            replace h := it_c h
            rcases h with h | h
            · replace h := (gd_some h).2
              replace h := vl_c h
              obtain ⟨v44, h⟩ := h
              replace h := vl_c h
              obtain ⟨v45, h⟩ := h
              exact ih v44 v45 H42 q h
            · replace h := (gd_some h).2
              replace h := vl_c h
              obtain ⟨v46, h⟩ := h
              replace h := vl_c h
              obtain ⟨v47, h⟩ := h
              exact ih v46 v47 H42 q h
          · replace h := it_c h
            rcases h with h | h
            · exact hj39 (-b4) H38 q h
            · exact hj39 b4 H38 q h
        · replace h := it_c h
          rcases h with h | h
          · exact hj36 1 H q h
          · exact hj36 0 H q h
theorem ch_X1_carryTo {r : Nat}  {a1 : Int32} {H0 H : Hp} {res : Unit × Hp} (q : Ch (fun q => q == r) [(1, 7, none), (1, 8, none)] H0 H) (h : f_X1_carryTo r a1 H = some res) : Ch (fun q => q == r) [(1, 7, none), (1, 8, none)] H0 res.2 := by
  unfold f_X1_carryTo at h
  replace h := (gd_some h).2
  replace h := vl_c h
  obtain ⟨v1, h⟩ := h
  refine chL_X1_carryTo_15 (fun z27 z28 H29 q h => ?_) _ v1 a1 0 H q h
  replace h := (gd_some h).2
  replace h := vl_c h
  obtain ⟨v30, h⟩ := h
  replace h := (gd_some h).2
  replace h := (gd_some h).2
  replace h := hl_c (P := Ch (fun q => q == r) [(1, 7, none), (1, 8, none)] H0) (Ch.sI rfl rfl q) h
  clear q
  obtain ⟨H31, q, h⟩ := h
  replace h := (gd_some h).2
  replace h := (gd_some h).2
  replace h := hl_c (P := Ch (fun q => q == r) [(1, 7, none), (1, 8, none)] H0) (Ch.sI rfl rfl q) h
  clear q
  obtain ⟨H32, q, h⟩ := h
  refine chL_X1_carryTo_186 (fun H50 q h => ?_) _ a1 0 H32 q h
  cases h
  exact q
theorem chL_X1_leastChange_8 {r : Nat}  {k : Hp → Option (Int64 × Hp)} {res : Int64 × Hp} {H0 : Hp} (hk : ∀ (H : Hp), Ch (fun q => q == r) [(1, 7, none), (1, 8, none), (1, 9, none), (1, 10, none)] H0 H → k H = some res → Ch (fun q => q == r) [(1, 7, none), (1, 8, none), (1, 9, none), (1, 10, none)] H0 res.2) : ∀ (n : Nat) (x3 : Int32) (H : Hp), Ch (fun q => q == r) [(1, 7, none), (1, 8, none), (1, 9, none), (1, 10, none)] H0 H → L_X1_leastChange_8 r k n x3 H = some res → Ch (fun q => q == r) [(1, 7, none), (1, 8, none), (1, 9, none), (1, 10, none)] H0 res.2 := by
  intro n
  induction n with
  | zero => intro x3 H q h; exact nomatch (show (none : Option (Int64 × Hp)) = some res from h)
  | succ n ih =>
    intro x3 H q h
    rw [L_X1_leastChange_8] at h
    replace h := it_c h
    rcases h with h | h
    · exact hk H q h
    · replace h := bnd_some h
      obtain ⟨w5, H4, hc, h⟩ := h
      replace q := Ch.tr (fun _ h => h) (by decide) q (ch_X1_measure (Ch.rf _) hc)
      replace h := bnd_some h
      obtain ⟨w7, H6, hc, h⟩ := h
      replace q := Ch.tr (fun _ h => h) (by decide) q (ch_X1_nearestLack (Ch.rf _) hc)
      replace h := it_c h
      rcases h with h | h
      · exact hk H6 q h
      · replace h := bnd_some h
        obtain ⟨w10, H9, hc, h⟩ := h
        replace q := Ch.tr (fun _ h => h) (by decide) q (ch_X1_carryTo (Ch.rf _) hc)
        replace h := vl_c h
        obtain ⟨v11, h⟩ := h
        exact ih v11 H9 q h
theorem chL_X1_leastChange_55 {r : Nat}  {k : Int64 → Hp → Option (Int64 × Hp)} {res : Int64 × Hp} {H0 : Hp} (hk : ∀ (z3 : Int64) (H : Hp), Ch (fun q => q == r) [(1, 7, none), (1, 8, none), (1, 9, none), (1, 10, none)] H0 H → k z3 H = some res → Ch (fun q => q == r) [(1, 7, none), (1, 8, none), (1, 9, none), (1, 10, none)] H0 res.2) : ∀ (n : Nat) (x3 : Int64) (x5 : Int32) (H : Hp), Ch (fun q => q == r) [(1, 7, none), (1, 8, none), (1, 9, none), (1, 10, none)] H0 H → L_X1_leastChange_55 r k n x3 x5 H = some res → Ch (fun q => q == r) [(1, 7, none), (1, 8, none), (1, 9, none), (1, 10, none)] H0 res.2 := by
  intro n
  induction n with
  | zero => intro x3 x5 H q h; exact nomatch (show (none : Option (Int64 × Hp)) = some res from h)
  | succ n ih =>
    intro x3 x5 H q h
    rw [L_X1_leastChange_55] at h
    replace h := it_c h
    rcases h with h | h
    · exact hk x3 H q h
    · replace h := (gd_some h).2
      replace h := (gd_some h).2
      replace h := vl_c h
      obtain ⟨v14, h⟩ := h
      replace h := vl_c h
      obtain ⟨v15, h⟩ := h
      exact ih v14 v15 H q h
theorem ch_X1_leastChange {r : Nat}  {H0 H : Hp} {res : Int64 × Hp} (q : Ch (fun q => q == r) [(1, 7, none), (1, 8, none), (1, 9, none), (1, 10, none)] H0 H) (h : f_X1_leastChange r H = some res) : Ch (fun q => q == r) [(1, 7, none), (1, 8, none), (1, 9, none), (1, 10, none)] H0 res.2 := by
  unfold f_X1_leastChange at h
  replace h := bnd_some h
  obtain ⟨w2, H1, hc, h⟩ := h
  replace q := Ch.tr (fun _ h => h) (by decide) q (ch_X1_takeCounts (Ch.rf _) hc)
  refine chL_X1_leastChange_8 (fun H12 q h => ?_) _ 0 H1 q h
  refine chL_X1_leastChange_55 (fun z16 H17 q h => ?_) _ 0 0 H12 q h
  cases h
  exact q
theorem ch_X8_routineAt  {a1 : Int32} {H0 H : Hp} {res : Option Nat × Hp} (q : Ch (fun _ => true) [] H0 H) (h : f_X8_routineAt a1 H = some res) : Ch (fun _ => true) [] H0 res.2 := by
  unfold f_X8_routineAt at h
  replace h := it_c h
  rcases h with h | h
  · cases h
    exact q
  · replace h := it_c h
    rcases h with h | h
    · replace h := (gd_some h).2
      replace h := vl_c h
      obtain ⟨o3, h⟩ := h
      cases h
      exact q
    · cases h
      exact q
theorem ch_X8_isCount  {a1 : Int32} {H0 H : Hp} {res : Int32 × Hp} (q : Ch (fun _ => true) [] H0 H) (h : f_X8_isCount a1 H = some res) : Ch (fun _ => true) [] H0 res.2 := by
  unfold f_X8_isCount at h
  replace h := it_c h
  rcases h with h | h
  · cases h
    exact q
  · replace h := it_c h
    rcases h with h | h
    · cases h
      exact q
    · cases h
      exact q
theorem ch_X8_finishedAt {nr : Nat}  {a1 : Int32} {H0 H : Hp} {res : Option Nat × Hp} (q : Ch (fun _ => true) [] H0 H) (h : f_X8_finishedAt nr a1 H = some res) : Ch (fun _ => true) [] H0 res.2 := by
  unfold f_X8_finishedAt at h
  replace h := bnd_some h
  obtain ⟨w2, H1, hc, h⟩ := h
  replace q := Ch.tr (fun _ h => h) (by decide) q (ch_X8_routineAt (Ch.rf _) hc)
  replace h := nz_some h
  rcases h with ⟨rfl, h⟩ | ⟨r3, rfl, hr_r3, h⟩
  · cases h
    exact q
  · replace h := it_c h
    rcases h with h | h
    · cases h
      exact q
    · cases h
      exact q
theorem ch_X8_finishedWithEdge {nr : Nat}  {a1 : Int32} {a2 : Int32} {H0 H : Hp} {res : Option Nat × Hp} (q : Ch (fun _ => true) [] H0 H) (h : f_X8_finishedWithEdge nr a1 a2 H = some res) : Ch (fun _ => true) [] H0 res.2 := by
  unfold f_X8_finishedWithEdge at h
  replace h := bnd_some h
  obtain ⟨w2, H1, hc, h⟩ := h
  replace q := Ch.tr (fun _ h => h) (by decide) q (ch_X8_finishedAt (Ch.rf _) hc)
  replace h := nz_some h
  rcases h with ⟨rfl, h⟩ | ⟨r3, rfl, hr_r3, h⟩
  · cases h
    exact q
  · replace h := bnd_some h
    obtain ⟨w5, H4, hc, h⟩ := h
    replace q := Ch.tr (fun _ _ => rfl) (by decide) q (ch_X3_hasEdge (Ch.rf _) hc)
    replace h := it_c h
    rcases h with h | h
    · cases h
      exact q
    · cases h
      exact q
theorem ch_X8_block {nr : Nat}  {a1 : Int32} {a2 : Int32} {a3 : Int32} {H0 H : Hp} {res : Int32 × Hp} (q : Ch (fun _ => true) [(2, 1, some 10), (2, 8, none), (2, 9, none)] H0 H) (h : f_X8_block nr a1 a2 a3 H = some res) : Ch (fun _ => true) [(2, 1, some 10), (2, 8, none), (2, 9, none)] H0 res.2 := by
  unfold f_X8_block at h
  replace h := bnd_some h
  obtain ⟨w2, H1, hc, h⟩ := h
  replace q := Ch.tr (fun _ h => h) (by decide) q (ch_X8_routineAt (Ch.rf _) hc)
  replace h := nz_some h
  rcases h with ⟨rfl, h⟩ | ⟨r3, rfl, hr_r3, h⟩
  · cases h
    exact q
  · replace h := it_c h
    rcases h with h | h
    · replace h := it_c h
      rcases h with h | h
      · cases h
        exact q
      · replace h := it_c h
        rcases h with h | h
        · refine jn_c0 (P := Ch (fun _ => true) [(2, 1, some 10), (2, 8, none), (2, 9, none)] H0) h (fun H8 q h => ?_) (fun hj7 h => ?_)
          · replace h := it_c h
            rcases h with h | h
            · replace h := bnd_some h
              obtain ⟨w13, H12, hc, h⟩ := h
              replace q := Ch.tr (fun _ _ => rfl) (by decide) q (ch_X3_addBlock (Ch.rf _) hc)
              cases h
              exact q
            · replace h := bnd_some h
              obtain ⟨w11, H10, hc, h⟩ := h
              replace q := Ch.tr (fun _ _ => rfl) (by decide) q (ch_X3_addBlock (Ch.rf _) hc)
              cases h
              exact q
          · replace h := it_c h
            rcases h with h | h
            · replace h := it_c h
              rcases h with h | h
              · cases h
                exact q
              · replace h := it_c h
                rcases h with h | h
                · exact hj7 H1 q h
                · cases h
                  exact q
            · exact hj7 H1 q h
        · cases h
          exact q
    · cases h
      exact q
theorem ch_X8_edge {nr : Nat}  {a1 : Int32} {a2 : Int32} {a3 : Int32} {a4 : Int32} {a5 : Int32} {H0 H : Hp} {res : Int32 × Hp} (q : Ch (fun _ => true) [(2, 1, some 11), (2, 10, none), (2, 11, none), (2, 12, none), (2, 13, none), (2, 14, none), (2, 15, none), (2, 16, none)] H0 H) (h : f_X8_edge nr a1 a2 a3 a4 a5 H = some res) : Ch (fun _ => true) [(2, 1, some 11), (2, 10, none), (2, 11, none), (2, 12, none), (2, 13, none), (2, 14, none), (2, 15, none), (2, 16, none)] H0 res.2 := by
  unfold f_X8_edge at h
  replace h := bnd_some h
  obtain ⟨w2, H1, hc, h⟩ := h
  replace q := Ch.tr (fun _ h => h) (by decide) q (ch_X8_routineAt (Ch.rf _) hc)
  replace h := nz_some h
  rcases h with ⟨rfl, h⟩ | ⟨r3, rfl, hr_r3, h⟩
  · cases h
    exact q
  · replace h := it_c h
    rcases h with h | h
    · replace h := bnd_some h
      obtain ⟨w6, H5, hc, h⟩ := h
      replace q := Ch.tr (fun _ h => h) (by decide) q (ch_X8_isCount (Ch.rf _) hc)
      replace h := it_c h
      rcases h with h | h
      · cases h
        exact q
      · replace h := bnd_some h
        obtain ⟨w9, H8, hc, h⟩ := h
        replace q := Ch.tr (fun _ _ => rfl) (by decide) q (ch_X3_addEdge (Ch.rf _) hc)
        cases h
        exact q
    · cases h
      exact q
theorem ch_X8_guess {nr : Nat}  {a1 : Int32} {a2 : Int32} {a3 : Int32} {H0 H : Hp} {res : Int32 × Hp} (q : Ch (fun _ => true) [(2, 15, none)] H0 H) (h : f_X8_guess nr a1 a2 a3 H = some res) : Ch (fun _ => true) [(2, 15, none)] H0 res.2 := by
  unfold f_X8_guess at h
  replace h := bnd_some h
  obtain ⟨w2, H1, hc, h⟩ := h
  replace q := Ch.tr (fun _ h => h) (by decide) q (ch_X8_routineAt (Ch.rf _) hc)
  replace h := nz_some h
  rcases h with ⟨rfl, h⟩ | ⟨r3, rfl, hr_r3, h⟩
  · cases h
    exact q
  · replace h := bnd_some h
    obtain ⟨w5, H4, hc, h⟩ := h
    replace q := Ch.tr (fun _ _ => rfl) (by decide) q (ch_X3_hasEdge (Ch.rf _) hc)
    replace h := it_c h
    rcases h with h | h
    · cases h
      exact q
    · replace h := bnd_some h
      obtain ⟨w8, H7, hc, h⟩ := h
      replace q := Ch.tr (fun _ h => h) (by decide) q (ch_X8_isCount (Ch.rf _) hc)
      replace h := it_c h
      rcases h with h | h
      · cases h
        exact q
      · replace h := (gd_some h).2
        replace h := hl_c (P := Ch (fun _ => true) [(2, 15, none)] H0) (Ch.sI rfl rfl q) h
        clear q
        obtain ⟨H10, q, h⟩ := h
        cases h
        exact q
theorem ch_X8_finish {nr : Nat}  {a1 : Int32} {H0 H : Hp} {res : Int32 × Hp} (q : Ch (fun _ => true) [(2, 0, some 8), (2, 1, some 12), (2, 2, some 10), (2, 3, some 9), (2, 3, some 10), (2, 3, some 11), (2, 4, some 3), (2, 4, some 4), (2, 5, some 2), (2, 5, some 3), (2, 13, none), (2, 14, none), (2, 17, none), (2, 18, none), (2, 19, none), (2, 20, none), (2, 21, none), (2, 22, none), (2, 23, none), (2, 26, none), (2, 27, none), (2, 28, none), (2, 29, none), (2, 30, none), (2, 31, none), (2, 34, none), (2, 35, none), (2, 36, none)] H0 H) (h : f_X8_finish nr a1 H = some res) : Ch (fun _ => true) [(2, 0, some 8), (2, 1, some 12), (2, 2, some 10), (2, 3, some 9), (2, 3, some 10), (2, 3, some 11), (2, 4, some 3), (2, 4, some 4), (2, 5, some 2), (2, 5, some 3), (2, 13, none), (2, 14, none), (2, 17, none), (2, 18, none), (2, 19, none), (2, 20, none), (2, 21, none), (2, 22, none), (2, 23, none), (2, 26, none), (2, 27, none), (2, 28, none), (2, 29, none), (2, 30, none), (2, 31, none), (2, 34, none), (2, 35, none), (2, 36, none)] H0 res.2 := by
  unfold f_X8_finish at h
  replace h := bnd_some h
  obtain ⟨w2, H1, hc, h⟩ := h
  replace q := Ch.tr (fun _ h => h) (by decide) q (ch_X8_routineAt (Ch.rf _) hc)
  replace h := nz_some h
  rcases h with ⟨rfl, h⟩ | ⟨r3, rfl, hr_r3, h⟩
  · cases h
    exact q
  · replace h := bnd_some h
    obtain ⟨w5, H4, hc, h⟩ := h
    replace q := Ch.tr (fun _ _ => rfl) (by decide) q (ch_X2_settle (Ch.rf _) hc)
    cases h
    exact q
theorem ch_X8_plan {nr : Nat}  {a1 : Int32} {H0 H : Hp} {res : Int32 × Hp} (q : Ch (fun _ => true) [(2, 3, some 9), (2, 3, some 10), (2, 3, some 11), (2, 4, some 3), (2, 4, some 4), (2, 5, some 2), (2, 5, some 3), (2, 20, none), (2, 22, none), (2, 23, none), (2, 26, none), (2, 27, none), (2, 28, none), (2, 29, none), (2, 30, none), (2, 31, none), (2, 34, none), (2, 35, none), (2, 36, none)] H0 H) (h : f_X8_plan nr a1 H = some res) : Ch (fun _ => true) [(2, 3, some 9), (2, 3, some 10), (2, 3, some 11), (2, 4, some 3), (2, 4, some 4), (2, 5, some 2), (2, 5, some 3), (2, 20, none), (2, 22, none), (2, 23, none), (2, 26, none), (2, 27, none), (2, 28, none), (2, 29, none), (2, 30, none), (2, 31, none), (2, 34, none), (2, 35, none), (2, 36, none)] H0 res.2 := by
  unfold f_X8_plan at h
  replace h := bnd_some h
  obtain ⟨w2, H1, hc, h⟩ := h
  replace q := Ch.tr (fun _ h => h) (by decide) q (ch_X8_finishedAt (Ch.rf _) hc)
  replace h := nz_some h
  rcases h with ⟨rfl, h⟩ | ⟨r3, rfl, hr_r3, h⟩
  · cases h
    exact q
  · replace h := bnd_some h
    obtain ⟨w5, H4, hc, h⟩ := h
    replace q := Ch.tr (fun _ h => h) (by decide) q (ch_X6_hasFrameOf (Ch.rf _) hc)
    replace h := it_c h
    rcases h with h | h
    · replace h := bnd_some h
      obtain ⟨w8, H7, hc, h⟩ := h
      replace q := Ch.tr (fun _ _ => rfl) (by decide) q (ch_X2_planAnew (Ch.rf _) hc)
      cases h
      exact q
    · cases h
      exact q
theorem ch_X8_solve {nr : Nat}  {a1 : Int32} {a2 : Int32} {H0 H : Hp} {res : Int64 × Hp} (q : Ch (fun _ => true) [(2, 7, none), (2, 32, none), (2, 33, none)] H0 H) (h : f_X8_solve nr a1 a2 H = some res) : Ch (fun _ => true) [(2, 7, none), (2, 32, none), (2, 33, none)] H0 res.2 := by
  unfold f_X8_solve at h
  replace h := bnd_some h
  obtain ⟨w2, H1, hc, h⟩ := h
  replace q := Ch.tr (fun _ h => h) (by decide) q (ch_X8_finishedWithEdge (Ch.rf _) hc)
  replace h := nz_some h
  rcases h with ⟨rfl, h⟩ | ⟨r3, rfl, hr_r3, h⟩
  · cases h
    exact q
  · replace h := bnd_some h
    obtain ⟨w5, H4, hc, h⟩ := h
    replace q := Ch.tr (fun _ _ => rfl) (by decide) q (ch_X2_rebuiltCount (Ch.rf _) hc)
    cases h
    exact q
theorem ch_X8_ring {nr : Nat}  {a1 : Int32} {a2 : Int32} {a3 : Int32} {H0 H : Hp} {res : Int32 × Hp} (q : Ch (fun _ => true) [] H0 H) (h : f_X8_ring nr a1 a2 a3 H = some res) : Ch (fun _ => true) [] H0 res.2 := by
  unfold f_X8_ring at h
  replace h := bnd_some h
  obtain ⟨w2, H1, hc, h⟩ := h
  replace q := Ch.tr (fun _ h => h) (by decide) q (ch_X8_finishedWithEdge (Ch.rf _) hc)
  replace h := nz_some h
  rcases h with ⟨rfl, h⟩ | ⟨r3, rfl, hr_r3, h⟩
  · cases h
    exact q
  · replace h := bnd_some h
    obtain ⟨w5, H4, hc, h⟩ := h
    replace q := Ch.tr (fun _ _ => rfl) (by decide) q (ch_X2_hasCounter (Ch.rf _) hc)
    replace h := it_c h
    rcases h with h | h
    · cases h
      exact q
    · replace h := bnd_some h
      obtain ⟨w8, H7, hc, h⟩ := h
      replace q := Ch.tr (fun _ _ => rfl) (by decide) q (ch_X5_placeInRing (Ch.rf _) hc)
      cases h
      exact q
theorem ch_X8_begin {nr : Nat}  {a1 : Int32} {H0 H : Hp} {res : Int32 × Hp} (q : Ch (fun _ => true) [(1, 2, some 3), (1, 2, some 4), (1, 2, some 5), (1, 2, some 6), (1, 4, none), (1, 5, none), (1, 6, none), (2, 4, some 3), (2, 4, some 4), (2, 36, none)] H0 H) (h : f_X8_begin nr a1 H = some res) : Ch (fun _ => true) [(1, 2, some 3), (1, 2, some 4), (1, 2, some 5), (1, 2, some 6), (1, 4, none), (1, 5, none), (1, 6, none), (2, 4, some 3), (2, 4, some 4), (2, 36, none)] H0 res.2 := by
  unfold f_X8_begin at h
  replace h := bnd_some h
  obtain ⟨w2, H1, hc, h⟩ := h
  replace q := Ch.tr (fun _ h => h) (by decide) q (ch_X8_finishedAt (Ch.rf _) hc)
  replace h := nz_some h
  rcases h with ⟨rfl, h⟩ | ⟨r3, rfl, hr_r3, h⟩
  · cases h
    exact q
  · replace h := bnd_some h
    obtain ⟨w5, H4, hc, h⟩ := h
    replace q := Ch.tr (fun _ h => h) (by decide) q (ch_X6_startIn (Ch.rf _) hc)
    cases h
    exact q
theorem ch_X8_go {nr : Nat}  {a1 : Int32} {a2 : Int32} {H0 H : Hp} {res : Int32 × Hp} (q : Ch (fun _ => true) [(1, 2, some 3), (1, 2, some 4), (1, 2, some 5), (1, 2, some 6), (1, 2, some 7), (1, 2, some 8), (1, 4, none), (1, 5, none), (1, 6, none), (2, 4, some 3), (2, 4, some 4), (2, 5, some 2), (2, 5, some 3), (2, 34, none), (2, 35, none), (2, 36, none), (2, 37, none), (2, 38, none)] H0 H) (h : f_X8_go nr a1 a2 H = some res) : Ch (fun _ => true) [(1, 2, some 3), (1, 2, some 4), (1, 2, some 5), (1, 2, some 6), (1, 2, some 7), (1, 2, some 8), (1, 4, none), (1, 5, none), (1, 6, none), (2, 4, some 3), (2, 4, some 4), (2, 5, some 2), (2, 5, some 3), (2, 34, none), (2, 35, none), (2, 36, none), (2, 37, none), (2, 38, none)] H0 res.2 := by
  unfold f_X8_go at h
  replace h := it_c h
  rcases h with h | h
  · cases h
    exact q
  · replace h := it_c h
    rcases h with h | h
    · cases h
      exact q
    · replace h := it_c h
      rcases h with h | h
      · replace h := bnd_some h
        obtain ⟨w5, H4, hc, h⟩ := h
        replace q := Ch.tr (fun _ h => h) (by decide) q (ch_X6_stepOn (Ch.rf _) hc)
        cases h
        exact q
      · cases h
        exact q
theorem ch_X8_run {nr : Nat}  {a1 : Int32} {H0 H : Hp} {res : Int32 × Hp} (q : Ch (fun _ => true) [] H0 H) (h : f_X8_run nr a1 H = some res) : Ch (fun _ => true) [] H0 res.2 := by
  unfold f_X8_run at h
  replace h := bnd_some h
  obtain ⟨w2, H1, hc, h⟩ := h
  replace q := Ch.tr (fun _ h => h) (by decide) q (ch_X6_ofRun (Ch.rf _) hc)
  cases h
  exact q
theorem ch_X8_way {nr : Nat}  {a1 : Int32} {a2 : Int64} {a3 : Int32} {H0 H : Hp} {res : Int32 × Hp} (q : Ch (fun _ => true) [(2, 2, some 9), (2, 24, none), (2, 25, none)] H0 H) (h : f_X8_way nr a1 a2 a3 H = some res) : Ch (fun _ => true) [(2, 2, some 9), (2, 24, none), (2, 25, none)] H0 res.2 := by
  unfold f_X8_way at h
  replace h := bnd_some h
  obtain ⟨w2, H1, hc, h⟩ := h
  replace q := Ch.tr (fun _ h => h) (by decide) q (ch_X8_finishedAt (Ch.rf _) hc)
  replace h := nz_some h
  rcases h with ⟨rfl, h⟩ | ⟨r3, rfl, hr_r3, h⟩
  · cases h
    exact q
  · replace h := bnd_some h
    obtain ⟨w5, H4, hc, h⟩ := h
    replace q := Ch.tr (fun _ _ => rfl) (by decide) q (ch_X7_unfold (Ch.rf _) hc)
    replace h := it_c h
    rcases h with h | h
    · cases h
      exact q
    · replace h := bnd_some h
      obtain ⟨w8, H7, hc, h⟩ := h
      replace q := Ch.tr (fun _ _ => rfl) (by decide) q (ch_X7_unfoldedBlock (Ch.rf _) hc)
      cases h
      exact q
theorem ch_X8_along {nr : Nat}  {a1 : Int32} {a2 : Int64} {a3 : Int32} {H0 H : Hp} {res : Int32 × Hp} (q : Ch (fun _ => true) [(2, 2, some 9), (2, 24, none), (2, 25, none)] H0 H) (h : f_X8_along nr a1 a2 a3 H = some res) : Ch (fun _ => true) [(2, 2, some 9), (2, 24, none), (2, 25, none)] H0 res.2 := by
  unfold f_X8_along at h
  replace h := bnd_some h
  obtain ⟨w2, H1, hc, h⟩ := h
  replace q := Ch.tr (fun _ h => h) (by decide) q (ch_X8_finishedAt (Ch.rf _) hc)
  replace h := nz_some h
  rcases h with ⟨rfl, h⟩ | ⟨r3, rfl, hr_r3, h⟩
  · cases h
    exact q
  · replace h := bnd_some h
    obtain ⟨w5, H4, hc, h⟩ := h
    replace q := Ch.tr (fun _ _ => rfl) (by decide) q (ch_X7_unfold (Ch.rf _) hc)
    replace h := it_c h
    rcases h with h | h
    · cases h
      exact q
    · replace h := bnd_some h
      obtain ⟨w8, H7, hc, h⟩ := h
      replace q := Ch.tr (fun _ _ => rfl) (by decide) q (ch_X7_unfoldedEdge (Ch.rf _) hc)
      cases h
      exact q
theorem ch_X8_table {nr : Nat}  {a1 : Int32} {a2 : Int32} {a3 : Int32} {H0 H : Hp} {res : Int64 × Hp} (q : Ch (fun _ => true) [] H0 H) (h : f_X8_table nr a1 a2 a3 H = some res) : Ch (fun _ => true) [] H0 res.2 := by
  unfold f_X8_table at h
  replace h := bnd_some h
  obtain ⟨w2, H1, hc, h⟩ := h
  replace q := Ch.tr (fun _ h => h) (by decide) q (ch_X8_finishedAt (Ch.rf _) hc)
  replace h := nz_some h
  rcases h with ⟨rfl, h⟩ | ⟨r3, rfl, hr_r3, h⟩
  · cases h
    exact q
  · replace h := bnd_some h
    obtain ⟨w5, H4, hc, h⟩ := h
    replace q := Ch.tr (fun _ _ => rfl) (by decide) q (ch_X4_inRow (Ch.rf _) hc)
    cases h
    exact q
theorem ch_X8_told {nr : Nat}  {a1 : Int32} {a2 : Int32} {H0 H : Hp} {res : Int64 × Hp} (q : Ch (fun _ => true) [(2, 2, some 9), (2, 24, none), (2, 25, none)] H0 H) (h : f_X8_told nr a1 a2 H = some res) : Ch (fun _ => true) [(2, 2, some 9), (2, 24, none), (2, 25, none)] H0 res.2 := by
  unfold f_X8_told at h
  replace h := bnd_some h
  obtain ⟨w2, H1, hc, h⟩ := h
  replace q := Ch.tr (fun _ h => h) (by decide) q (ch_X8_finishedWithEdge (Ch.rf _) hc)
  replace h := nz_some h
  rcases h with ⟨rfl, h⟩ | ⟨r3, rfl, hr_r3, h⟩
  · cases h
    exact q
  · replace h := bnd_some h
    obtain ⟨w5, H4, hc, h⟩ := h
    replace q := Ch.tr (fun _ _ => rfl) (by decide) q (ch_X2_toldCount (Ch.rf _) hc)
    cases h
    exact q
theorem ch_X8_blur {nr : Nat}  {a1 : Int32} {a2 : Int32} {a3 : Int32} {H0 H : Hp} {res : Int32 × Hp} (q : Ch (fun _ => true) [(2, 6, none)] H0 H) (h : f_X8_blur nr a1 a2 a3 H = some res) : Ch (fun _ => true) [(2, 6, none)] H0 res.2 := by
  unfold f_X8_blur at h
  replace h := bnd_some h
  obtain ⟨w2, H1, hc, h⟩ := h
  replace q := Ch.tr (fun _ h => h) (by decide) q (ch_X8_routineAt (Ch.rf _) hc)
  replace h := nz_some h
  rcases h with ⟨rfl, h⟩ | ⟨r3, rfl, hr_r3, h⟩
  · cases h
    exact q
  · replace h := bnd_some h
    obtain ⟨w5, H4, hc, h⟩ := h
    replace q := Ch.tr (fun _ _ => rfl) (by decide) q (ch_X3_hasEdge (Ch.rf _) hc)
    replace h := it_c h
    rcases h with h | h
    · cases h
      exact q
    · replace h := bnd_some h
      obtain ⟨w8, H7, hc, h⟩ := h
      replace q := Ch.tr (fun _ h => h) (by decide) q (ch_X8_isCount (Ch.rf _) hc)
      replace h := it_c h
      rcases h with h | h
      · cases h
        exact q
      · replace h := (gd_some h).2
        replace h := hl_c (P := Ch (fun _ => true) [(2, 6, none)] H0) (Ch.sI rfl rfl q) h
        clear q
        obtain ⟨H10, q, h⟩ := h
        cases h
        exact q
theorem ch_X8_mend {nr : Nat}  {a1 : Int32} {H0 H : Hp} {res : Int64 × Hp} (q : Ch (fun _ => true) [(1, 7, none), (1, 8, none), (1, 9, none), (1, 10, none)] H0 H) (h : f_X8_mend nr a1 H = some res) : Ch (fun _ => true) [(1, 7, none), (1, 8, none), (1, 9, none), (1, 10, none)] H0 res.2 := by
  unfold f_X8_mend at h
  replace h := bnd_some h
  obtain ⟨w2, H1, hc, h⟩ := h
  replace q := Ch.tr (fun _ h => h) (by decide) q (ch_X8_finishedAt (Ch.rf _) hc)
  replace h := nz_some h
  rcases h with ⟨rfl, h⟩ | ⟨r3, rfl, hr_r3, h⟩
  · cases h
    exact q
  · replace h := bnd_some h
    obtain ⟨w5, H4, hc, h⟩ := h
    replace q := Ch.tr (fun _ _ => rfl) (by decide) q (ch_X1_leastChange (Ch.rf _) hc)
    cases h
    exact q
theorem ch_X8_look {nr : Nat}  {a1 : Int32} {a2 : Int32} {H0 H : Hp} {res : Int64 × Hp} (q : Ch (fun _ => true) [] H0 H) (h : f_X8_look nr a1 a2 H = some res) : Ch (fun _ => true) [] H0 res.2 := by
  unfold f_X8_look at h
  replace h := bnd_some h
  obtain ⟨w2, H1, hc, h⟩ := h
  replace q := Ch.tr (fun _ h => h) (by decide) q (ch_X8_routineAt (Ch.rf _) hc)
  replace h := nz_some h
  rcases h with ⟨rfl, h⟩ | ⟨r3, rfl, hr_r3, h⟩
  · cases h
  · replace h := it_c h
    rcases h with h | h
    · cases h
    · replace h := it_c h
      rcases h with h | h
      · replace h := bnd_some h
        obtain ⟨w7, H6, hc, h⟩ := h
        replace q := Ch.tr (fun _ _ => rfl) (by decide) q (ch_X2_ofItself (Ch.rf _) hc)
        cases h
        exact q
      · cases h
theorem ch_X8_ofEdge {nr : Nat}  {a1 : Int32} {a2 : Int32} {a3 : Int32} {H0 H : Hp} {res : Int64 × Hp} (q : Ch (fun _ => true) [] H0 H) (h : f_X8_ofEdge nr a1 a2 a3 H = some res) : Ch (fun _ => true) [] H0 res.2 := by
  unfold f_X8_ofEdge at h
  replace h := bnd_some h
  obtain ⟨w2, H1, hc, h⟩ := h
  replace q := Ch.tr (fun _ h => h) (by decide) q (ch_X8_routineAt (Ch.rf _) hc)
  replace h := nz_some h
  rcases h with ⟨rfl, h⟩ | ⟨r3, rfl, hr_r3, h⟩
  · cases h
  · replace h := bnd_some h
    obtain ⟨w5, H4, hc, h⟩ := h
    replace q := Ch.tr (fun _ _ => rfl) (by decide) q (ch_X3_hasEdge (Ch.rf _) hc)
    replace h := it_c h
    rcases h with h | h
    · cases h
    · replace h := it_c h
      rcases h with h | h
      · cases h
      · replace h := it_c h
        rcases h with h | h
        · replace h := it_c h
          rcases h with h | h
          · replace h := bnd_some h
            obtain ⟨w11, H10, hc, h⟩ := h
            replace q := Ch.tr (fun _ _ => rfl) (by decide) q (ch_X2_countOfEdge (Ch.rf _) hc)
            cases h
            exact q
          · replace h := bnd_some h
            obtain ⟨w13, H12, hc, h⟩ := h
            replace q := Ch.tr (fun _ _ => rfl) (by decide) q (ch_X3_shapeOfEdge (Ch.rf _) hc)
            cases h
            exact q
        · cases h
theorem ch_X8_ofBlock {nr : Nat}  {a1 : Int32} {a2 : Int32} {a3 : Int32} {H0 H : Hp} {res : Int64 × Hp} (q : Ch (fun _ => true) [] H0 H) (h : f_X8_ofBlock nr a1 a2 a3 H = some res) : Ch (fun _ => true) [] H0 res.2 := by
  unfold f_X8_ofBlock at h
  replace h := bnd_some h
  obtain ⟨w2, H1, hc, h⟩ := h
  replace q := Ch.tr (fun _ h => h) (by decide) q (ch_X8_routineAt (Ch.rf _) hc)
  replace h := nz_some h
  rcases h with ⟨rfl, h⟩ | ⟨r3, rfl, hr_r3, h⟩
  · cases h
  · replace h := bnd_some h
    obtain ⟨w5, H4, hc, h⟩ := h
    replace q := Ch.tr (fun _ _ => rfl) (by decide) q (ch_X3_hasBlock (Ch.rf _) hc)
    replace h := it_c h
    rcases h with h | h
    · cases h
    · replace h := it_c h
      rcases h with h | h
      · cases h
      · replace h := it_c h
        rcases h with h | h
        · replace h := it_c h
          rcases h with h | h
          · replace h := bnd_some h
            obtain ⟨w16, H15, hc, h⟩ := h
            replace q := Ch.tr (fun _ h => h) (by decide) q (ch_X6_openAt (Ch.rf _) hc)
            cases h
            exact q
          · replace h := it_c h
            rcases h with h | h
            · replace h := bnd_some h
              obtain ⟨w12, H11, hc, h⟩ := h
              replace q := Ch.tr (fun _ _ => rfl) (by decide) q (ch_X2_countOfBlock (Ch.rf _) hc)
              cases h
              exact q
            · replace h := bnd_some h
              obtain ⟨w14, H13, hc, h⟩ := h
              replace q := Ch.tr (fun _ _ => rfl) (by decide) q (ch_X3_shapeOfBlock (Ch.rf _) hc)
              cases h
              exact q
        · cases h
