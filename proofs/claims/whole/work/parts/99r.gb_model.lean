/-- references are to routines that are there -/
def GB (nr : Nat) (H : Hp) : Prop := ∀ g k i r, gR H g k i = some r → r < nr
theorem GB.sI {nr : Nat} {H : Hp} {g k i : Nat} {v : Int32} (q : GB nr H) : GB nr (sI H g k i v) := q
theorem GB.sJ {nr : Nat} {H : Hp} {g k i : Nat} {v : Int64} (q : GB nr H) : GB nr (sJ H g k i v) := q
theorem GB.sR {nr : Nat} {H : Hp} {g k i r : Nat} (hr : r < nr) (q : GB nr H) : GB nr (sR H g k i (some r)) := by
  intro a b j r' h
  have hh : (if a = g ∧ b = k ∧ j = i then some r else gR H a b j) = some r' := h
  by_cases c : a = g ∧ b = k ∧ j = i
  · rw [if_pos c] at hh
    cases hh
    exact hr
  · rw [if_neg c] at hh
    exact q a b j r' hh
theorem gb_X9_thrown {nr : Nat}  {H : Hp} {res : Int32 × Hp} (q : GB nr H) (h : f_X9_thrown H = some res) : GB nr res.2 := by
  unfold f_X9_thrown at h
  cases h
  exact q
theorem gb_X9_isRoutine {nr : Nat}  {a1 : Int32} {H : Hp} {res : Int32 × Hp} (q : GB nr H) (h : f_X9_isRoutine a1 H = some res) : GB nr res.2 := by
  unfold f_X9_isRoutine at h
  replace h := it_c h
  rcases h with h | h
  · cases h
    exact q
  · replace h := it_c h
    rcases h with h | h
    · cases h
      exact q
    · cases h
      exact q
theorem gb_X9_isDone {nr : Nat}  {a1 : Int32} {H : Hp} {res : Int32 × Hp} (q : GB nr H) (h : f_X9_isDone a1 H = some res) : GB nr res.2 := by
  unfold f_X9_isDone at h
  replace h := bnd_some h
  obtain ⟨w2, H1, hc, h⟩ := h
  replace q := gb_X9_isRoutine q hc
  replace h := it_c h
  rcases h with h | h
  · cases h
    exact q
  · replace h := (gd_some h).2
    replace h := it_c h
    rcases h with h | h
    · cases h
      exact q
    · cases h
      exact q
theorem gb_X9_isEdge {nr : Nat}  {a1 : Int32} {a2 : Int32} {H : Hp} {res : Int32 × Hp} (q : GB nr H) (h : f_X9_isEdge a1 a2 H = some res) : GB nr res.2 := by
  unfold f_X9_isEdge at h
  replace h := bnd_some h
  obtain ⟨w2, H1, hc, h⟩ := h
  replace q := gb_X9_isRoutine q hc
  replace h := it_c h
  rcases h with h | h
  · cases h
    exact q
  · replace h := it_c h
    rcases h with h | h
    · cases h
      exact q
    · replace h := (gd_some h).2
      replace h := it_c h
      rcases h with h | h
      · cases h
        exact q
      · cases h
        exact q
theorem gb_X9_isBlock {nr : Nat}  {a1 : Int32} {a2 : Int32} {H : Hp} {res : Int32 × Hp} (q : GB nr H) (h : f_X9_isBlock a1 a2 H = some res) : GB nr res.2 := by
  unfold f_X9_isBlock at h
  replace h := bnd_some h
  obtain ⟨w2, H1, hc, h⟩ := h
  replace q := gb_X9_isRoutine q hc
  replace h := it_c h
  rcases h with h | h
  · cases h
    exact q
  · replace h := it_c h
    rcases h with h | h
    · cases h
      exact q
    · replace h := (gd_some h).2
      replace h := it_c h
      rcases h with h | h
      · cases h
        exact q
      · cases h
        exact q
theorem gb_X9_block {nr : Nat}  {a1 : Int32} {a2 : Int32} {a3 : Int32} {H : Hp} {res : Int32 × Hp} (q : GB nr H) (h : f_X9_block a1 a2 a3 H = some res) : GB nr res.2 := by
  unfold f_X9_block at h
  replace h := hl_c (P := GB nr) (GB.sI q) h
  clear q
  obtain ⟨H1, q, h⟩ := h
  replace h := bnd_some h
  obtain ⟨w3, H2, hc, h⟩ := h
  replace q := gb_X9_isRoutine q hc
  replace h := it_c h
  rcases h with h | h
  · cases h
    exact q
  · replace h := (gd_some h).2
    replace h := it_c h
    rcases h with h | h
    · replace h := (gd_some h).2
      replace h := it_c h
      rcases h with h | h
      · cases h
        exact q
      · replace h := it_c h
        rcases h with h | h
        · cases h
          exact q
        · replace h := it_c h
          rcases h with h | h
          · cases h
            exact q
          · refine jn_c0 (P := GB nr) h (fun H10 q h => ?_) (fun hj9 h => ?_)
            · replace h := (gd_some h).2
              replace h := (gd_some h).2
              replace h := hl_c (P := GB nr) (GB.sI q) h
              clear q
              obtain ⟨H11, q, h⟩ := h
              replace h := (gd_some h).2
              refine jn_c1 (P := GB nr) h (fun y13 H14 q h => ?_) (fun hj12 h => ?_)
              · replace h := (gd_some h).2
                replace h := hl_c (P := GB nr) (GB.sI q) h
                clear q
                obtain ⟨H15, q, h⟩ := h
                replace h := (gd_some h).2
                replace h := (gd_some h).2
                replace h := hl_c (P := GB nr) (GB.sI q) h
                clear q
                obtain ⟨H16, q, h⟩ := h
                replace h := (gd_some h).2
                cases h
                exact q
              · replace h := it_c h
                rcases h with h | h
                · exact hj12 a3 H11 q h
                · exact hj12 (-1) H11 q h
            · replace h := it_c h
              rcases h with h | h
              · replace h := it_c h
                rcases h with h | h
                · cases h
                  exact q
                · replace h := it_c h
                  rcases h with h | h
                  · exact hj9 H2 q h
                  · cases h
                    exact q
              · exact hj9 H2 q h
    · cases h
      exact q
theorem gbL_X9_outs_8 {nr : Nat}  {b1 : Int32} {b2 : Int32} {k : Int32 → Hp → Option (Int32 × Hp)} {res : Int32 × Hp} (hk : ∀ (z3 : Int32) (H : Hp), GB nr H → k z3 H = some res → GB nr res.2) : ∀ (n : Nat) (x3 : Int32) (x4 : Int32) (H : Hp), GB nr H → L_X9_outs_8 b1 b2 k n x3 x4 H = some res → GB nr res.2 := by
  intro n
  induction n with
  | zero => intro x3 x4 H q h; exact nomatch (show (none : Option (Int32 × Hp)) = some res from h)
  | succ n ih =>
    intro x3 x4 H q h
    rw [L_X9_outs_8] at h
    replace h := (gd_some h).2
    replace h := it_c h
    rcases h with h | h
    · exact hk x3 H q h
    · replace h := (gd_some h).2
      replace h := it_c h
      rcases h with h | h
      · replace h := vl_c h
        obtain ⟨v6, h⟩ := h
        replace h := vl_c h
        obtain ⟨v7, h⟩ := h
        exact ih v6 v7 H q h
      · replace h := vl_c h
        obtain ⟨v4, h⟩ := h
        replace h := vl_c h
        obtain ⟨v5, h⟩ := h
        exact ih v4 v5 H q h
theorem gb_X9_outs {nr : Nat}  {a1 : Int32} {a2 : Int32} {H : Hp} {res : Int32 × Hp} (q : GB nr H) (h : f_X9_outs a1 a2 H = some res) : GB nr res.2 := by
  unfold f_X9_outs at h
  replace h := vl_c h
  obtain ⟨v1, h⟩ := h
  refine gbL_X9_outs_8 (fun z8 H9 q h => ?_) _ 0 v1 H q h
  cases h
  exact q
theorem gbL_X9_ins_8 {nr : Nat}  {b1 : Int32} {b2 : Int32} {k : Int32 → Hp → Option (Int32 × Hp)} {res : Int32 × Hp} (hk : ∀ (z3 : Int32) (H : Hp), GB nr H → k z3 H = some res → GB nr res.2) : ∀ (n : Nat) (x3 : Int32) (x4 : Int32) (H : Hp), GB nr H → L_X9_ins_8 b1 b2 k n x3 x4 H = some res → GB nr res.2 := by
  intro n
  induction n with
  | zero => intro x3 x4 H q h; exact nomatch (show (none : Option (Int32 × Hp)) = some res from h)
  | succ n ih =>
    intro x3 x4 H q h
    rw [L_X9_ins_8] at h
    replace h := (gd_some h).2
    replace h := it_c h
    rcases h with h | h
    · exact hk x3 H q h
    · replace h := (gd_some h).2
      replace h := it_c h
      rcases h with h | h
      · replace h := vl_c h
        obtain ⟨v6, h⟩ := h
        replace h := vl_c h
        obtain ⟨v7, h⟩ := h
        exact ih v6 v7 H q h
      · replace h := vl_c h
        obtain ⟨v4, h⟩ := h
        replace h := vl_c h
        obtain ⟨v5, h⟩ := h
        exact ih v4 v5 H q h
theorem gb_X9_ins {nr : Nat}  {a1 : Int32} {a2 : Int32} {H : Hp} {res : Int32 × Hp} (q : GB nr H) (h : f_X9_ins a1 a2 H = some res) : GB nr res.2 := by
  unfold f_X9_ins at h
  replace h := vl_c h
  obtain ⟨v1, h⟩ := h
  refine gbL_X9_ins_8 (fun z8 H9 q h => ?_) _ 0 v1 H q h
  cases h
  exact q
theorem gb_X9_isGuess {nr : Nat}  {a1 : Int32} {H : Hp} {res : Int32 × Hp} (q : GB nr H) (h : f_X9_isGuess a1 H = some res) : GB nr res.2 := by
  unfold f_X9_isGuess at h
  replace h := it_c h
  rcases h with h | h
  · cases h
    exact q
  · replace h := it_c h
    rcases h with h | h
    · cases h
      exact q
    · cases h
      exact q
theorem gb_X9_edge {nr : Nat}  {a1 : Int32} {a2 : Int32} {a3 : Int32} {a4 : Int32} {a5 : Int32} {H : Hp} {res : Int32 × Hp} (q : GB nr H) (h : f_X9_edge a1 a2 a3 a4 a5 H = some res) : GB nr res.2 := by
  unfold f_X9_edge at h
  replace h := hl_c (P := GB nr) (GB.sI q) h
  clear q
  obtain ⟨H1, q, h⟩ := h
  replace h := bnd_some h
  obtain ⟨w3, H2, hc, h⟩ := h
  replace q := gb_X9_isRoutine q hc
  replace h := it_c h
  rcases h with h | h
  · cases h
    exact q
  · replace h := (gd_some h).2
    replace h := it_c h
    rcases h with h | h
    · replace h := (gd_some h).2
      replace h := it_c h
      rcases h with h | h
      · cases h
        exact q
      · replace h := bnd_some h
        obtain ⟨w8, H7, hc, h⟩ := h
        replace q := gb_X9_isBlock q hc
        replace h := it_c h
        rcases h with h | h
        · cases h
          exact q
        · replace h := bnd_some h
          obtain ⟨w11, H10, hc, h⟩ := h
          replace q := gb_X9_isBlock q hc
          replace h := it_c h
          rcases h with h | h
          · cases h
            exact q
          · replace h := bnd_some h
            obtain ⟨w14, H13, hc, h⟩ := h
            replace q := gb_X9_isGuess q hc
            replace h := it_c h
            rcases h with h | h
            · cases h
              exact q
            · replace h := (gd_some h).2
              replace h := vl_c h
              obtain ⟨v16, h⟩ := h
              replace h := it_c h
              rcases h with h | h
              · cases h
                exact q
              · replace h := it_c h
                rcases h with h | h
                · cases h
                  exact q
                · replace h := bnd_some h
                  obtain ⟨w20, H19, hc, h⟩ := h
                  replace q := gb_X9_outs q hc
                  replace h := it_c h
                  rcases h with h | h
                  · cases h
                    exact q
                  · replace h := (gd_some h).2
                    replace h := vl_c h
                    obtain ⟨v22, h⟩ := h
                    replace h := (gd_some h).2
                    replace h := hl_c (P := GB nr) (GB.sI q) h
                    clear q
                    obtain ⟨H23, q, h⟩ := h
                    replace h := (gd_some h).2
                    replace h := hl_c (P := GB nr) (GB.sI q) h
                    clear q
                    obtain ⟨H24, q, h⟩ := h
                    replace h := (gd_some h).2
                    replace h := hl_c (P := GB nr) (GB.sI q) h
                    clear q
                    obtain ⟨H25, q, h⟩ := h
                    replace h := (gd_some h).2
                    replace h := hl_c (P := GB nr) (GB.sI q) h
                    clear q
                    obtain ⟨H26, q, h⟩ := h
                    replace h := (gd_some h).2
                    replace h := hl_c (P := GB nr) (GB.sI q) h
                    clear q
                    obtain ⟨H27, q, h⟩ := h
                    replace h := (gd_some h).2
                    replace h := (gd_some h).2
                    replace h := hl_c (P := GB nr) (GB.sI q) h
                    clear q
                    obtain ⟨H28, q, h⟩ := h
                    replace h := (gd_some h).2
                    cases h
                    exact q
    · cases h
      exact q
theorem gb_X9_guess {nr : Nat}  {a1 : Int32} {a2 : Int32} {a3 : Int32} {H : Hp} {res : Int32 × Hp} (q : GB nr H) (h : f_X9_guess a1 a2 a3 H = some res) : GB nr res.2 := by
  unfold f_X9_guess at h
  replace h := hl_c (P := GB nr) (GB.sI q) h
  clear q
  obtain ⟨H1, q, h⟩ := h
  replace h := bnd_some h
  obtain ⟨w3, H2, hc, h⟩ := h
  replace q := gb_X9_isEdge q hc
  replace h := it_c h
  rcases h with h | h
  · cases h
    exact q
  · replace h := bnd_some h
    obtain ⟨w6, H5, hc, h⟩ := h
    replace q := gb_X9_isGuess q hc
    replace h := it_c h
    rcases h with h | h
    · cases h
      exact q
    · replace h := (gd_some h).2
      replace h := hl_c (P := GB nr) (GB.sI q) h
      clear q
      obtain ⟨H8, q, h⟩ := h
      cases h
      exact q
theorem gbL_X9_reach_14 {nr : Nat}  {b1 : Int32} {b2 : Int32} {k : Int32 → Hp → Option (Unit × Hp)} {res : Unit × Hp} (hk : ∀ (z3 : Int32) (H : Hp), GB nr H → k z3 H = some res → GB nr res.2) : ∀ (n : Nat) (x3 : Int32) (x4 : Int32) (H : Hp), GB nr H → L_X9_reach_14 b1 b2 k n x3 x4 H = some res → GB nr res.2 := by
  intro n
  induction n with
  | zero => intro x3 x4 H q h; exact nomatch (show (none : Option (Unit × Hp)) = some res from h)
  | succ n ih =>
    intro x3 x4 H q h
    rw [L_X9_reach_14] at h
    replace h := (gd_some h).2
    replace h := it_c h
    rcases h with h | h
    · exact hk x3 H q h
    · refine jn_c1 (P := GB nr) h (fun y5 H6 q h => ?_) (fun hj4 h => ?_)
      · refine jn_c1 (P := GB nr) h (fun y8 H9 q h => ?_) (fun hj7 h => ?_)
        · replace h := (gd_some h).2
          replace h := it_c h
          rcases h with h | h
          · replace h := vl_c h
            obtain ⟨v11, h⟩ := h
            exact ih x3 v11 H9 q h
          · replace h := (gd_some h).2
            replace h := it_c h
            rcases h with h | h
            · replace h := (gd_some h).2
              replace h := hl_c (P := GB nr) (GB.sI q) h
              clear q
              obtain ⟨H14, q, h⟩ := h
              replace h := vl_c h
              obtain ⟨v15, h⟩ := h
              exact ih 1 v15 H14 q h
            · replace h := vl_c h
              obtain ⟨v13, h⟩ := h
              exact ih x3 v13 H9 q h
        · replace h := it_c h
          rcases h with h | h
          · replace h := (gd_some h).2
            exact hj7 ((gI H6 0 6 (Int32.toNatClampNeg x4))) H6 q h
          · replace h := (gd_some h).2
            exact hj7 ((gI H6 0 7 (Int32.toNatClampNeg x4))) H6 q h
      · replace h := it_c h
        rcases h with h | h
        · replace h := (gd_some h).2
          exact hj4 ((gI H 0 7 (Int32.toNatClampNeg x4))) H q h
        · replace h := (gd_some h).2
          exact hj4 ((gI H 0 6 (Int32.toNatClampNeg x4))) H q h
theorem gbL_X9_reach_2 {nr : Nat}  {b1 : Int32} {b2 : Int32} {k : Hp → Option (Unit × Hp)} {res : Unit × Hp} (hk : ∀ (H : Hp), GB nr H → k H = some res → GB nr res.2) : ∀ (n : Nat) (x3 : Int32) (H : Hp), GB nr H → L_X9_reach_2 b1 b2 k n x3 H = some res → GB nr res.2 := by
  intro n
  induction n with
  | zero => intro x3 H q h; exact nomatch (show (none : Option (Unit × Hp)) = some res from h)
  | succ n ih =>
    intro x3 H q h
    rw [L_X9_reach_2] at h
    replace h := it_c h
    rcases h with h | h
    · exact hk H q h
    · replace h := vl_c h
      obtain ⟨v2, h⟩ := h
      refine gbL_X9_reach_14 (fun z18 H19 q h => ?_) _ 0 v2 H q h
      exact ih z18 H19 q h
theorem gb_X9_reach {nr : Nat}  {a1 : Int32} {a2 : Int32} {H : Hp} {res : Unit × Hp} (q : GB nr H) (h : f_X9_reach a1 a2 H = some res) : GB nr res.2 := by
  unfold f_X9_reach at h
  refine gbL_X9_reach_2 (fun H20 q h => ?_) _ 1 H q h
  cases h
  exact q
theorem gbL_X9_all_4 {nr : Nat}  {b1 : Int32} {k : Int32 → Hp → Option (Int32 × Hp)} {res : Int32 × Hp} (hk : ∀ (z2 : Int32) (H : Hp), GB nr H → k z2 H = some res → GB nr res.2) : ∀ (n : Nat) (x2 : Int32) (x3 : Int32) (H : Hp), GB nr H → L_X9_all_4 b1 k n x2 x3 H = some res → GB nr res.2 := by
  intro n
  induction n with
  | zero => intro x2 x3 H q h; exact nomatch (show (none : Option (Int32 × Hp)) = some res from h)
  | succ n ih =>
    intro x2 x3 H q h
    rw [L_X9_all_4] at h
    replace h := (gd_some h).2
    replace h := it_c h
    rcases h with h | h
    · exact hk x2 H q h
    · replace h := it_c h
      rcases h with h | h
      · replace h := vl_c h
        obtain ⟨v3, h⟩ := h
        exact ih 0 v3 H q h
      · replace h := (gd_some h).2
        replace h := it_c h
        rcases h with h | h
        · replace h := vl_c h
          obtain ⟨v5, h⟩ := h
          exact ih 0 v5 H q h
        · replace h := vl_c h
          obtain ⟨v6, h⟩ := h
          exact ih 1 v6 H q h
theorem gb_X9_all {nr : Nat}  {a1 : Int32} {H : Hp} {res : Int32 × Hp} (q : GB nr H) (h : f_X9_all a1 H = some res) : GB nr res.2 := by
  unfold f_X9_all at h
  refine gbL_X9_all_4 (fun z7 H8 q h => ?_) _ 1 0 H q h
  replace h := (gb_some h).2
  cases h
  exact q
theorem gb_X9_fails {nr : Nat}  {a1 : Int32} {H : Hp} {res : Int64 × Hp} (q : GB nr H) (h : f_X9_fails a1 H = some res) : GB nr res.2 := by
  unfold f_X9_fails at h
  replace h := hl_c (P := GB nr) (GB.sI q) h
  clear q
  obtain ⟨H1, q, h⟩ := h
  cases h
  exact q
theorem gbL_X9_count_2 {nr : Nat}  {b1 : Int32} {k : Hp → Option (Int32 × Hp)} {res : Int32 × Hp} (hk : ∀ (H : Hp), GB nr H → k H = some res → GB nr res.2) : ∀ (n : Nat) (x2 : Int32) (H : Hp), GB nr H → L_X9_count_2 b1 k n x2 H = some res → GB nr res.2 := by
  intro n
  induction n with
  | zero => intro x2 H q h; exact nomatch (show (none : Option (Int32 × Hp)) = some res from h)
  | succ n ih =>
    intro x2 H q h
    rw [L_X9_count_2] at h
    replace h := it_c h
    rcases h with h | h
    · exact hk H q h
    · replace h := (gd_some h).2
      replace h := hl_c (P := GB nr) (GB.sI q) h
      clear q
      obtain ⟨H2, q, h⟩ := h
      replace h := vl_c h
      obtain ⟨v3, h⟩ := h
      exact ih v3 H2 q h
theorem gbL_X9_count_70 {nr : Nat}  {b1 : Int32} {b2 : Int32} {b3 : Int32} {b4 : Int32} {k : Int32 → Int64 → Hp → Option (Int32 × Hp)} {res : Int32 × Hp} (hk : ∀ (z5 : Int32) (z6 : Int64) (H : Hp), GB nr H → k z5 z6 H = some res → GB nr res.2) : ∀ (n : Nat) (x5 : Int32) (x6 : Int64) (x8 : Int32) (H : Hp), GB nr H → L_X9_count_70 b1 b2 b3 b4 k n x5 x6 x8 H = some res → GB nr res.2 := by
  intro n
  induction n with
  | zero => intro x5 x6 x8 H q h; exact nomatch (show (none : Option (Int32 × Hp)) = some res from h)
  | succ n ih =>
    intro x5 x6 x8 H q h
    rw [L_X9_count_70] at h
    replace h := (gd_some h).2
    replace h := it_c h
    rcases h with h | h
    · exact hk x5 x6 H q h
    · replace h := (gd_some h).2
      replace h := it_c h
      rcases h with h | h
      · refine jn_c1 (P := GB nr) h (fun y12 H13 q h => ?_) (fun hj11 h => ?_)
        · replace h := it_c h
          rcases h with h | h
          · replace h := vl_c h
            obtain ⟨v15, h⟩ := h
            exact ih y12 x6 v15 H13 q h
          · replace h := (gd_some h).2
            replace h := hl_c (P := GB nr) (GB.sJ q) h
            clear q
            obtain ⟨H16, q, h⟩ := h
            replace h := (gd_some h).2
            replace h := it_c h
            rcases h with h | h
            · replace h := (gd_some h).2
              replace h := (gd_some h).2
              replace h := vl_c h
              obtain ⟨v18, h⟩ := h
              replace h := vl_c h
              obtain ⟨v19, h⟩ := h
              exact ih y12 v18 v19 H16 q h
            · replace h := vl_c h
              obtain ⟨v20, h⟩ := h
              replace h := vl_c h
              obtain ⟨v21, h⟩ := h
              exact ih y12 v20 v21 H16 q h
        · replace h := it_c h
          rcases h with h | h
          · exact hj11 0 H q h
          · replace h := (gd_some h).2
            replace h := it_c h
            rcases h with h | h
            · replace h := (gd_some h).2
              replace h := (gd_some h).2
              replace h := it_c h
              rcases h with h | h
              · exact hj11 0 H q h
              · exact hj11 1 H q h
            · exact hj11 1 H q h
      · replace h := vl_c h
        obtain ⟨v25, h⟩ := h
        exact ih x5 x6 v25 H q h
theorem gbL_X9_count_34 {nr : Nat}  {b1 : Int32} {k : Int32 → Int32 → Hp → Option (Int32 × Hp)} {res : Int32 × Hp} (hk : ∀ (z2 : Int32) (z3 : Int32) (H : Hp), GB nr H → k z2 z3 H = some res → GB nr res.2) : ∀ (n : Nat) (x2 : Int32) (x3 : Int32) (x4 : Int32) (H : Hp), GB nr H → L_X9_count_34 b1 k n x2 x3 x4 H = some res → GB nr res.2 := by
  intro n
  induction n with
  | zero => intro x2 x3 x4 H q h; exact nomatch (show (none : Option (Int32 × Hp)) = some res from h)
  | succ n ih =>
    intro x2 x3 x4 H q h
    rw [L_X9_count_34] at h
    replace h := (gd_some h).2
    replace h := it_c h
    rcases h with h | h
    · exact hk x2 x3 H q h
    · replace h := (gd_some h).2
      replace h := it_c h
      rcases h with h | h
      · replace h := vl_c h
        obtain ⟨v8, h⟩ := h
        refine gbL_X9_count_70 (fun z26 z27 H28 q h => ?_) _ 1 0 v8 H q h
        replace h := it_c h
        rcases h with h | h
        · replace h := vl_c h
          obtain ⟨v40, h⟩ := h
          exact ih x2 x3 v40 H28 q h
        · replace h := (gd_some h).2
          replace h := vl_c h
          obtain ⟨v30, h⟩ := h
          refine jn_c1 (P := GB nr) h (fun y32 H33 q h => ?_) (fun hj31 h => ?_)
          · replace h := (gd_some h).2
            replace h := hl_c (P := GB nr) (GB.sJ q) h
            clear q
            obtain ⟨H34, q, h⟩ := h
            replace h := (gd_some h).2
            replace h := hl_c (P := GB nr) (GB.sI q) h
            clear q
            obtain ⟨H35, q, h⟩ := h
            replace h := vl_c h
            obtain ⟨v36, h⟩ := h
            replace h := vl_c h
            obtain ⟨v37, h⟩ := h
            exact ih v36 1 v37 H35 q h
          · replace h := it_c h
            rcases h with h | h
            · exact hj31 1 H28 q h
            · replace h := it_c h
              rcases h with h | h
              · exact hj31 1 H28 q h
              · exact hj31 z27 H28 q h
      · replace h := vl_c h
        obtain ⟨v41, h⟩ := h
        exact ih x2 x3 v41 H q h
theorem gbL_X9_count_25 {nr : Nat}  {b1 : Int32} {k : Int32 → Hp → Option (Int32 × Hp)} {res : Int32 × Hp} (hk : ∀ (z2 : Int32) (H : Hp), GB nr H → k z2 H = some res → GB nr res.2) : ∀ (n : Nat) (x2 : Int32) (x3 : Int32) (H : Hp), GB nr H → L_X9_count_25 b1 k n x2 x3 H = some res → GB nr res.2 := by
  intro n
  induction n with
  | zero => intro x2 x3 H q h; exact nomatch (show (none : Option (Int32 × Hp)) = some res from h)
  | succ n ih =>
    intro x2 x3 H q h
    rw [L_X9_count_25] at h
    replace h := it_c h
    rcases h with h | h
    · exact hk x2 H q h
    · refine gbL_X9_count_34 (fun z42 z43 H44 q h => ?_) _ x2 0 0 H q h
      exact ih z42 z43 H44 q h
theorem gb_X9_count {nr : Nat}  {a1 : Int32} {H : Hp} {res : Int32 × Hp} (q : GB nr H) (h : f_X9_count a1 H = some res) : GB nr res.2 := by
  unfold f_X9_count at h
  refine gbL_X9_count_2 (fun H4 q h => ?_) _ 0 H q h
  refine gbL_X9_count_25 (fun z45 H46 q h => ?_) _ 0 1 H4 q h
  replace h := (gd_some h).2
  replace h := it_c h
  rcases h with h | h
  · cases h
    exact q
  · cases h
    exact q
theorem gbL_X9_join_18 {nr : Nat}  {b3 : Int32} {b4 : Int32} {k : Hp → Option (Unit × Hp)} {res : Unit × Hp} (hk : ∀ (H : Hp), GB nr H → k H = some res → GB nr res.2) : ∀ (n : Nat) (x5 : Int32) (H : Hp), GB nr H → L_X9_join_18 b3 b4 k n x5 H = some res → GB nr res.2 := by
  intro n
  induction n with
  | zero => intro x5 H q h; exact nomatch (show (none : Option (Unit × Hp)) = some res from h)
  | succ n ih =>
    intro x5 H q h
    rw [L_X9_join_18] at h
    replace h := it_c h
    rcases h with h | h
    · exact hk H q h
    · replace h := (gd_some h).2
      replace h := it_c h
      rcases h with h | h
      · replace h := (gd_some h).2
        replace h := hl_c (P := GB nr) (GB.sI q) h
        clear q
        obtain ⟨H6, q, h⟩ := h
        replace h := vl_c h
        obtain ⟨v7, h⟩ := h
        exact ih v7 H6 q h
      · replace h := vl_c h
        obtain ⟨v5, h⟩ := h
        exact ih v5 H q h
theorem gb_X9_join {nr : Nat}  {a1 : Int32} {a2 : Int32} {H : Hp} {res : Unit × Hp} (q : GB nr H) (h : f_X9_join a1 a2 H = some res) : GB nr res.2 := by
  unfold f_X9_join at h
  replace h := (gd_some h).2
  replace h := vl_c h
  obtain ⟨v1, h⟩ := h
  replace h := (gd_some h).2
  replace h := vl_c h
  obtain ⟨v2, h⟩ := h
  refine gbL_X9_join_18 (fun H8 q h => ?_) _ 0 H q h
  cases h
  exact q
theorem gbL_X9_look_184 {nr : Nat}  {b1 : Int32} {k : Int64 → Hp → Option (Int64 × Hp)} {res : Int64 × Hp} (hk : ∀ (z3 : Int64) (H : Hp), GB nr H → k z3 H = some res → GB nr res.2) : ∀ (n : Nat) (x3 : Int64) (x5 : Int32) (H : Hp), GB nr H → L_X9_look_184 b1 k n x3 x5 H = some res → GB nr res.2 := by
  intro n
  induction n with
  | zero => intro x3 x5 H q h; exact nomatch (show (none : Option (Int64 × Hp)) = some res from h)
  | succ n ih =>
    intro x3 x5 H q h
    rw [L_X9_look_184] at h
    replace h := (gd_some h).2
    replace h := it_c h
    rcases h with h | h
    · exact hk x3 H q h
    · replace h := (gd_some h).2
      replace h := vl_c h
      obtain ⟨v21, h⟩ := h
      replace h := vl_c h
      obtain ⟨v22, h⟩ := h
      exact ih v21 v22 H q h
theorem gb_X9_look {nr : Nat}  {a1 : Int32} {a2 : Int32} {H : Hp} {res : Int64 × Hp} (q : GB nr H) (h : f_X9_look a1 a2 H = some res) : GB nr res.2 := by
  unfold f_X9_look at h
  replace h := hl_c (P := GB nr) (GB.sI q) h
  clear q
  obtain ⟨H1, q, h⟩ := h
  replace h := bnd_some h
  obtain ⟨w3, H2, hc, h⟩ := h
  replace q := gb_X9_isRoutine q hc
  replace h := it_c h
  rcases h with h | h
  · replace h := bnd_some h
    obtain ⟨w29, H28, hc, h⟩ := h
    replace q := gb_X9_fails q hc
    cases h
    exact q
  · replace h := it_c h
    rcases h with h | h
    · replace h := bnd_some h
      obtain ⟨w7, H6, hc, h⟩ := h
      replace q := gb_X9_fails q hc
      cases h
      exact q
    · replace h := it_c h
      rcases h with h | h
      · replace h := it_c h
        rcases h with h | h
        · replace h := (gd_some h).2
          cases h
          exact q
        · replace h := it_c h
          rcases h with h | h
          · replace h := (gd_some h).2
            cases h
            exact q
          · replace h := it_c h
            rcases h with h | h
            · replace h := (gd_some h).2
              replace h := it_c h
              rcases h with h | h
              · cases h
                exact q
              · cases h
                exact q
            · replace h := (gd_some h).2
              replace h := it_c h
              rcases h with h | h
              · cases h
                exact q
              · replace h := it_c h
                rcases h with h | h
                · replace h := (gd_some h).2
                  cases h
                  exact q
                · replace h := it_c h
                  rcases h with h | h
                  · replace h := (gd_some h).2
                    cases h
                    exact q
                  · replace h := it_c h
                    rcases h with h | h
                    · replace h := (gd_some h).2
                      cases h
                      exact q
                    · replace h := it_c h
                      rcases h with h | h
                      · replace h := (gd_some h).2
                        cases h
                        exact q
                      · replace h := it_c h
                        rcases h with h | h
                        · replace h := (gd_some h).2
                          cases h
                          exact q
                        · replace h := it_c h
                          rcases h with h | h
                          · replace h := (gd_some h).2
                            cases h
                            exact q
                          · replace h := vl_c h
                            obtain ⟨v19, h⟩ := h
                            refine gbL_X9_look_184 (fun z23 H24 q h => ?_) _ 0 v19 H2 q h
                            cases h
                            exact q
      · replace h := bnd_some h
        obtain ⟨w27, H26, hc, h⟩ := h
        replace q := gb_X9_fails q hc
        cases h
        exact q
theorem gb_X9_ofEdge {nr : Nat}  {a1 : Int32} {a2 : Int32} {a3 : Int32} {H : Hp} {res : Int64 × Hp} (q : GB nr H) (h : f_X9_ofEdge a1 a2 a3 H = some res) : GB nr res.2 := by
  unfold f_X9_ofEdge at h
  replace h := hl_c (P := GB nr) (GB.sI q) h
  clear q
  obtain ⟨H1, q, h⟩ := h
  replace h := bnd_some h
  obtain ⟨w3, H2, hc, h⟩ := h
  replace q := gb_X9_isEdge q hc
  replace h := it_c h
  rcases h with h | h
  · replace h := bnd_some h
    obtain ⟨w35, H34, hc, h⟩ := h
    replace q := gb_X9_fails q hc
    cases h
    exact q
  · replace h := it_c h
    rcases h with h | h
    · replace h := bnd_some h
      obtain ⟨w7, H6, hc, h⟩ := h
      replace q := gb_X9_fails q hc
      cases h
      exact q
    · replace h := it_c h
      rcases h with h | h
      · replace h := vl_c h
        obtain ⟨v9, h⟩ := h
        replace h := it_c h
        rcases h with h | h
        · replace h := (gd_some h).2
          cases h
          exact q
        · replace h := it_c h
          rcases h with h | h
          · replace h := (gd_some h).2
            cases h
            exact q
          · replace h := it_c h
            rcases h with h | h
            · replace h := (gd_some h).2
              cases h
              exact q
            · replace h := it_c h
              rcases h with h | h
              · replace h := (gd_some h).2
                replace h := it_c h
                rcases h with h | h
                · cases h
                  exact q
                · cases h
                  exact q
              · replace h := (gd_some h).2
                replace h := it_c h
                rcases h with h | h
                · replace h := it_c h
                  rcases h with h | h
                  · cases h
                    exact q
                  · cases h
                    exact q
                · replace h := it_c h
                  rcases h with h | h
                  · replace h := (gd_some h).2
                    replace h := it_c h
                    rcases h with h | h
                    · cases h
                      exact q
                    · cases h
                      exact q
                  · replace h := it_c h
                    rcases h with h | h
                    · replace h := (gd_some h).2
                      replace h := it_c h
                      rcases h with h | h
                      · cases h
                        exact q
                      · replace h := (gd_some h).2
                        replace h := bnd_some h
                        obtain ⟨w23, H22, hc, h⟩ := h
                        replace q := gb_X9_outs q hc
                        replace h := it_c h
                        rcases h with h | h
                        · cases h
                          exact q
                        · replace h := (gd_some h).2
                          replace h := bnd_some h
                          obtain ⟨w26, H25, hc, h⟩ := h
                          replace q := gb_X9_ins q hc
                          replace h := it_c h
                          rcases h with h | h
                          · replace h := (gd_some h).2
                            replace h := it_c h
                            rcases h with h | h
                            · cases h
                              exact q
                            · cases h
                              exact q
                          · cases h
                            exact q
                    · replace h := it_c h
                      rcases h with h | h
                      · replace h := (gd_some h).2
                        cases h
                        exact q
                      · replace h := it_c h
                        rcases h with h | h
                        · replace h := (gd_some h).2
                          cases h
                          exact q
                        · replace h := it_c h
                          rcases h with h | h
                          · replace h := (gd_some h).2
                            cases h
                            exact q
                          · replace h := (gd_some h).2
                            replace h := it_c h
                            rcases h with h | h
                            · replace h := (gd_some h).2
                              replace h := (gd_some h).2
                              replace h := (gd_some h).2
                              replace h := (gd_some h).2
                              replace h := (gd_some h).2
                              cases h
                              exact q
                            · cases h
                              exact q
      · replace h := bnd_some h
        obtain ⟨w33, H32, hc, h⟩ := h
        replace q := gb_X9_fails q hc
        cases h
        exact q
theorem gbL_X9_openOf_5 {nr : Nat}  {b1 : Int32} {b2 : Int32} {k : Int32 → Hp → Option (Int32 × Hp)} {res : Int32 × Hp} (hk : ∀ (z3 : Int32) (H : Hp), GB nr H → k z3 H = some res → GB nr res.2) : ∀ (n : Nat) (x3 : Int32) (x4 : Int32) (H : Hp), GB nr H → L_X9_openOf_5 b1 b2 k n x3 x4 H = some res → GB nr res.2 := by
  intro n
  induction n with
  | zero => intro x3 x4 H q h; exact nomatch (show (none : Option (Int32 × Hp)) = some res from h)
  | succ n ih =>
    intro x3 x4 H q h
    rw [L_X9_openOf_5] at h
    replace h := it_c h
    rcases h with h | h
    · exact hk x3 H q h
    · replace h := (gd_some h).2
      replace h := it_c h
      rcases h with h | h
      · replace h := (gd_some h).2
        replace h := it_c h
        rcases h with h | h
        · replace h := vl_c h
          obtain ⟨v8, h⟩ := h
          replace h := vl_c h
          obtain ⟨v9, h⟩ := h
          exact ih v8 v9 H q h
        · replace h := vl_c h
          obtain ⟨v6, h⟩ := h
          replace h := vl_c h
          obtain ⟨v7, h⟩ := h
          exact ih v6 v7 H q h
      · replace h := vl_c h
        obtain ⟨v3, h⟩ := h
        replace h := vl_c h
        obtain ⟨v4, h⟩ := h
        exact ih v3 v4 H q h
theorem gb_X9_openOf {nr : Nat}  {a1 : Int32} {a2 : Int32} {H : Hp} {res : Int32 × Hp} (q : GB nr H) (h : f_X9_openOf a1 a2 H = some res) : GB nr res.2 := by
  unfold f_X9_openOf at h
  refine gbL_X9_openOf_5 (fun z10 H11 q h => ?_) _ 0 0 H q h
  cases h
  exact q
theorem gb_X9_ofBlock {nr : Nat}  {a1 : Int32} {a2 : Int32} {a3 : Int32} {H : Hp} {res : Int64 × Hp} (q : GB nr H) (h : f_X9_ofBlock a1 a2 a3 H = some res) : GB nr res.2 := by
  unfold f_X9_ofBlock at h
  replace h := hl_c (P := GB nr) (GB.sI q) h
  clear q
  obtain ⟨H1, q, h⟩ := h
  replace h := bnd_some h
  obtain ⟨w3, H2, hc, h⟩ := h
  replace q := gb_X9_isBlock q hc
  replace h := it_c h
  rcases h with h | h
  · replace h := bnd_some h
    obtain ⟨w29, H28, hc, h⟩ := h
    replace q := gb_X9_fails q hc
    cases h
    exact q
  · replace h := it_c h
    rcases h with h | h
    · replace h := bnd_some h
      obtain ⟨w7, H6, hc, h⟩ := h
      replace q := gb_X9_fails q hc
      cases h
      exact q
    · replace h := it_c h
      rcases h with h | h
      · replace h := vl_c h
        obtain ⟨v9, h⟩ := h
        replace h := it_c h
        rcases h with h | h
        · replace h := (gd_some h).2
          cases h
          exact q
        · replace h := it_c h
          rcases h with h | h
          · replace h := (gd_some h).2
            cases h
            exact q
          · replace h := it_c h
            rcases h with h | h
            · replace h := bnd_some h
              obtain ⟨w25, H24, hc, h⟩ := h
              replace q := gb_X9_outs q hc
              cases h
              exact q
            · replace h := it_c h
              rcases h with h | h
              · replace h := bnd_some h
                obtain ⟨w23, H22, hc, h⟩ := h
                replace q := gb_X9_ins q hc
                cases h
                exact q
              · replace h := (gd_some h).2
                replace h := it_c h
                rcases h with h | h
                · replace h := it_c h
                  rcases h with h | h
                  · cases h
                    exact q
                  · cases h
                    exact q
                · replace h := it_c h
                  rcases h with h | h
                  · replace h := (gd_some h).2
                    cases h
                    exact q
                  · replace h := it_c h
                    rcases h with h | h
                    · replace h := (gd_some h).2
                      cases h
                      exact q
                    · replace h := it_c h
                      rcases h with h | h
                      · replace h := (gd_some h).2
                        cases h
                        exact q
                      · replace h := it_c h
                        rcases h with h | h
                        · replace h := (gd_some h).2
                          cases h
                          exact q
                        · replace h := bnd_some h
                          obtain ⟨w20, H19, hc, h⟩ := h
                          replace q := gb_X9_openOf q hc
                          cases h
                          exact q
      · replace h := bnd_some h
        obtain ⟨w27, H26, hc, h⟩ := h
        replace q := gb_X9_fails q hc
        cases h
        exact q
theorem gb_X9_arc {nr : Nat}  {a1 : Int32} {a2 : Int32} {H : Hp} {res : Unit × Hp} (q : GB nr H) (h : f_X9_arc a1 a2 H = some res) : GB nr res.2 := by
  unfold f_X9_arc at h
  replace h := (gd_some h).2
  replace h := hl_c (P := GB nr) (GB.sI q) h
  clear q
  obtain ⟨H1, q, h⟩ := h
  replace h := (gd_some h).2
  replace h := hl_c (P := GB nr) (GB.sI q) h
  clear q
  obtain ⟨H2, q, h⟩ := h
  replace h := (gd_some h).2
  replace h := hl_c (P := GB nr) (GB.sI q) h
  clear q
  obtain ⟨H3, q, h⟩ := h
  replace h := (gd_some h).2
  replace h := hl_c (P := GB nr) (GB.sJ q) h
  clear q
  obtain ⟨H4, q, h⟩ := h
  replace h := hl_c (P := GB nr) (GB.sI q) h
  clear q
  obtain ⟨H5, q, h⟩ := h
  cases h
  exact q
theorem gbL_X9_lay_12 {nr : Nat}  {b1 : Int32} {k : Hp → Option (Unit × Hp)} {res : Unit × Hp} (hk : ∀ (H : Hp), GB nr H → k H = some res → GB nr res.2) : ∀ (n : Nat) (x2 : Int32) (H : Hp), GB nr H → L_X9_lay_12 b1 k n x2 H = some res → GB nr res.2 := by
  intro n
  induction n with
  | zero => intro x2 H q h; exact nomatch (show (none : Option (Unit × Hp)) = some res from h)
  | succ n ih =>
    intro x2 H q h
    rw [L_X9_lay_12] at h
    replace h := (gd_some h).2
    replace h := it_c h
    rcases h with h | h
    · exact hk H q h
    · replace h := (gd_some h).2
      replace h := (gd_some h).2
      replace h := hl_c (P := GB nr) (GB.sI q) h
      clear q
      obtain ⟨H3, q, h⟩ := h
      replace h := (gd_some h).2
      replace h := (gd_some h).2
      replace h := hl_c (P := GB nr) (GB.sI q) h
      clear q
      obtain ⟨H4, q, h⟩ := h
      replace h := (gd_some h).2
      replace h := (gd_some h).2
      replace h := hl_c (P := GB nr) (GB.sI q) h
      clear q
      obtain ⟨H5, q, h⟩ := h
      replace h := (gd_some h).2
      replace h := (gd_some h).2
      replace h := hl_c (P := GB nr) (GB.sJ q) h
      clear q
      obtain ⟨H6, q, h⟩ := h
      replace h := vl_c h
      obtain ⟨v7, h⟩ := h
      exact ih v7 H6 q h
theorem gbL_X9_lay_98 {nr : Nat}  {b1 : Int32} {k : Hp → Option (Unit × Hp)} {res : Unit × Hp} (hk : ∀ (H : Hp), GB nr H → k H = some res → GB nr res.2) : ∀ (n : Nat) (x2 : Int32) (H : Hp), GB nr H → L_X9_lay_98 b1 k n x2 H = some res → GB nr res.2 := by
  intro n
  induction n with
  | zero => intro x2 H q h; exact nomatch (show (none : Option (Unit × Hp)) = some res from h)
  | succ n ih =>
    intro x2 H q h
    rw [L_X9_lay_98] at h
    replace h := (gd_some h).2
    replace h := it_c h
    rcases h with h | h
    · exact hk H q h
    · replace h := (gd_some h).2
      replace h := it_c h
      rcases h with h | h
      · replace h := bnd_some h
        obtain ⟨w13, H12, hc, h⟩ := h
        replace q := gb_X9_arc q hc
        replace h := vl_c h
        obtain ⟨v14, h⟩ := h
        exact ih v14 H12 q h
      · replace h := vl_c h
        obtain ⟨v11, h⟩ := h
        exact ih v11 H q h
theorem gb_X9_lay {nr : Nat}  {a1 : Int32} {H : Hp} {res : Unit × Hp} (q : GB nr H) (h : f_X9_lay a1 H = some res) : GB nr res.2 := by
  unfold f_X9_lay at h
  replace h := (gd_some h).2
  replace h := hl_c (P := GB nr) (GB.sI q) h
  clear q
  obtain ⟨H1, q, h⟩ := h
  refine gbL_X9_lay_12 (fun H8 q h => ?_) _ 0 H1 q h
  refine gbL_X9_lay_98 (fun H15 q h => ?_) _ 0 H8 q h
  replace h := bnd_some h
  obtain ⟨w17, H16, hc, h⟩ := h
  replace q := gb_X9_arc q hc
  cases h
  exact q
theorem gbL_X9_why_13 {nr : Nat}  {b1 : Int32} {k : Hp → Option (Int32 × Hp)} {res : Int32 × Hp} (hk : ∀ (H : Hp), GB nr H → k H = some res → GB nr res.2) : ∀ (n : Nat) (x2 : Int32) (H : Hp), GB nr H → L_X9_why_13 b1 k n x2 H = some res → GB nr res.2 := by
  intro n
  induction n with
  | zero => intro x2 H q h; exact nomatch (show (none : Option (Int32 × Hp)) = some res from h)
  | succ n ih =>
    intro x2 H q h
    rw [L_X9_why_13] at h
    replace h := (gd_some h).2
    replace h := it_c h
    rcases h with h | h
    · exact hk H q h
    · replace h := bnd_some h
      obtain ⟨w4, H3, hc, h⟩ := h
      replace q := gb_X9_outs q hc
      replace h := (gd_some h).2
      replace h := vl_c h
      obtain ⟨v5, h⟩ := h
      replace h := it_c h
      rcases h with h | h
      · replace h := it_c h
        rcases h with h | h
        · replace h := it_c h
          rcases h with h | h
          · cases h
            exact q
          · replace h := vl_c h
            obtain ⟨v23, h⟩ := h
            exact ih v23 H3 q h
        · replace h := it_c h
          rcases h with h | h
          · cases h
            exact q
          · replace h := vl_c h
            obtain ⟨v25, h⟩ := h
            exact ih v25 H3 q h
      · refine jn_c0 (P := GB nr) h (fun H8 q h => ?_) (fun hj7 h => ?_)
        · replace h := it_c h
          rcases h with h | h
          · replace h := it_c h
            rcases h with h | h
            · cases h
              exact q
            · replace h := vl_c h
              obtain ⟨v13, h⟩ := h
              exact ih v13 H8 q h
          · replace h := it_c h
            rcases h with h | h
            · cases h
              exact q
            · replace h := vl_c h
              obtain ⟨v11, h⟩ := h
              exact ih v11 H8 q h
        · replace h := it_c h
          rcases h with h | h
          · exact hj7 H3 q h
          · replace h := it_c h
            rcases h with h | h
            · exact hj7 H3 q h
            · replace h := it_c h
              rcases h with h | h
              · replace h := it_c h
                rcases h with h | h
                · cases h
                  exact q
                · replace h := vl_c h
                  obtain ⟨v20, h⟩ := h
                  exact ih v20 H3 q h
              · replace h := it_c h
                rcases h with h | h
                · cases h
                  exact q
                · replace h := vl_c h
                  obtain ⟨v18, h⟩ := h
                  exact ih v18 H3 q h
theorem gbL_X9_why_112 {nr : Nat}  {b1 : Int32} {k : Hp → Option (Int32 × Hp)} {res : Int32 × Hp} (hk : ∀ (H : Hp), GB nr H → k H = some res → GB nr res.2) : ∀ (n : Nat) (x2 : Int32) (H : Hp), GB nr H → L_X9_why_112 b1 k n x2 H = some res → GB nr res.2 := by
  intro n
  induction n with
  | zero => intro x2 H q h; exact nomatch (show (none : Option (Int32 × Hp)) = some res from h)
  | succ n ih =>
    intro x2 H q h
    rw [L_X9_why_112] at h
    replace h := it_c h
    rcases h with h | h
    · exact hk H q h
    · replace h := it_c h
      rcases h with h | h
      · replace h := (gd_some h).2
        replace h := hl_c (P := GB nr) (GB.sI q) h
        clear q
        obtain ⟨H31, q, h⟩ := h
        replace h := vl_c h
        obtain ⟨v32, h⟩ := h
        exact ih v32 H31 q h
      · replace h := (gd_some h).2
        replace h := hl_c (P := GB nr) (GB.sI q) h
        clear q
        obtain ⟨H29, q, h⟩ := h
        replace h := vl_c h
        obtain ⟨v30, h⟩ := h
        exact ih v30 H29 q h
theorem gbL_X9_why_157 {nr : Nat}  {b1 : Int32} {k : Hp → Option (Int32 × Hp)} {res : Int32 × Hp} (hk : ∀ (H : Hp), GB nr H → k H = some res → GB nr res.2) : ∀ (n : Nat) (x2 : Int32) (H : Hp), GB nr H → L_X9_why_157 b1 k n x2 H = some res → GB nr res.2 := by
  intro n
  induction n with
  | zero => intro x2 H q h; exact nomatch (show (none : Option (Int32 × Hp)) = some res from h)
  | succ n ih =>
    intro x2 H q h
    rw [L_X9_why_157] at h
    replace h := it_c h
    rcases h with h | h
    · exact hk H q h
    · replace h := (gd_some h).2
      replace h := it_c h
      rcases h with h | h
      · replace h := (gd_some h).2
        replace h := hl_c (P := GB nr) (GB.sI q) h
        clear q
        obtain ⟨H41, q, h⟩ := h
        replace h := vl_c h
        obtain ⟨v42, h⟩ := h
        exact ih v42 H41 q h
      · replace h := (gd_some h).2
        replace h := it_c h
        rcases h with h | h
        · replace h := (gd_some h).2
          replace h := hl_c (P := GB nr) (GB.sI q) h
          clear q
          obtain ⟨H44, q, h⟩ := h
          replace h := vl_c h
          obtain ⟨v45, h⟩ := h
          exact ih v45 H44 q h
        · replace h := (gd_some h).2
          replace h := hl_c (P := GB nr) (GB.sI q) h
          clear q
          obtain ⟨H46, q, h⟩ := h
          replace h := vl_c h
          obtain ⟨v47, h⟩ := h
          exact ih v47 H46 q h
theorem gbL_X9_why_276 {nr : Nat}  {b1 : Int32} {b4 : Int32} {k : Int64 → Hp → Option (Int32 × Hp)} {res : Int32 × Hp} (hk : ∀ (z2 : Int64) (H : Hp), GB nr H → k z2 H = some res → GB nr res.2) : ∀ (n : Nat) (x2 : Int64) (x5 : Int32) (H : Hp), GB nr H → L_X9_why_276 b1 b4 k n x2 x5 H = some res → GB nr res.2 := by
  intro n
  induction n with
  | zero => intro x2 x5 H q h; exact nomatch (show (none : Option (Int32 × Hp)) = some res from h)
  | succ n ih =>
    intro x2 x5 H q h
    rw [L_X9_why_276] at h
    replace h := (gd_some h).2
    replace h := it_c h
    rcases h with h | h
    · exact hk x2 H q h
    · replace h := (gd_some h).2
      replace h := it_c h
      rcases h with h | h
      · replace h := vl_c h
        obtain ⟨v63, h⟩ := h
        exact ih x2 v63 H q h
      · replace h := (gd_some h).2
        replace h := it_c h
        rcases h with h | h
        · replace h := (gd_some h).2
          replace h := it_c h
          rcases h with h | h
          · replace h := vl_c h
            obtain ⟨v67, h⟩ := h
            exact ih x2 v67 H q h
          · replace h := (gd_some h).2
            replace h := hl_c (P := GB nr) (GB.sJ q) h
            clear q
            obtain ⟨H68, q, h⟩ := h
            replace h := (gd_some h).2
            replace h := vl_c h
            obtain ⟨v69, h⟩ := h
            replace h := vl_c h
            obtain ⟨v70, h⟩ := h
            exact ih v69 v70 H68 q h
        · replace h := vl_c h
          obtain ⟨v65, h⟩ := h
          exact ih x2 v65 H q h
theorem gbL_X9_why_244 {nr : Nat}  {b1 : Int32} {k : Int64 → Hp → Option (Int32 × Hp)} {res : Int32 × Hp} (hk : ∀ (z2 : Int64) (H : Hp), GB nr H → k z2 H = some res → GB nr res.2) : ∀ (n : Nat) (x2 : Int64) (x4 : Int32) (H : Hp), GB nr H → L_X9_why_244 b1 k n x2 x4 H = some res → GB nr res.2 := by
  intro n
  induction n with
  | zero => intro x2 x4 H q h; exact nomatch (show (none : Option (Int32 × Hp)) = some res from h)
  | succ n ih =>
    intro x2 x4 H q h
    rw [L_X9_why_244] at h
    replace h := (gd_some h).2
    replace h := it_c h
    rcases h with h | h
    · exact hk x2 H q h
    · replace h := (gd_some h).2
      replace h := hl_c (P := GB nr) (GB.sJ q) h
      clear q
      obtain ⟨H59, q, h⟩ := h
      replace h := vl_c h
      obtain ⟨v60, h⟩ := h
      refine gbL_X9_why_276 (fun z71 H72 q h => ?_) _ x2 v60 H59 q h
      replace h := vl_c h
      obtain ⟨v73, h⟩ := h
      exact ih z71 v73 H72 q h
theorem gb_X9_why {nr : Nat}  {a1 : Int32} {H : Hp} {res : Int32 × Hp} (q : GB nr H) (h : f_X9_why a1 H = some res) : GB nr res.2 := by
  unfold f_X9_why at h
  replace h := (gd_some h).2
  replace h := it_c h
  rcases h with h | h
  · cases h
    exact q
  · refine gbL_X9_why_13 (fun H26 q h => ?_) _ 0 H q h
    refine gbL_X9_why_112 (fun H33 q h => ?_) _ 0 H26 q h
    replace h := bnd_some h
    obtain ⟨w35, H34, hc, h⟩ := h
    replace q := gb_X9_reach q hc
    replace h := bnd_some h
    obtain ⟨w37, H36, hc, h⟩ := h
    replace q := gb_X9_all q hc
    replace h := it_c h
    rcases h with h | h
    · cases h
      exact q
    · refine gbL_X9_why_157 (fun H48 q h => ?_) _ 0 H36 q h
      replace h := bnd_some h
      obtain ⟨w50, H49, hc, h⟩ := h
      replace q := gb_X9_reach q hc
      replace h := bnd_some h
      obtain ⟨w52, H51, hc, h⟩ := h
      replace q := gb_X9_all q hc
      replace h := it_c h
      rcases h with h | h
      · cases h
        exact q
      · replace h := bnd_some h
        obtain ⟨w55, H54, hc, h⟩ := h
        replace q := gb_X9_count q hc
        replace h := it_c h
        rcases h with h | h
        · cases h
          exact q
        · replace h := (gd_some h).2
          replace h := vl_c h
          obtain ⟨v57, h⟩ := h
          refine gbL_X9_why_244 (fun z74 H75 q h => ?_) _ v57 0 H54 q h
          replace h := (gd_some h).2
          replace h := hl_c (P := GB nr) (GB.sJ q) h
          clear q
          obtain ⟨H76, q, h⟩ := h
          replace h := it_c h
          rcases h with h | h
          · cases h
            exact q
          · cases h
            exact q
theorem gbL_X9_grow_8 {nr : Nat}  {b1 : Int32} {b2 : Int32} {k : Hp → Option (Unit × Hp)} {res : Unit × Hp} (hk : ∀ (H : Hp), GB nr H → k H = some res → GB nr res.2) : ∀ (n : Nat) (x4 : Int32) (H : Hp), GB nr H → L_X9_grow_8 b1 b2 k n x4 H = some res → GB nr res.2 := by
  intro n
  induction n with
  | zero => intro x4 H q h; exact nomatch (show (none : Option (Unit × Hp)) = some res from h)
  | succ n ih =>
    intro x4 H q h
    rw [L_X9_grow_8] at h
    replace h := it_c h
    rcases h with h | h
    · exact hk H q h
    · replace h := (gd_some h).2
      refine jn_c0 (P := GB nr) h (fun H3 q h => ?_) (fun hj2 h => ?_)
      · replace h := (gd_some h).2
        replace h := hl_c (P := GB nr) (GB.sI q) h
        clear q
        obtain ⟨H4, q, h⟩ := h
        replace h := (gd_some h).2
        replace h := hl_c (P := GB nr) (GB.sI q) h
        clear q
        obtain ⟨H5, q, h⟩ := h
        replace h := vl_c h
        obtain ⟨v6, h⟩ := h
        exact ih v6 H5 q h
      · replace h := it_c h
        rcases h with h | h
        · exact hj2 H q h
        · replace h := it_c h
          rcases h with h | h
          · replace h := (gd_some h).2
            replace h := hl_c (P := GB nr) (GB.sI q) h
            clear q
            obtain ⟨H9, q, h⟩ := h
            replace h := (gd_some h).2
            replace h := hl_c (P := GB nr) (GB.sI q) h
            clear q
            obtain ⟨H10, q, h⟩ := h
            replace h := vl_c h
            obtain ⟨v11, h⟩ := h
            exact ih v11 H10 q h
          · replace h := (gd_some h).2
            replace h := it_c h
            rcases h with h | h
            · replace h := (gd_some h).2
              replace h := hl_c (P := GB nr) (GB.sI q) h
              clear q
              obtain ⟨H13, q, h⟩ := h
              replace h := (gd_some h).2
              replace h := hl_c (P := GB nr) (GB.sI q) h
              clear q
              obtain ⟨H14, q, h⟩ := h
              replace h := vl_c h
              obtain ⟨v15, h⟩ := h
              exact ih v15 H14 q h
            · exact hj2 H q h
theorem gbL_X9_grow_82 {nr : Nat}  {b1 : Int32} {k : Int32 → Hp → Option (Unit × Hp)} {res : Unit × Hp} (hk : ∀ (z5 : Int32) (H : Hp), GB nr H → k z5 H = some res → GB nr res.2) : ∀ (n : Nat) (x5 : Int32) (x6 : Int32) (H : Hp), GB nr H → L_X9_grow_82 b1 k n x5 x6 H = some res → GB nr res.2 := by
  intro n
  induction n with
  | zero => intro x5 x6 H q h; exact nomatch (show (none : Option (Unit × Hp)) = some res from h)
  | succ n ih =>
    intro x5 x6 H q h
    rw [L_X9_grow_82] at h
    replace h := (gd_some h).2
    replace h := it_c h
    rcases h with h | h
    · exact hk x5 H q h
    · replace h := (gd_some h).2
      replace h := it_c h
      rcases h with h | h
      · replace h := it_c h
        rcases h with h | h
        · replace h := vl_c h
          obtain ⟨v22, h⟩ := h
          exact ih x6 v22 H q h
        · replace h := (gd_some h).2
          replace h := (gd_some h).2
          replace h := it_c h
          rcases h with h | h
          · replace h := vl_c h
            obtain ⟨v24, h⟩ := h
            exact ih x5 v24 H q h
          · replace h := vl_c h
            obtain ⟨v25, h⟩ := h
            exact ih x6 v25 H q h
      · replace h := vl_c h
        obtain ⟨v20, h⟩ := h
        exact ih x5 v20 H q h
theorem gbL_X9_grow_71 {nr : Nat}  {b1 : Int32} {k : Hp → Option (Unit × Hp)} {res : Unit × Hp} (hk : ∀ (H : Hp), GB nr H → k H = some res → GB nr res.2) : ∀ (n : Nat) (x4 : Int32) (H : Hp), GB nr H → L_X9_grow_71 b1 k n x4 H = some res → GB nr res.2 := by
  intro n
  induction n with
  | zero => intro x4 H q h; exact nomatch (show (none : Option (Unit × Hp)) = some res from h)
  | succ n ih =>
    intro x4 H q h
    rw [L_X9_grow_71] at h
    replace h := it_c h
    rcases h with h | h
    · exact hk H q h
    · refine gbL_X9_grow_82 (fun z26 H27 q h => ?_) _ (-1) 0 H q h
      refine jn_c1 (P := GB nr) h (fun y29 H30 q h => ?_) (fun hj28 h => ?_)
      · replace h := it_c h
        rcases h with h | h
        · exact ih y29 H30 q h
        · replace h := (gd_some h).2
          replace h := hl_c (P := GB nr) (GB.sI q) h
          clear q
          obtain ⟨H32, q, h⟩ := h
          replace h := (gd_some h).2
          replace h := vl_c h
          obtain ⟨v33, h⟩ := h
          replace h := (gd_some h).2
          replace h := vl_c h
          obtain ⟨v34, h⟩ := h
          replace h := (gd_some h).2
          replace h := (gd_some h).2
          replace h := it_c h
          rcases h with h | h
          · exact ih y29 H32 q h
          · replace h := bnd_some h
            obtain ⟨w37, H36, hc, h⟩ := h
            replace q := gb_X9_join q hc
            replace h := (gd_some h).2
            replace h := hl_c (P := GB nr) (GB.sI q) h
            clear q
            obtain ⟨H38, q, h⟩ := h
            exact ih y29 H38 q h
      · replace h := it_c h
        rcases h with h | h
        · exact hj28 0 H27 q h
        · exact hj28 1 H27 q h
theorem gb_X9_grow {nr : Nat}  {a1 : Int32} {a2 : Int32} {H : Hp} {res : Unit × Hp} (q : GB nr H) (h : f_X9_grow a1 a2 H = some res) : GB nr res.2 := by
  unfold f_X9_grow at h
  refine gbL_X9_grow_8 (fun H16 q h => ?_) _ 0 H q h
  refine gbL_X9_grow_71 (fun H40 q h => ?_) _ 1 H16 q h
  cases h
  exact q
theorem gbL_X9_makePlan_2 {nr : Nat}  {b1 : Int32} {k : Hp → Option (Unit × Hp)} {res : Unit × Hp} (hk : ∀ (H : Hp), GB nr H → k H = some res → GB nr res.2) : ∀ (n : Nat) (x2 : Int32) (H : Hp), GB nr H → L_X9_makePlan_2 b1 k n x2 H = some res → GB nr res.2 := by
  intro n
  induction n with
  | zero => intro x2 H q h; exact nomatch (show (none : Option (Unit × Hp)) = some res from h)
  | succ n ih =>
    intro x2 H q h
    rw [L_X9_makePlan_2] at h
    replace h := it_c h
    rcases h with h | h
    · exact hk H q h
    · replace h := (gd_some h).2
      replace h := hl_c (P := GB nr) (GB.sI q) h
      clear q
      obtain ⟨H2, q, h⟩ := h
      replace h := vl_c h
      obtain ⟨v3, h⟩ := h
      exact ih v3 H2 q h
theorem gbL_X9_makePlan_23 {nr : Nat}  {b1 : Int32} {k : Hp → Option (Unit × Hp)} {res : Unit × Hp} (hk : ∀ (H : Hp), GB nr H → k H = some res → GB nr res.2) : ∀ (n : Nat) (x2 : Int32) (H : Hp), GB nr H → L_X9_makePlan_23 b1 k n x2 H = some res → GB nr res.2 := by
  intro n
  induction n with
  | zero => intro x2 H q h; exact nomatch (show (none : Option (Unit × Hp)) = some res from h)
  | succ n ih =>
    intro x2 H q h
    rw [L_X9_makePlan_23] at h
    replace h := (gd_some h).2
    replace h := it_c h
    rcases h with h | h
    · exact hk H q h
    · replace h := (gd_some h).2
      replace h := it_c h
      rcases h with h | h
      · replace h := bnd_some h
        obtain ⟨w9, H8, hc, h⟩ := h
        replace q := gb_X9_join q hc
        replace h := vl_c h
        obtain ⟨v10, h⟩ := h
        exact ih v10 H8 q h
      · replace h := vl_c h
        obtain ⟨v7, h⟩ := h
        exact ih v7 H q h
theorem gbL_X9_makePlan_90 {nr : Nat}  {b1 : Int32} {k : Hp → Option (Unit × Hp)} {res : Unit × Hp} (hk : ∀ (H : Hp), GB nr H → k H = some res → GB nr res.2) : ∀ (n : Nat) (x2 : Int32) (H : Hp), GB nr H → L_X9_makePlan_90 b1 k n x2 H = some res → GB nr res.2 := by
  intro n
  induction n with
  | zero => intro x2 H q h; exact nomatch (show (none : Option (Unit × Hp)) = some res from h)
  | succ n ih =>
    intro x2 H q h
    rw [L_X9_makePlan_90] at h
    replace h := (gd_some h).2
    replace h := it_c h
    rcases h with h | h
    · exact hk H q h
    · replace h := (gd_some h).2
      refine jn_c1 (P := GB nr) h (fun y20 H21 q h => ?_) (fun hj19 h => ?_)
      · replace h := (gd_some h).2
        replace h := hl_c (P := GB nr) (GB.sI q) h
        clear q
        obtain ⟨H22, q, h⟩ := h
        replace h := (gd_some h).2
        replace h := it_c h
        rcases h with h | h
        · replace h := (gd_some h).2
          replace h := (gd_some h).2
          replace h := (gd_some h).2
          replace h := hl_c (P := GB nr) (GB.sJ q) h
          clear q
          obtain ⟨H24, q, h⟩ := h
          replace h := (gd_some h).2
          replace h := (gd_some h).2
          replace h := hl_c (P := GB nr) (GB.sI q) h
          clear q
          obtain ⟨H25, q, h⟩ := h
          replace h := vl_c h
          obtain ⟨v26, h⟩ := h
          exact ih v26 H25 q h
        · replace h := vl_c h
          obtain ⟨v27, h⟩ := h
          exact ih v27 H22 q h
      · replace h := it_c h
        rcases h with h | h
        · exact hj19 1 H q h
        · exact hj19 0 H q h
theorem gbL_X9_makePlan_176 {nr : Nat}  {b1 : Int32} {k : Hp → Option (Unit × Hp)} {res : Unit × Hp} (hk : ∀ (H : Hp), GB nr H → k H = some res → GB nr res.2) : ∀ (n : Nat) (x2 : Int32) (H : Hp), GB nr H → L_X9_makePlan_176 b1 k n x2 H = some res → GB nr res.2 := by
  intro n
  induction n with
  | zero => intro x2 H q h; exact nomatch (show (none : Option (Unit × Hp)) = some res from h)
  | succ n ih =>
    intro x2 H q h
    rw [L_X9_makePlan_176] at h
    replace h := it_c h
    rcases h with h | h
    · exact hk H q h
    · replace h := (gd_some h).2
      replace h := hl_c (P := GB nr) (GB.sI q) h
      clear q
      obtain ⟨H31, q, h⟩ := h
      replace h := vl_c h
      obtain ⟨v32, h⟩ := h
      exact ih v32 H31 q h
theorem gbL_X9_makePlan_203 {nr : Nat}  {b1 : Int32} {k : Hp → Option (Unit × Hp)} {res : Unit × Hp} (hk : ∀ (H : Hp), GB nr H → k H = some res → GB nr res.2) : ∀ (n : Nat) (x2 : Int32) (H : Hp), GB nr H → L_X9_makePlan_203 b1 k n x2 H = some res → GB nr res.2 := by
  intro n
  induction n with
  | zero => intro x2 H q h; exact nomatch (show (none : Option (Unit × Hp)) = some res from h)
  | succ n ih =>
    intro x2 H q h
    rw [L_X9_makePlan_203] at h
    replace h := it_c h
    rcases h with h | h
    · exact hk H q h
    · replace h := (gd_some h).2
      replace h := hl_c (P := GB nr) (GB.sI q) h
      clear q
      obtain ⟨H37, q, h⟩ := h
      replace h := vl_c h
      obtain ⟨v38, h⟩ := h
      exact ih v38 H37 q h
theorem gbL_X9_makePlan_276 {nr : Nat}  {b1 : Int32} {b2 : Int32} {k : Int32 → Hp → Option (Unit × Hp)} {res : Unit × Hp} (hk : ∀ (z3 : Int32) (H : Hp), GB nr H → k z3 H = some res → GB nr res.2) : ∀ (n : Nat) (x3 : Int32) (x4 : Int32) (H : Hp), GB nr H → L_X9_makePlan_276 b1 b2 k n x3 x4 H = some res → GB nr res.2 := by
  intro n
  induction n with
  | zero => intro x3 x4 H q h; exact nomatch (show (none : Option (Unit × Hp)) = some res from h)
  | succ n ih =>
    intro x3 x4 H q h
    rw [L_X9_makePlan_276] at h
    replace h := (gd_some h).2
    replace h := it_c h
    rcases h with h | h
    · exact hk x3 H q h
    · replace h := (gd_some h).2
      replace h := vl_c h
      obtain ⟨v46, h⟩ := h
      replace h := (gd_some h).2
      replace h := vl_c h
      obtain ⟨v47, h⟩ := h
      replace h := (gd_some h).2
      replace h := it_c h
      rcases h with h | h
      · replace h := vl_c h
        obtain ⟨v49, h⟩ := h
        exact ih x3 v49 H q h
      · replace h := (gd_some h).2
        replace h := (gd_some h).2
        replace h := it_c h
        rcases h with h | h
        · replace h := vl_c h
          obtain ⟨v59, h⟩ := h
          exact ih x3 v59 H q h
        · replace h := (gd_some h).2
          refine jn_c0 (P := GB nr) h (fun H52 q h => ?_) (fun hj51 h => ?_)
          · replace h := (gd_some h).2
            replace h := hl_c (P := GB nr) (GB.sI q) h
            clear q
            obtain ⟨H53, q, h⟩ := h
            replace h := (gd_some h).2
            replace h := hl_c (P := GB nr) (GB.sI q) h
            clear q
            obtain ⟨H54, q, h⟩ := h
            replace h := vl_c h
            obtain ⟨v55, h⟩ := h
            exact ih 1 v55 H54 q h
          · replace h := it_c h
            rcases h with h | h
            · replace h := (gd_some h).2
              replace h := (gd_some h).2
              replace h := (gd_some h).2
              replace h := hl_c (P := GB nr) (GB.sJ q) h
              clear q
              obtain ⟨H57, q, h⟩ := h
              exact hj51 H57 q h
            · replace h := (gd_some h).2
              replace h := (gd_some h).2
              replace h := (gd_some h).2
              replace h := hl_c (P := GB nr) (GB.sJ q) h
              clear q
              obtain ⟨H58, q, h⟩ := h
              exact hj51 H58 q h
theorem gbL_X9_makePlan_267 {nr : Nat}  {b1 : Int32} {b2 : Int32} {k : Hp → Option (Unit × Hp)} {res : Unit × Hp} (hk : ∀ (H : Hp), GB nr H → k H = some res → GB nr res.2) : ∀ (n : Nat) (x3 : Int32) (H : Hp), GB nr H → L_X9_makePlan_267 b1 b2 k n x3 H = some res → GB nr res.2 := by
  intro n
  induction n with
  | zero => intro x3 H q h; exact nomatch (show (none : Option (Unit × Hp)) = some res from h)
  | succ n ih =>
    intro x3 H q h
    rw [L_X9_makePlan_267] at h
    replace h := it_c h
    rcases h with h | h
    · exact hk H q h
    · refine gbL_X9_makePlan_276 (fun z60 H61 q h => ?_) _ 0 0 H q h
      exact ih z60 H61 q h
theorem gbL_X9_makePlan_224 {nr : Nat}  {b1 : Int32} {k : Hp → Option (Unit × Hp)} {res : Unit × Hp} (hk : ∀ (H : Hp), GB nr H → k H = some res → GB nr res.2) : ∀ (n : Nat) (x2 : Int32) (H : Hp), GB nr H → L_X9_makePlan_224 b1 k n x2 H = some res → GB nr res.2 := by
  intro n
  induction n with
  | zero => intro x2 H q h; exact nomatch (show (none : Option (Unit × Hp)) = some res from h)
  | succ n ih =>
    intro x2 H q h
    rw [L_X9_makePlan_224] at h
    replace h := (gd_some h).2
    replace h := it_c h
    rcases h with h | h
    · exact hk H q h
    · replace h := (gd_some h).2
      replace h := it_c h
      rcases h with h | h
      · replace h := (gd_some h).2
        replace h := hl_c (P := GB nr) (GB.sI q) h
        clear q
        obtain ⟨H42, q, h⟩ := h
        replace h := (gd_some h).2
        replace h := hl_c (P := GB nr) (GB.sJ q) h
        clear q
        obtain ⟨H43, q, h⟩ := h
        refine gbL_X9_makePlan_267 (fun H62 q h => ?_) _ 1 H43 q h
        replace h := vl_c h
        obtain ⟨v63, h⟩ := h
        exact ih v63 H62 q h
      · replace h := vl_c h
        obtain ⟨v64, h⟩ := h
        exact ih v64 H q h
theorem gbL_X9_makePlan_470 {nr : Nat}  {b1 : Int32} {k : Hp → Option (Unit × Hp)} {res : Unit × Hp} (hk : ∀ (H : Hp), GB nr H → k H = some res → GB nr res.2) : ∀ (n : Nat) (x2 : Int32) (H : Hp), GB nr H → L_X9_makePlan_470 b1 k n x2 H = some res → GB nr res.2 := by
  intro n
  induction n with
  | zero => intro x2 H q h; exact nomatch (show (none : Option (Unit × Hp)) = some res from h)
  | succ n ih =>
    intro x2 H q h
    rw [L_X9_makePlan_470] at h
    replace h := it_c h
    rcases h with h | h
    · exact hk H q h
    · replace h := (gd_some h).2
      replace h := hl_c (P := GB nr) (GB.sJ q) h
      clear q
      obtain ⟨H68, q, h⟩ := h
      replace h := (gd_some h).2
      replace h := hl_c (P := GB nr) (GB.sJ q) h
      clear q
      obtain ⟨H69, q, h⟩ := h
      replace h := vl_c h
      obtain ⟨v70, h⟩ := h
      exact ih v70 H69 q h
theorem gbL_X9_makePlan_506 {nr : Nat}  {b1 : Int32} {k : Hp → Option (Unit × Hp)} {res : Unit × Hp} (hk : ∀ (H : Hp), GB nr H → k H = some res → GB nr res.2) : ∀ (n : Nat) (x2 : Int32) (H : Hp), GB nr H → L_X9_makePlan_506 b1 k n x2 H = some res → GB nr res.2 := by
  intro n
  induction n with
  | zero => intro x2 H q h; exact nomatch (show (none : Option (Unit × Hp)) = some res from h)
  | succ n ih =>
    intro x2 H q h
    rw [L_X9_makePlan_506] at h
    replace h := it_c h
    rcases h with h | h
    · exact hk H q h
    · replace h := (gd_some h).2
      replace h := hl_c (P := GB nr) (GB.sJ q) h
      clear q
      obtain ⟨H74, q, h⟩ := h
      replace h := vl_c h
      obtain ⟨v75, h⟩ := h
      exact ih v75 H74 q h
theorem gb_X9_makePlan {nr : Nat}  {a1 : Int32} {H : Hp} {res : Unit × Hp} (q : GB nr H) (h : f_X9_makePlan a1 H = some res) : GB nr res.2 := by
  unfold f_X9_makePlan at h
  refine gbL_X9_makePlan_2 (fun H4 q h => ?_) _ 0 H q h
  refine gbL_X9_makePlan_23 (fun H11 q h => ?_) _ 0 H4 q h
  replace h := bnd_some h
  obtain ⟨w13, H12, hc, h⟩ := h
  replace q := gb_X9_join q hc
  replace h := bnd_some h
  obtain ⟨w15, H14, hc, h⟩ := h
  replace q := gb_X9_grow q hc
  replace h := (gd_some h).2
  replace h := hl_c (P := GB nr) (GB.sJ q) h
  clear q
  obtain ⟨H16, q, h⟩ := h
  replace h := (gd_some h).2
  replace h := hl_c (P := GB nr) (GB.sI q) h
  clear q
  obtain ⟨H17, q, h⟩ := h
  refine gbL_X9_makePlan_90 (fun H29 q h => ?_) _ 0 H17 q h
  refine gbL_X9_makePlan_176 (fun H33 q h => ?_) _ 0 H29 q h
  replace h := bnd_some h
  obtain ⟨w35, H34, hc, h⟩ := h
  replace q := gb_X9_grow q hc
  refine gbL_X9_makePlan_203 (fun H39 q h => ?_) _ 0 H34 q h
  refine gbL_X9_makePlan_224 (fun H65 q h => ?_) _ 0 H39 q h
  replace h := vl_c h
  obtain ⟨v66, h⟩ := h
  refine gbL_X9_makePlan_470 (fun H71 q h => ?_) _ v66 H65 q h
  replace h := vl_c h
  obtain ⟨v72, h⟩ := h
  refine gbL_X9_makePlan_506 (fun H76 q h => ?_) _ v72 H71 q h
  replace h := (gd_some h).2
  replace h := hl_c (P := GB nr) (GB.sJ q) h
  clear q
  obtain ⟨H77, q, h⟩ := h
  replace h := (gd_some h).2
  replace h := hl_c (P := GB nr) (GB.sJ q) h
  clear q
  obtain ⟨H78, q, h⟩ := h
  replace h := (gd_some h).2
  replace h := hl_c (P := GB nr) (GB.sI q) h
  clear q
  obtain ⟨H79, q, h⟩ := h
  cases h
  exact q
theorem gb_X9_finish {nr : Nat}  {a1 : Int32} {H : Hp} {res : Int32 × Hp} (q : GB nr H) (h : f_X9_finish a1 H = some res) : GB nr res.2 := by
  unfold f_X9_finish at h
  replace h := hl_c (P := GB nr) (GB.sI q) h
  clear q
  obtain ⟨H1, q, h⟩ := h
  replace h := bnd_some h
  obtain ⟨w3, H2, hc, h⟩ := h
  replace q := gb_X9_isRoutine q hc
  replace h := it_c h
  rcases h with h | h
  · cases h
    exact q
  · replace h := (gd_some h).2
    replace h := it_c h
    rcases h with h | h
    · replace h := bnd_some h
      obtain ⟨w7, H6, hc, h⟩ := h
      replace q := gb_X9_why q hc
      replace h := it_c h
      rcases h with h | h
      · replace h := (gd_some h).2
        replace h := hl_c (P := GB nr) (GB.sI q) h
        clear q
        obtain ⟨H9, q, h⟩ := h
        replace h := bnd_some h
        obtain ⟨w11, H10, hc, h⟩ := h
        replace q := gb_X9_makePlan q hc
        cases h
        exact q
      · cases h
        exact q
    · cases h
      exact q
theorem gbL_X9_plan_17 {nr : Nat}  {b1 : Int32} {k : Hp → Option (Int32 × Hp)} {res : Int32 × Hp} (hk : ∀ (H : Hp), GB nr H → k H = some res → GB nr res.2) : ∀ (n : Nat) (x2 : Int32) (H : Hp), GB nr H → L_X9_plan_17 b1 k n x2 H = some res → GB nr res.2 := by
  intro n
  induction n with
  | zero => intro x2 H q h; exact nomatch (show (none : Option (Int32 × Hp)) = some res from h)
  | succ n ih =>
    intro x2 H q h
    rw [L_X9_plan_17] at h
    replace h := it_c h
    rcases h with h | h
    · exact hk H q h
    · replace h := (gd_some h).2
      replace h := it_c h
      rcases h with h | h
      · cases h
        exact q
      · replace h := vl_c h
        obtain ⟨v7, h⟩ := h
        exact ih v7 H q h
theorem gb_X9_plan {nr : Nat}  {a1 : Int32} {H : Hp} {res : Int32 × Hp} (q : GB nr H) (h : f_X9_plan a1 H = some res) : GB nr res.2 := by
  unfold f_X9_plan at h
  replace h := hl_c (P := GB nr) (GB.sI q) h
  clear q
  obtain ⟨H1, q, h⟩ := h
  replace h := bnd_some h
  obtain ⟨w3, H2, hc, h⟩ := h
  replace q := gb_X9_isDone q hc
  replace h := it_c h
  rcases h with h | h
  · cases h
    exact q
  · refine gbL_X9_plan_17 (fun H8 q h => ?_) _ 0 H2 q h
    replace h := bnd_some h
    obtain ⟨w10, H9, hc, h⟩ := h
    replace q := gb_X9_makePlan q hc
    replace h := (gd_some h).2
    cases h
    exact q
theorem gbL_X9_solve_82 {nr : Nat}  {b1 : Int32} {b2 : Int32} {b3 : Int32} {b4 : Int32} {k : Int32 → Int32 → Int64 → Hp → Option (Int64 × Hp)} {res : Int64 × Hp} (hk : ∀ (z5 : Int32) (z6 : Int32) (z7 : Int64) (H : Hp), GB nr H → k z5 z6 z7 H = some res → GB nr res.2) : ∀ (n : Nat) (x5 : Int32) (x6 : Int32) (x7 : Int64) (x9 : Int32) (H : Hp), GB nr H → L_X9_solve_82 b1 b2 b3 b4 k n x5 x6 x7 x9 H = some res → GB nr res.2 := by
  intro n
  induction n with
  | zero => intro x5 x6 x7 x9 H q h; exact nomatch (show (none : Option (Int64 × Hp)) = some res from h)
  | succ n ih =>
    intro x5 x6 x7 x9 H q h
    rw [L_X9_solve_82] at h
    replace h := it_c h
    rcases h with h | h
    · exact hk x5 x6 x7 H q h
    · replace h := (gd_some h).2
      replace h := (gd_some h).2
      replace h := it_c h
      rcases h with h | h
      · replace h := vl_c h
        obtain ⟨v29, h⟩ := h
        exact ih x5 x6 x7 v29 H q h
      · replace h := (gd_some h).2
        refine jn_c0 (P := GB nr) h (fun H17 q h => ?_) (fun hj16 h => ?_)
        · replace h := (gd_some h).2
          replace h := it_c h
          rcases h with h | h
          · replace h := vl_c h
            obtain ⟨v19, h⟩ := h
            replace h := vl_c h
            obtain ⟨v20, h⟩ := h
            exact ih x9 v19 x7 v20 H17 q h
          · replace h := (gd_some h).2
            replace h := it_c h
            rcases h with h | h
            · replace h := (gd_some h).2
              replace h := vl_c h
              obtain ⟨v24, h⟩ := h
              replace h := vl_c h
              obtain ⟨v25, h⟩ := h
              exact ih x5 x6 v24 v25 H17 q h
            · replace h := (gd_some h).2
              replace h := vl_c h
              obtain ⟨v22, h⟩ := h
              replace h := vl_c h
              obtain ⟨v23, h⟩ := h
              exact ih x5 x6 v22 v23 H17 q h
        · replace h := it_c h
          rcases h with h | h
          · exact hj16 H q h
          · replace h := (gd_some h).2
            replace h := it_c h
            rcases h with h | h
            · exact hj16 H q h
            · replace h := vl_c h
              obtain ⟨v28, h⟩ := h
              exact ih x5 x6 x7 v28 H q h
theorem gbL_X9_solve_211 {nr : Nat}  {b1 : Int32} {b2 : Int32} {b4 : Int32} {b5 : Int32} {k : Int64 → Hp → Option (Int64 × Hp)} {res : Int64 × Hp} (hk : ∀ (z7 : Int64) (H : Hp), GB nr H → k z7 H = some res → GB nr res.2) : ∀ (n : Nat) (x7 : Int64) (x9 : Int32) (H : Hp), GB nr H → L_X9_solve_211 b1 b2 b4 b5 k n x7 x9 H = some res → GB nr res.2 := by
  intro n
  induction n with
  | zero => intro x7 x9 H q h; exact nomatch (show (none : Option (Int64 × Hp)) = some res from h)
  | succ n ih =>
    intro x7 x9 H q h
    rw [L_X9_solve_211] at h
    replace h := (gd_some h).2
    replace h := it_c h
    rcases h with h | h
    · exact hk x7 H q h
    · replace h := (gd_some h).2
      replace h := bnd_some h
      obtain ⟨w37, H36, hc, h⟩ := h
      replace q := gb_X9_openOf q hc
      replace h := vl_c h
      obtain ⟨v38, h⟩ := h
      replace h := it_c h
      rcases h with h | h
      · replace h := vl_c h
        obtain ⟨v44, h⟩ := h
        replace h := vl_c h
        obtain ⟨v45, h⟩ := h
        exact ih v44 v45 H36 q h
      · replace h := it_c h
        rcases h with h | h
        · replace h := vl_c h
          obtain ⟨v42, h⟩ := h
          replace h := vl_c h
          obtain ⟨v43, h⟩ := h
          exact ih v42 v43 H36 q h
        · replace h := vl_c h
          obtain ⟨v41, h⟩ := h
          exact ih x7 v41 H36 q h
theorem gbL_X9_solve_42 {nr : Nat}  {b1 : Int32} {b2 : Int32} {k : Int32 → Hp → Option (Int64 × Hp)} {res : Int64 × Hp} (hk : ∀ (z3 : Int32) (H : Hp), GB nr H → k z3 H = some res → GB nr res.2) : ∀ (n : Nat) (x3 : Int32) (x4 : Int32) (H : Hp), GB nr H → L_X9_solve_42 b1 b2 k n x3 x4 H = some res → GB nr res.2 := by
  intro n
  induction n with
  | zero => intro x3 x4 H q h; exact nomatch (show (none : Option (Int64 × Hp)) = some res from h)
  | succ n ih =>
    intro x3 x4 H q h
    rw [L_X9_solve_42] at h
    replace h := it_c h
    rcases h with h | h
    · exact hk x3 H q h
    · replace h := (gd_some h).2
      refine jn_c0 (P := GB nr) h (fun H13 q h => ?_) (fun hj12 h => ?_)
      · refine gbL_X9_solve_82 (fun z30 z31 z32 H33 q h => ?_) _ (-1) 0 0 0 H13 q h
        replace h := it_c h
        rcases h with h | h
        · refine gbL_X9_solve_211 (fun z46 H47 q h => ?_) _ z32 0 H33 q h
          replace h := (gd_some h).2
          refine jn_c1 (P := GB nr) h (fun y49 H50 q h => ?_) (fun hj48 h => ?_)
          · replace h := (gd_some h).2
            replace h := hl_c (P := GB nr) (GB.sJ q) h
            clear q
            obtain ⟨H51, q, h⟩ := h
            replace h := (gd_some h).2
            replace h := hl_c (P := GB nr) (GB.sI q) h
            clear q
            obtain ⟨H52, q, h⟩ := h
            replace h := vl_c h
            obtain ⟨v53, h⟩ := h
            exact ih 1 v53 H52 q h
          · replace h := it_c h
            rcases h with h | h
            · exact hj48 z46 H47 q h
            · exact hj48 (-z46) H47 q h
        · replace h := vl_c h
          obtain ⟨v55, h⟩ := h
          exact ih x3 v55 H33 q h
      · replace h := it_c h
        rcases h with h | h
        · exact hj12 H q h
        · replace h := it_c h
          rcases h with h | h
          · exact hj12 H q h
          · replace h := vl_c h
            obtain ⟨v58, h⟩ := h
            exact ih x3 v58 H q h
theorem gbL_X9_solve_33 {nr : Nat}  {b1 : Int32} {b2 : Int32} {k : Hp → Option (Int64 × Hp)} {res : Int64 × Hp} (hk : ∀ (H : Hp), GB nr H → k H = some res → GB nr res.2) : ∀ (n : Nat) (x3 : Int32) (H : Hp), GB nr H → L_X9_solve_33 b1 b2 k n x3 H = some res → GB nr res.2 := by
  intro n
  induction n with
  | zero => intro x3 H q h; exact nomatch (show (none : Option (Int64 × Hp)) = some res from h)
  | succ n ih =>
    intro x3 H q h
    rw [L_X9_solve_33] at h
    replace h := it_c h
    rcases h with h | h
    · exact hk H q h
    · refine gbL_X9_solve_42 (fun z59 H60 q h => ?_) _ 0 0 H q h
      exact ih z59 H60 q h
theorem gb_X9_solve {nr : Nat}  {a1 : Int32} {a2 : Int32} {H : Hp} {res : Int64 × Hp} (q : GB nr H) (h : f_X9_solve a1 a2 H = some res) : GB nr res.2 := by
  unfold f_X9_solve at h
  replace h := hl_c (P := GB nr) (GB.sI q) h
  clear q
  obtain ⟨H1, q, h⟩ := h
  replace h := bnd_some h
  obtain ⟨w3, H2, hc, h⟩ := h
  replace q := gb_X9_isDone q hc
  replace h := it_c h
  rcases h with h | h
  · cases h
    exact q
  · replace h := bnd_some h
    obtain ⟨w6, H5, hc, h⟩ := h
    replace q := gb_X9_isEdge q hc
    replace h := it_c h
    rcases h with h | h
    · cases h
      exact q
    · replace h := bnd_some h
      obtain ⟨w9, H8, hc, h⟩ := h
      replace q := gb_X9_lay q hc
      refine gbL_X9_solve_33 (fun H61 q h => ?_) _ 1 H8 q h
      replace h := (gd_some h).2
      cases h
      exact q
theorem gbL_X9_ring_104 {nr : Nat}  {b3 : Int32} {b4 : Int32} {b5 : Int32} {k : Hp → Option (Int32 × Hp)} {res : Int32 × Hp} (hk : ∀ (H : Hp), GB nr H → k H = some res → GB nr res.2) : ∀ (n : Nat) (x6 : Int32) (H : Hp), GB nr H → L_X9_ring_104 b3 b4 b5 k n x6 H = some res → GB nr res.2 := by
  intro n
  induction n with
  | zero => intro x6 H q h; exact nomatch (show (none : Option (Int32 × Hp)) = some res from h)
  | succ n ih =>
    intro x6 H q h
    rw [L_X9_ring_104] at h
    replace h := it_c h
    rcases h with h | h
    · exact hk H q h
    · replace h := (gd_some h).2
      replace h := hl_c (P := GB nr) (GB.sI q) h
      clear q
      obtain ⟨H19, q, h⟩ := h
      replace h := vl_c h
      obtain ⟨v20, h⟩ := h
      exact ih v20 H19 q h
theorem gbL_X9_ring_134 {nr : Nat}  {b3 : Int32} {b4 : Int32} {b5 : Int32} {k : Hp → Option (Int32 × Hp)} {res : Int32 × Hp} (hk : ∀ (H : Hp), GB nr H → k H = some res → GB nr res.2) : ∀ (n : Nat) (x7 : Int32) (H : Hp), GB nr H → L_X9_ring_134 b3 b4 b5 k n x7 H = some res → GB nr res.2 := by
  intro n
  induction n with
  | zero => intro x7 H q h; exact nomatch (show (none : Option (Int32 × Hp)) = some res from h)
  | succ n ih =>
    intro x7 H q h
    rw [L_X9_ring_134] at h
    replace h := it_c h
    rcases h with h | h
    · exact hk H q h
    · replace h := it_c h
      rcases h with h | h
      · replace h := (gd_some h).2
        replace h := hl_c (P := GB nr) (GB.sI q) h
        clear q
        obtain ⟨H26, q, h⟩ := h
        replace h := vl_c h
        obtain ⟨v27, h⟩ := h
        exact ih v27 H26 q h
      · replace h := (gd_some h).2
        replace h := hl_c (P := GB nr) (GB.sI q) h
        clear q
        obtain ⟨H24, q, h⟩ := h
        replace h := vl_c h
        obtain ⟨v25, h⟩ := h
        exact ih v25 H24 q h
theorem gbL_X9_ring_186 {nr : Nat}  {b3 : Int32} {b4 : Int32} {b5 : Int32} {k : Int32 → Hp → Option (Int32 × Hp)} {res : Int32 × Hp} (hk : ∀ (z7 : Int32) (H : Hp), GB nr H → k z7 H = some res → GB nr res.2) : ∀ (n : Nat) (x7 : Int32) (x8 : Int32) (H : Hp), GB nr H → L_X9_ring_186 b3 b4 b5 k n x7 x8 H = some res → GB nr res.2 := by
  intro n
  induction n with
  | zero => intro x7 x8 H q h; exact nomatch (show (none : Option (Int32 × Hp)) = some res from h)
  | succ n ih =>
    intro x7 x8 H q h
    rw [L_X9_ring_186] at h
    replace h := it_c h
    rcases h with h | h
    · exact hk x7 H q h
    · replace h := (gd_some h).2
      replace h := it_c h
      rcases h with h | h
      · replace h := (gd_some h).2
        replace h := (gd_some h).2
        replace h := (gd_some h).2
        replace h := (gd_some h).2
        replace h := it_c h
        rcases h with h | h
        · replace h := vl_c h
          obtain ⟨v42, h⟩ := h
          exact ih x7 v42 H q h
        · replace h := (gd_some h).2
          replace h := (gd_some h).2
          refine jn_c1 (P := GB nr) h (fun y36 H37 q h => ?_) (fun hj35 h => ?_)
          · replace h := (gd_some h).2
            replace h := hl_c (P := GB nr) (GB.sI q) h
            clear q
            obtain ⟨H38, q, h⟩ := h
            replace h := (gd_some h).2
            replace h := hl_c (P := GB nr) (GB.sI q) h
            clear q
            obtain ⟨H39, q, h⟩ := h
            replace h := vl_c h
            obtain ⟨v40, h⟩ := h
            exact ih 1 v40 H39 q h
          · replace h := it_c h
            rcases h with h | h
            · replace h := (gd_some h).2
              exact hj35 ((gI H 0 39 (Int32.toNatClampNeg x8))) H q h
            · replace h := (gd_some h).2
              exact hj35 ((gI H 0 40 (Int32.toNatClampNeg x8))) H q h
      · replace h := vl_c h
        obtain ⟨v33, h⟩ := h
        exact ih x7 v33 H q h
theorem gbL_X9_ring_167 {nr : Nat}  {b3 : Int32} {b4 : Int32} {b5 : Int32} {k : Hp → Option (Int32 × Hp)} {res : Int32 × Hp} (hk : ∀ (H : Hp), GB nr H → k H = some res → GB nr res.2) : ∀ (n : Nat) (x7 : Int32) (H : Hp), GB nr H → L_X9_ring_167 b3 b4 b5 k n x7 H = some res → GB nr res.2 := by
  intro n
  induction n with
  | zero => intro x7 H q h; exact nomatch (show (none : Option (Int32 × Hp)) = some res from h)
  | succ n ih =>
    intro x7 H q h
    rw [L_X9_ring_167] at h
    replace h := it_c h
    rcases h with h | h
    · exact hk H q h
    · replace h := (gd_some h).2
      replace h := it_c h
      rcases h with h | h
      · refine gbL_X9_ring_186 (fun z43 H44 q h => ?_) _ 0 0 H q h
        exact ih z43 H44 q h
      · exact hk H q h
theorem gbL_X9_ring_294 {nr : Nat}  {b3 : Int32} {b4 : Int32} {k : Hp → Option (Int32 × Hp)} {res : Int32 × Hp} (hk : ∀ (H : Hp), GB nr H → k H = some res → GB nr res.2) : ∀ (n : Nat) (x8 : Int32) (H : Hp), GB nr H → L_X9_ring_294 b3 b4 k n x8 H = some res → GB nr res.2 := by
  intro n
  induction n with
  | zero => intro x8 H q h; exact nomatch (show (none : Option (Int32 × Hp)) = some res from h)
  | succ n ih =>
    intro x8 H q h
    rw [L_X9_ring_294] at h
    replace h := it_c h
    rcases h with h | h
    · exact hk H q h
    · replace h := (gd_some h).2
      replace h := vl_c h
      obtain ⟨v47, h⟩ := h
      replace h := (gd_some h).2
      refine jn_c1 (P := GB nr) h (fun y49 H50 q h => ?_) (fun hj48 h => ?_)
      · replace h := it_c h
        rcases h with h | h
        · replace h := it_c h
          rcases h with h | h
          · cases h
            exact q
          · cases h
            exact q
        · replace h := it_c h
          rcases h with h | h
          · replace h := (gd_some h).2
            replace h := vl_c h
            obtain ⟨v53, h⟩ := h
            exact ih v53 H50 q h
          · replace h := (gd_some h).2
            replace h := vl_c h
            obtain ⟨v54, h⟩ := h
            exact ih v54 H50 q h
      · replace h := it_c h
        rcases h with h | h
        · exact hj48 1 H q h
        · exact hj48 0 H q h
theorem gb_X9_ring {nr : Nat}  {a1 : Int32} {a2 : Int32} {a3 : Int32} {H : Hp} {res : Int32 × Hp} (q : GB nr H) (h : f_X9_ring a1 a2 a3 H = some res) : GB nr res.2 := by
  unfold f_X9_ring at h
  replace h := hl_c (P := GB nr) (GB.sI q) h
  clear q
  obtain ⟨H1, q, h⟩ := h
  replace h := bnd_some h
  obtain ⟨w3, H2, hc, h⟩ := h
  replace q := gb_X9_isDone q hc
  replace h := it_c h
  rcases h with h | h
  · cases h
    exact q
  · replace h := bnd_some h
    obtain ⟨w6, H5, hc, h⟩ := h
    replace q := gb_X9_isEdge q hc
    replace h := it_c h
    rcases h with h | h
    · cases h
      exact q
    · replace h := bnd_some h
      obtain ⟨w9, H8, hc, h⟩ := h
      replace q := gb_X9_isEdge q hc
      replace h := it_c h
      rcases h with h | h
      · cases h
        exact q
      · replace h := (gd_some h).2
        replace h := it_c h
        rcases h with h | h
        · cases h
          exact q
        · replace h := it_c h
          rcases h with h | h
          · cases h
            exact q
          · replace h := (gd_some h).2
            replace h := it_c h
            rcases h with h | h
            · replace h := bnd_some h
              obtain ⟨w15, H14, hc, h⟩ := h
              replace q := gb_X9_lay q hc
              replace h := (gd_some h).2
              replace h := vl_c h
              obtain ⟨v16, h⟩ := h
              replace h := (gd_some h).2
              replace h := vl_c h
              obtain ⟨v17, h⟩ := h
              refine gbL_X9_ring_104 (fun H21 q h => ?_) _ 0 H14 q h
              refine gbL_X9_ring_134 (fun H28 q h => ?_) _ 0 H21 q h
              refine gbL_X9_ring_167 (fun H45 q h => ?_) _ 1 H28 q h
              refine gbL_X9_ring_294 (fun H57 q h => ?_) _ v17 H45 q h
              cases h
              exact q
            · cases h
              exact q
theorem gbL_X9_ends_3 {nr : Nat}  {b1 : Int32} {b2 : Int64} {k : Hp → Option (Unit × Hp)} {res : Unit × Hp} (hk : ∀ (H : Hp), GB nr H → k H = some res → GB nr res.2) : ∀ (n : Nat) (x4 : Int32) (H : Hp), GB nr H → L_X9_ends_3 b1 b2 k n x4 H = some res → GB nr res.2 := by
  intro n
  induction n with
  | zero => intro x4 H q h; exact nomatch (show (none : Option (Unit × Hp)) = some res from h)
  | succ n ih =>
    intro x4 H q h
    rw [L_X9_ends_3] at h
    replace h := (gd_some h).2
    replace h := it_c h
    rcases h with h | h
    · exact hk H q h
    · replace h := (gd_some h).2
      replace h := it_c h
      rcases h with h | h
      · replace h := (gd_some h).2
        replace h := (gd_some h).2
        replace h := hl_c (P := GB nr) (GB.sJ q) h
        clear q
        obtain ⟨H4, q, h⟩ := h
        cases h
        exact q
      · replace h := vl_c h
        obtain ⟨v3, h⟩ := h
        exact ih v3 H q h
theorem gb_X9_ends {nr : Nat}  {a1 : Int32} {a2 : Int64} {H : Hp} {res : Unit × Hp} (q : GB nr H) (h : f_X9_ends a1 a2 H = some res) : GB nr res.2 := by
  unfold f_X9_ends at h
  refine gbL_X9_ends_3 (fun H5 q h => ?_) _ 0 H q h
  replace h := (gd_some h).2
  replace h := it_c h
  rcases h with h | h
  · replace h := (gd_some h).2
    replace h := (gd_some h).2
    replace h := hl_c (P := GB nr) (GB.sJ q) h
    clear q
    obtain ⟨H10, q, h⟩ := h
    cases h
    exact q
  · replace h := (gd_some h).2
    replace h := (gd_some h).2
    replace h := hl_c (P := GB nr) (GB.sJ q) h
    clear q
    obtain ⟨H7, q, h⟩ := h
    replace h := (gd_some h).2
    replace h := (gd_some h).2
    replace h := hl_c (P := GB nr) (GB.sJ q) h
    clear q
    obtain ⟨H8, q, h⟩ := h
    replace h := (gd_some h).2
    replace h := (gd_some h).2
    replace h := hl_c (P := GB nr) (GB.sI q) h
    clear q
    obtain ⟨H9, q, h⟩ := h
    cases h
    exact q
theorem gb_X9_comes {nr : Nat}  {a1 : Int32} {H : Hp} {res : Unit × Hp} (q : GB nr H) (h : f_X9_comes a1 H = some res) : GB nr res.2 := by
  unfold f_X9_comes at h
  replace h := (gd_some h).2
  replace h := hl_c (P := GB nr) (GB.sI q) h
  clear q
  obtain ⟨H1, q, h⟩ := h
  replace h := (gd_some h).2
  replace h := hl_c (P := GB nr) (GB.sI q) h
  clear q
  obtain ⟨H2, q, h⟩ := h
  replace h := (gd_some h).2
  replace h := hl_c (P := GB nr) (GB.sJ q) h
  clear q
  obtain ⟨H3, q, h⟩ := h
  replace h := hl_c (P := GB nr) (GB.sI q) h
  clear q
  obtain ⟨H4, q, h⟩ := h
  replace h := (gd_some h).2
  replace h := (gd_some h).2
  replace h := hl_c (P := GB nr) (GB.sJ q) h
  clear q
  obtain ⟨H5, q, h⟩ := h
  cases h
  exact q
theorem gbL_X9_allGo_2 {nr : Nat}  {k : Hp → Option (Unit × Hp)} {res : Unit × Hp} (hk : ∀ (H : Hp), GB nr H → k H = some res → GB nr res.2) : ∀ (n : Nat) (x1 : Int32) (H : Hp), GB nr H → L_X9_allGo_2 k n x1 H = some res → GB nr res.2 := by
  intro n
  induction n with
  | zero => intro x1 H q h; exact nomatch (show (none : Option (Unit × Hp)) = some res from h)
  | succ n ih =>
    intro x1 H q h
    rw [L_X9_allGo_2] at h
    replace h := it_c h
    rcases h with h | h
    · exact hk H q h
    · replace h := (gd_some h).2
      replace h := (gd_some h).2
      replace h := (gd_some h).2
      replace h := (gd_some h).2
      replace h := hl_c (P := GB nr) (GB.sJ q) h
      clear q
      obtain ⟨H2, q, h⟩ := h
      replace h := vl_c h
      obtain ⟨v3, h⟩ := h
      exact ih v3 H2 q h
theorem gb_X9_allGo {nr : Nat}  {H : Hp} {res : Unit × Hp} (q : GB nr H) (h : f_X9_allGo H = some res) : GB nr res.2 := by
  unfold f_X9_allGo at h
  refine gbL_X9_allGo_2 (fun H4 q h => ?_) _ 0 H q h
  replace h := hl_c (P := GB nr) (GB.sI q) h
  clear q
  obtain ⟨H5, q, h⟩ := h
  cases h
  exact q
theorem gb_X9_begin {nr : Nat}  {a1 : Int32} {H : Hp} {res : Int32 × Hp} (q : GB nr H) (h : f_X9_begin a1 H = some res) : GB nr res.2 := by
  unfold f_X9_begin at h
  replace h := hl_c (P := GB nr) (GB.sI q) h
  clear q
  obtain ⟨H1, q, h⟩ := h
  replace h := bnd_some h
  obtain ⟨w3, H2, hc, h⟩ := h
  replace q := gb_X9_isDone q hc
  replace h := it_c h
  rcases h with h | h
  · cases h
    exact q
  · replace h := bnd_some h
    obtain ⟨w6, H5, hc, h⟩ := h
    replace q := gb_X9_allGo q hc
    replace h := hl_c (P := GB nr) (GB.sI q) h
    clear q
    obtain ⟨H7, q, h⟩ := h
    replace h := hl_c (P := GB nr) (GB.sI q) h
    clear q
    obtain ⟨H8, q, h⟩ := h
    replace h := hl_c (P := GB nr) (GB.sI q) h
    clear q
    obtain ⟨H9, q, h⟩ := h
    replace h := bnd_some h
    obtain ⟨w11, H10, hc, h⟩ := h
    replace q := gb_X9_comes q hc
    cases h
    exact q
theorem gbL_X9_goes_23 {nr : Nat}  {b2 : Int32} {b3 : Int32} {k : Int32 → Hp → Option (Unit × Hp)} {res : Unit × Hp} (hk : ∀ (z4 : Int32) (H : Hp), GB nr H → k z4 H = some res → GB nr res.2) : ∀ (n : Nat) (x4 : Int32) (x5 : Int32) (H : Hp), GB nr H → L_X9_goes_23 b2 b3 k n x4 x5 H = some res → GB nr res.2 := by
  intro n
  induction n with
  | zero => intro x4 x5 H q h; exact nomatch (show (none : Option (Unit × Hp)) = some res from h)
  | succ n ih =>
    intro x4 x5 H q h
    rw [L_X9_goes_23] at h
    replace h := (gd_some h).2
    replace h := (gd_some h).2
    refine jn_c0 (P := GB nr) h (fun H5 q h => ?_) (fun hj4 h => ?_)
    · replace h := (gd_some h).2
      replace h := (gd_some h).2
      replace h := it_c h
      rcases h with h | h
      · replace h := vl_c h
        obtain ⟨v9, h⟩ := h
        replace h := vl_c h
        obtain ⟨v10, h⟩ := h
        exact ih v10 v9 H5 q h
      · replace h := vl_c h
        obtain ⟨v7, h⟩ := h
        replace h := vl_c h
        obtain ⟨v8, h⟩ := h
        exact ih v8 v7 H5 q h
    · replace h := it_c h
      rcases h with h | h
      · replace h := it_c h
        rcases h with h | h
        · exact hk x4 H q h
        · exact hj4 H q h
      · exact hj4 H q h
theorem gb_X9_goes {nr : Nat}  {a1 : Int32} {H : Hp} {res : Unit × Hp} (q : GB nr H) (h : f_X9_goes a1 H = some res) : GB nr res.2 := by
  unfold f_X9_goes at h
  replace h := vl_c h
  obtain ⟨v1, h⟩ := h
  replace h := (gd_some h).2
  replace h := vl_c h
  obtain ⟨v2, h⟩ := h
  replace h := vl_c h
  obtain ⟨v3, h⟩ := h
  refine gbL_X9_goes_23 (fun z13 H14 q h => ?_) _ v3 a1 H q h
  replace h := (gd_some h).2
  replace h := (gd_some h).2
  replace h := hl_c (P := GB nr) (GB.sJ q) h
  clear q
  obtain ⟨H15, q, h⟩ := h
  replace h := (gd_some h).2
  refine jn_c0 (P := GB nr) h (fun H17 q h => ?_) (fun hj16 h => ?_)
  · replace h := (gd_some h).2
    replace h := (gd_some h).2
    replace h := (gd_some h).2
    replace h := hl_c (P := GB nr) (GB.sJ q) h
    clear q
    obtain ⟨H18, q, h⟩ := h
    replace h := (gd_some h).2
    replace h := (gd_some h).2
    replace h := hl_c (P := GB nr) (GB.sI q) h
    clear q
    obtain ⟨H19, q, h⟩ := h
    replace h := (gd_some h).2
    replace h := it_c h
    rcases h with h | h
    · cases h
      exact q
    · replace h := (gd_some h).2
      replace h := bnd_some h
      obtain ⟨w22, H21, hc, h⟩ := h
      replace q := gb_X9_ends q hc
      replace h := (gd_some h).2
      replace h := (gd_some h).2
      replace h := (gd_some h).2
      replace h := hl_c (P := GB nr) (GB.sJ q) h
      clear q
      obtain ⟨H23, q, h⟩ := h
      cases h
      exact q
  · replace h := it_c h
    rcases h with h | h
    · exact hj16 H15 q h
    · replace h := (gd_some h).2
      replace h := (gd_some h).2
      replace h := hl_c (P := GB nr) (GB.sJ q) h
      clear q
      obtain ⟨H25, q, h⟩ := h
      replace h := hl_c (P := GB nr) (GB.sI q) h
      clear q
      obtain ⟨H26, q, h⟩ := h
      exact hj16 H26 q h
theorem gbL_X9_go_32 {nr : Nat}  {b1 : Int32} {b2 : Int32} {k : Int32 → Hp → Option (Int32 × Hp)} {res : Int32 × Hp} (hk : ∀ (z3 : Int32) (H : Hp), GB nr H → k z3 H = some res → GB nr res.2) : ∀ (n : Nat) (x3 : Int32) (x4 : Int32) (H : Hp), GB nr H → L_X9_go_32 b1 b2 k n x3 x4 H = some res → GB nr res.2 := by
  intro n
  induction n with
  | zero => intro x3 x4 H q h; exact nomatch (show (none : Option (Int32 × Hp)) = some res from h)
  | succ n ih =>
    intro x3 x4 H q h
    rw [L_X9_go_32] at h
    replace h := it_c h
    rcases h with h | h
    · exact hk x3 H q h
    · replace h := it_c h
      rcases h with h | h
      · replace h := vl_c h
        obtain ⟨v7, h⟩ := h
        replace h := hl_c (P := GB nr) (GB.sI q) h
        clear q
        obtain ⟨H8, q, h⟩ := h
        replace h := vl_c h
        obtain ⟨v9, h⟩ := h
        replace h := (gd_some h).2
        replace h := vl_c h
        obtain ⟨v10, h⟩ := h
        replace h := (gd_some h).2
        replace h := vl_c h
        obtain ⟨v11, h⟩ := h
        replace h := (gd_some h).2
        replace h := vl_c h
        obtain ⟨v12, h⟩ := h
        replace h := (gd_some h).2
        replace h := vl_c h
        obtain ⟨v13, h⟩ := h
        replace h := it_c h
        rcases h with h | h
        · replace h := bnd_some h
          obtain ⟨w48, H47, hc, h⟩ := h
          replace q := gb_X9_goes q hc
          exact ih v7 x4 H47 q h
        · replace h := it_c h
          rcases h with h | h
          · replace h := (gb_some h).2
            replace h := bnd_some h
            obtain ⟨w43, H42, hc, h⟩ := h
            replace q := gb_X9_outs q hc
            replace h := (gb_some h).2
            replace h := bnd_some h
            obtain ⟨w45, H44, hc, h⟩ := h
            replace q := gb_X9_goes q hc
            replace h := vl_c h
            obtain ⟨v46, h⟩ := h
            exact ih v7 v46 H44 q h
          · replace h := it_c h
            rcases h with h | h
            · replace h := bnd_some h
              obtain ⟨w31, H30, hc, h⟩ := h
              replace q := gb_X9_isDone q hc
              replace h := it_c h
              rcases h with h | h
              · replace h := hl_c (P := GB nr) (GB.sI q) h
                clear q
                obtain ⟨H33, q, h⟩ := h
                replace h := bnd_some h
                obtain ⟨w35, H34, hc, h⟩ := h
                replace q := gb_X9_allGo q hc
                exact ih v7 x4 H34 q h
              · replace h := it_c h
                rcases h with h | h
                · replace h := hl_c (P := GB nr) (GB.sI q) h
                  clear q
                  obtain ⟨H39, q, h⟩ := h
                  replace h := bnd_some h
                  obtain ⟨w41, H40, hc, h⟩ := h
                  replace q := gb_X9_allGo q hc
                  exact ih v7 x4 H40 q h
                · replace h := bnd_some h
                  obtain ⟨w38, H37, hc, h⟩ := h
                  replace q := gb_X9_comes q hc
                  exact ih v7 x4 H37 q h
            · replace h := it_c h
              rcases h with h | h
              · replace h := (gd_some h).2
                replace h := bnd_some h
                obtain ⟨w24, H23, hc, h⟩ := h
                replace q := gb_X9_ends q hc
                replace h := hl_c (P := GB nr) (GB.sI q) h
                clear q
                obtain ⟨H25, q, h⟩ := h
                replace h := it_c h
                rcases h with h | h
                · replace h := hl_c (P := GB nr) (GB.sI q) h
                  clear q
                  obtain ⟨H29, q, h⟩ := h
                  exact ih v7 x4 H29 q h
                · replace h := bnd_some h
                  obtain ⟨w28, H27, hc, h⟩ := h
                  replace q := gb_X9_goes q hc
                  exact ih v7 x4 H27 q h
              · replace h := (gd_some h).2
                replace h := bnd_some h
                obtain ⟨w19, H18, hc, h⟩ := h
                replace q := gb_X9_ends q hc
                replace h := hl_c (P := GB nr) (GB.sI q) h
                clear q
                obtain ⟨H20, q, h⟩ := h
                replace h := bnd_some h
                obtain ⟨w22, H21, hc, h⟩ := h
                replace q := gb_X9_allGo q hc
                exact ih v7 x4 H21 q h
      · exact hk x3 H q h
theorem gb_X9_go {nr : Nat}  {a1 : Int32} {a2 : Int32} {H : Hp} {res : Int32 × Hp} (q : GB nr H) (h : f_X9_go a1 a2 H = some res) : GB nr res.2 := by
  unfold f_X9_go at h
  replace h := hl_c (P := GB nr) (GB.sI q) h
  clear q
  obtain ⟨H1, q, h⟩ := h
  replace h := it_c h
  rcases h with h | h
  · cases h
    exact q
  · replace h := it_c h
    rcases h with h | h
    · cases h
      exact q
    · replace h := it_c h
      rcases h with h | h
      · refine gbL_X9_go_32 (fun z49 H50 q h => ?_) _ 0 0 H1 q h
        cases h
        exact q
      · cases h
        exact q
theorem gb_X9_run {nr : Nat}  {a1 : Int32} {H : Hp} {res : Int32 × Hp} (q : GB nr H) (h : f_X9_run a1 H = some res) : GB nr res.2 := by
  unfold f_X9_run at h
  replace h := hl_c (P := GB nr) (GB.sI q) h
  clear q
  obtain ⟨H1, q, h⟩ := h
  replace h := it_c h
  rcases h with h | h
  · cases h
    exact q
  · replace h := it_c h
    rcases h with h | h
    · cases h
      exact q
    · replace h := it_c h
      rcases h with h | h
      · cases h
        exact q
      · replace h := it_c h
        rcases h with h | h
        · replace h := it_c h
          rcases h with h | h
          · cases h
            exact q
          · replace h := (gd_some h).2
            cases h
            exact q
        · replace h := it_c h
          rcases h with h | h
          · replace h := it_c h
            rcases h with h | h
            · cases h
              exact q
            · replace h := (gd_some h).2
              cases h
              exact q
          · replace h := it_c h
            rcases h with h | h
            · cases h
              exact q
            · cases h
              exact q
theorem gbL_X9_isWay_41 {nr : Nat}  {b1 : Int32} {b2 : Int64} {k : Int32 → Int64 → Hp → Option (Int32 × Hp)} {res : Int32 × Hp} (hk : ∀ (z4 : Int32) (z5 : Int64) (H : Hp), GB nr H → k z4 z5 H = some res → GB nr res.2) : ∀ (n : Nat) (x4 : Int32) (x5 : Int64) (x7 : Int32) (H : Hp), GB nr H → L_X9_isWay_41 b1 b2 k n x4 x5 x7 H = some res → GB nr res.2 := by
  intro n
  induction n with
  | zero => intro x4 x5 x7 H q h; exact nomatch (show (none : Option (Int32 × Hp)) = some res from h)
  | succ n ih =>
    intro x4 x5 x7 H q h
    rw [L_X9_isWay_41] at h
    replace h := (gd_some h).2
    replace h := it_c h
    rcases h with h | h
    · exact hk x4 x5 H q h
    · replace h := (gd_some h).2
      replace h := vl_c h
      obtain ⟨v8, h⟩ := h
      replace h := it_c h
      rcases h with h | h
      · replace h := vl_c h
        obtain ⟨v10, h⟩ := h
        exact ih x4 x5 v10 H q h
      · replace h := it_c h
        rcases h with h | h
        · replace h := vl_c h
          obtain ⟨v12, h⟩ := h
          exact ih x4 x5 v12 H q h
        · replace h := (gd_some h).2
          replace h := it_c h
          rcases h with h | h
          · replace h := vl_c h
            obtain ⟨v14, h⟩ := h
            exact ih x4 x5 v14 H q h
          · replace h := vl_c h
            obtain ⟨v15, h⟩ := h
            replace h := vl_c h
            obtain ⟨v16, h⟩ := h
            exact ih x7 v15 v16 H q h
theorem gbL_X9_isWay_144 {nr : Nat}  {b1 : Int32} {b4 : Int32} {b5 : Int64} {k : Int32 → Hp → Option (Int32 × Hp)} {res : Int32 × Hp} (hk : ∀ (z8 : Int32) (H : Hp), GB nr H → k z8 H = some res → GB nr res.2) : ∀ (n : Nat) (x8 : Int32) (x9 : Int32) (H : Hp), GB nr H → L_X9_isWay_144 b1 b4 b5 k n x8 x9 H = some res → GB nr res.2 := by
  intro n
  induction n with
  | zero => intro x8 x9 H q h; exact nomatch (show (none : Option (Int32 × Hp)) = some res from h)
  | succ n ih =>
    intro x8 x9 H q h
    rw [L_X9_isWay_144] at h
    replace h := (gd_some h).2
    replace h := it_c h
    rcases h with h | h
    · exact hk x8 H q h
    · replace h := (gd_some h).2
      replace h := it_c h
      rcases h with h | h
      · replace h := (gd_some h).2
        replace h := it_c h
        rcases h with h | h
        · replace h := vl_c h
          obtain ⟨v27, h⟩ := h
          exact ih x8 v27 H q h
        · replace h := vl_c h
          obtain ⟨v28, h⟩ := h
          exact ih x9 v28 H q h
      · replace h := vl_c h
        obtain ⟨v25, h⟩ := h
        exact ih x8 v25 H q h
theorem gbL_X9_isWay_119 {nr : Nat}  {b1 : Int32} {k : Hp → Option (Int32 × Hp)} {res : Int32 × Hp} (hk : ∀ (H : Hp), GB nr H → k H = some res → GB nr res.2) : ∀ (n : Nat) (x4 : Int32) (x5 : Int64) (x7 : Int32) (H : Hp), GB nr H → L_X9_isWay_119 b1 k n x4 x5 x7 H = some res → GB nr res.2 := by
  intro n
  induction n with
  | zero => intro x4 x5 x7 H q h; exact nomatch (show (none : Option (Int32 × Hp)) = some res from h)
  | succ n ih =>
    intro x4 x5 x7 H q h
    rw [L_X9_isWay_119] at h
    replace h := it_c h
    rcases h with h | h
    · exact hk H q h
    · replace h := (gd_some h).2
      replace h := hl_c (P := GB nr) (GB.sI q) h
      clear q
      obtain ⟨H21, q, h⟩ := h
      replace h := vl_c h
      obtain ⟨v22, h⟩ := h
      refine gbL_X9_isWay_144 (fun z29 H30 q h => ?_) _ (-1) v22 H21 q h
      refine jn_c1 (P := GB nr) h (fun y32 H33 q h => ?_) (fun hj31 h => ?_)
      · replace h := (gd_some h).2
        replace h := hl_c (P := GB nr) (GB.sI q) h
        clear q
        obtain ⟨H34, q, h⟩ := h
        replace h := hl_c (P := GB nr) (GB.sI q) h
        clear q
        obtain ⟨H35, q, h⟩ := h
        refine jn_c1 (P := GB nr) h (fun y37 H38 q h => ?_) (fun hj36 h => ?_)
        · replace h := it_c h
          rcases h with h | h
          · exact ih x4 x5 y37 H38 q h
          · replace h := (gd_some h).2
            replace h := vl_c h
            obtain ⟨v40, h⟩ := h
            replace h := (gd_some h).2
            replace h := vl_c h
            obtain ⟨v41, h⟩ := h
            exact ih v41 v40 y37 H38 q h
        · replace h := it_c h
          rcases h with h | h
          · exact hj36 0 H35 q h
          · replace h := (gd_some h).2
            replace h := it_c h
            rcases h with h | h
            · exact hj36 1 H35 q h
            · exact hj36 0 H35 q h
      · replace h := it_c h
        rcases h with h | h
        · exact hj31 ((z29 - (40 * b1))) H30 q h
        · exact hj31 (-1) H30 q h
theorem gb_X9_isWay {nr : Nat}  {a1 : Int32} {a2 : Int64} {H : Hp} {res : Int32 × Hp} (q : GB nr H) (h : f_X9_isWay a1 a2 H = some res) : GB nr res.2 := by
  unfold f_X9_isWay at h
  replace h := hl_c (P := GB nr) (GB.sI q) h
  clear q
  obtain ⟨H1, q, h⟩ := h
  replace h := bnd_some h
  obtain ⟨w3, H2, hc, h⟩ := h
  replace q := gb_X9_isDone q hc
  replace h := it_c h
  rcases h with h | h
  · cases h
    exact q
  · replace h := it_c h
    rcases h with h | h
    · cases h
      exact q
    · replace h := (gd_some h).2
      replace h := it_c h
      rcases h with h | h
      · refine gbL_X9_isWay_41 (fun z17 z18 H19 q h => ?_) _ 0 a2 0 H2 q h
        refine gbL_X9_isWay_119 (fun H45 q h => ?_) _ z17 z18 1 H19 q h
        cases h
        exact q
      · cases h
        exact q
theorem gb_X9_way {nr : Nat}  {a1 : Int32} {a2 : Int64} {a3 : Int32} {H : Hp} {res : Int32 × Hp} (q : GB nr H) (h : f_X9_way a1 a2 a3 H = some res) : GB nr res.2 := by
  unfold f_X9_way at h
  replace h := hl_c (P := GB nr) (GB.sI q) h
  clear q
  obtain ⟨H1, q, h⟩ := h
  replace h := bnd_some h
  obtain ⟨w3, H2, hc, h⟩ := h
  replace q := gb_X9_isWay q hc
  replace h := it_c h
  rcases h with h | h
  · cases h
    exact q
  · replace h := it_c h
    rcases h with h | h
    · cases h
      exact q
    · replace h := it_c h
      rcases h with h | h
      · cases h
        exact q
      · replace h := (gd_some h).2
        cases h
        exact q
theorem gb_X9_along {nr : Nat}  {a1 : Int32} {a2 : Int64} {a3 : Int32} {H : Hp} {res : Int32 × Hp} (q : GB nr H) (h : f_X9_along a1 a2 a3 H = some res) : GB nr res.2 := by
  unfold f_X9_along at h
  replace h := hl_c (P := GB nr) (GB.sI q) h
  clear q
  obtain ⟨H1, q, h⟩ := h
  replace h := bnd_some h
  obtain ⟨w3, H2, hc, h⟩ := h
  replace q := gb_X9_isWay q hc
  replace h := it_c h
  rcases h with h | h
  · cases h
    exact q
  · replace h := it_c h
    rcases h with h | h
    · cases h
      exact q
    · replace h := it_c h
      rcases h with h | h
      · cases h
        exact q
      · replace h := (gd_some h).2
        cases h
        exact q
theorem gb_X9_table {nr : Nat}  {a1 : Int32} {a2 : Int32} {a3 : Int32} {H : Hp} {res : Int64 × Hp} (q : GB nr H) (h : f_X9_table a1 a2 a3 H = some res) : GB nr res.2 := by
  unfold f_X9_table at h
  replace h := hl_c (P := GB nr) (GB.sI q) h
  clear q
  obtain ⟨H1, q, h⟩ := h
  replace h := bnd_some h
  obtain ⟨w3, H2, hc, h⟩ := h
  replace q := gb_X9_isDone q hc
  replace h := it_c h
  rcases h with h | h
  · cases h
    exact q
  · replace h := it_c h
    rcases h with h | h
    · cases h
      exact q
    · replace h := (gd_some h).2
      replace h := it_c h
      rcases h with h | h
      · replace h := it_c h
        rcases h with h | h
        · replace h := (gd_some h).2
          cases h
          exact q
        · replace h := it_c h
          rcases h with h | h
          · replace h := (gd_some h).2
            cases h
            exact q
          · cases h
            exact q
      · cases h
        exact q
theorem gbL_X9_told_64 {nr : Nat}  {b1 : Int32} {b2 : Int32} {b5 : Int32} {k : Int64 → Hp → Option (Int64 × Hp)} {res : Int64 × Hp} (hk : ∀ (z3 : Int64) (H : Hp), GB nr H → k z3 H = some res → GB nr res.2) : ∀ (n : Nat) (x3 : Int64) (x7 : Int32) (H : Hp), GB nr H → L_X9_told_64 b1 b2 b5 k n x3 x7 H = some res → GB nr res.2 := by
  intro n
  induction n with
  | zero => intro x3 x7 H q h; exact nomatch (show (none : Option (Int64 × Hp)) = some res from h)
  | succ n ih =>
    intro x3 x7 H q h
    rw [L_X9_told_64] at h
    replace h := it_c h
    rcases h with h | h
    · exact hk x3 H q h
    · replace h := (gd_some h).2
      replace h := it_c h
      rcases h with h | h
      · replace h := (gd_some h).2
        replace h := vl_c h
        obtain ⟨v15, h⟩ := h
        replace h := vl_c h
        obtain ⟨v16, h⟩ := h
        exact ih v15 v16 H q h
      · replace h := vl_c h
        obtain ⟨v13, h⟩ := h
        replace h := vl_c h
        obtain ⟨v14, h⟩ := h
        exact ih v13 v14 H q h
theorem gbL_X9_told_31 {nr : Nat}  {b1 : Int32} {b2 : Int32} {k : Int64 → Hp → Option (Int64 × Hp)} {res : Int64 × Hp} (hk : ∀ (z3 : Int64) (H : Hp), GB nr H → k z3 H = some res → GB nr res.2) : ∀ (n : Nat) (x3 : Int64) (x5 : Int32) (H : Hp), GB nr H → L_X9_told_31 b1 b2 k n x3 x5 H = some res → GB nr res.2 := by
  intro n
  induction n with
  | zero => intro x3 x5 H q h; exact nomatch (show (none : Option (Int64 × Hp)) = some res from h)
  | succ n ih =>
    intro x3 x5 H q h
    rw [L_X9_told_31] at h
    replace h := (gd_some h).2
    replace h := it_c h
    rcases h with h | h
    · exact hk x3 H q h
    · replace h := (gd_some h).2
      replace h := bnd_some h
      obtain ⟨w10, H9, hc, h⟩ := h
      replace q := gb_X9_isWay q hc
      refine gbL_X9_told_64 (fun z17 H18 q h => ?_) _ x3 0 H9 q h
      replace h := vl_c h
      obtain ⟨v19, h⟩ := h
      exact ih z17 v19 H18 q h
theorem gb_X9_told {nr : Nat}  {a1 : Int32} {a2 : Int32} {H : Hp} {res : Int64 × Hp} (q : GB nr H) (h : f_X9_told a1 a2 H = some res) : GB nr res.2 := by
  unfold f_X9_told at h
  replace h := hl_c (P := GB nr) (GB.sI q) h
  clear q
  obtain ⟨H1, q, h⟩ := h
  replace h := bnd_some h
  obtain ⟨w3, H2, hc, h⟩ := h
  replace q := gb_X9_isDone q hc
  replace h := it_c h
  rcases h with h | h
  · cases h
    exact q
  · replace h := bnd_some h
    obtain ⟨w6, H5, hc, h⟩ := h
    replace q := gb_X9_isEdge q hc
    replace h := it_c h
    rcases h with h | h
    · cases h
      exact q
    · refine gbL_X9_told_31 (fun z20 H21 q h => ?_) _ 0 0 H5 q h
      cases h
      exact q
theorem gb_X9_blur {nr : Nat}  {a1 : Int32} {a2 : Int32} {a3 : Int32} {H : Hp} {res : Int32 × Hp} (q : GB nr H) (h : f_X9_blur a1 a2 a3 H = some res) : GB nr res.2 := by
  unfold f_X9_blur at h
  replace h := hl_c (P := GB nr) (GB.sI q) h
  clear q
  obtain ⟨H1, q, h⟩ := h
  replace h := bnd_some h
  obtain ⟨w3, H2, hc, h⟩ := h
  replace q := gb_X9_isEdge q hc
  replace h := it_c h
  rcases h with h | h
  · cases h
    exact q
  · replace h := it_c h
    rcases h with h | h
    · cases h
      exact q
    · replace h := it_c h
      rcases h with h | h
      · replace h := (gd_some h).2
        replace h := hl_c (P := GB nr) (GB.sI q) h
        clear q
        obtain ⟨H7, q, h⟩ := h
        cases h
        exact q
      · cases h
        exact q
theorem gb_X9_push {nr : Nat}  {a1 : Int32} {a2 : Int32} {a3 : Int64} {a4 : Int32} {H : Hp} {res : Unit × Hp} (q : GB nr H) (h : f_X9_push a1 a2 a3 a4 H = some res) : GB nr res.2 := by
  unfold f_X9_push at h
  replace h := (gd_some h).2
  replace h := hl_c (P := GB nr) (GB.sI q) h
  clear q
  obtain ⟨H1, q, h⟩ := h
  replace h := (gd_some h).2
  replace h := hl_c (P := GB nr) (GB.sI q) h
  clear q
  obtain ⟨H2, q, h⟩ := h
  replace h := (gd_some h).2
  replace h := hl_c (P := GB nr) (GB.sJ q) h
  clear q
  obtain ⟨H3, q, h⟩ := h
  replace h := (gd_some h).2
  replace h := hl_c (P := GB nr) (GB.sI q) h
  clear q
  obtain ⟨H4, q, h⟩ := h
  replace h := (gd_some h).2
  replace h := hl_c (P := GB nr) (GB.sI q) h
  clear q
  obtain ⟨H5, q, h⟩ := h
  replace h := (gd_some h).2
  replace h := hl_c (P := GB nr) (GB.sI q) h
  clear q
  obtain ⟨H6, q, h⟩ := h
  replace h := (gd_some h).2
  replace h := hl_c (P := GB nr) (GB.sJ q) h
  clear q
  obtain ⟨H7, q, h⟩ := h
  replace h := (gd_some h).2
  replace h := hl_c (P := GB nr) (GB.sI q) h
  clear q
  obtain ⟨H8, q, h⟩ := h
  replace h := hl_c (P := GB nr) (GB.sI q) h
  clear q
  obtain ⟨H9, q, h⟩ := h
  cases h
  exact q
theorem gbL_X9_mend_24 {nr : Nat}  {b1 : Int32} {k : Hp → Option (Int64 × Hp)} {res : Int64 × Hp} (hk : ∀ (H : Hp), GB nr H → k H = some res → GB nr res.2) : ∀ (n : Nat) (x2 : Int32) (H : Hp), GB nr H → L_X9_mend_24 b1 k n x2 H = some res → GB nr res.2 := by
  intro n
  induction n with
  | zero => intro x2 H q h; exact nomatch (show (none : Option (Int64 × Hp)) = some res from h)
  | succ n ih =>
    intro x2 H q h
    rw [L_X9_mend_24] at h
    replace h := it_c h
    rcases h with h | h
    · exact hk H q h
    · replace h := (gd_some h).2
      replace h := hl_c (P := GB nr) (GB.sJ q) h
      clear q
      obtain ⟨H7, q, h⟩ := h
      replace h := vl_c h
      obtain ⟨v8, h⟩ := h
      exact ih v8 H7 q h
theorem gbL_X9_mend_48 {nr : Nat}  {b1 : Int32} {k : Hp → Option (Int64 × Hp)} {res : Int64 × Hp} (hk : ∀ (H : Hp), GB nr H → k H = some res → GB nr res.2) : ∀ (n : Nat) (x2 : Int32) (H : Hp), GB nr H → L_X9_mend_48 b1 k n x2 H = some res → GB nr res.2 := by
  intro n
  induction n with
  | zero => intro x2 H q h; exact nomatch (show (none : Option (Int64 × Hp)) = some res from h)
  | succ n ih =>
    intro x2 H q h
    rw [L_X9_mend_48] at h
    replace h := (gd_some h).2
    replace h := it_c h
    rcases h with h | h
    · exact hk H q h
    · replace h := (gd_some h).2
      replace h := (gd_some h).2
      replace h := it_c h
      rcases h with h | h
      · replace h := vl_c h
        obtain ⟨v20, h⟩ := h
        exact ih v20 H q h
      · replace h := (gd_some h).2
        replace h := (gd_some h).2
        replace h := (gd_some h).2
        replace h := (gd_some h).2
        replace h := hl_c (P := GB nr) (GB.sJ q) h
        clear q
        obtain ⟨H13, q, h⟩ := h
        replace h := (gd_some h).2
        replace h := (gd_some h).2
        replace h := (gd_some h).2
        replace h := (gd_some h).2
        replace h := hl_c (P := GB nr) (GB.sJ q) h
        clear q
        obtain ⟨H14, q, h⟩ := h
        replace h := (gd_some h).2
        replace h := (gd_some h).2
        replace h := bnd_some h
        obtain ⟨w16, H15, hc, h⟩ := h
        replace q := gb_X9_push q hc
        replace h := (gd_some h).2
        replace h := (gd_some h).2
        replace h := (gd_some h).2
        replace h := bnd_some h
        obtain ⟨w18, H17, hc, h⟩ := h
        replace q := gb_X9_push q hc
        replace h := vl_c h
        obtain ⟨v19, h⟩ := h
        exact ih v19 H17 q h
theorem gbL_X9_mend_175 {nr : Nat}  {b1 : Int32} {k : Hp → Option (Int64 × Hp)} {res : Int64 × Hp} (hk : ∀ (H : Hp), GB nr H → k H = some res → GB nr res.2) : ∀ (n : Nat) (x2 : Int32) (H : Hp), GB nr H → L_X9_mend_175 b1 k n x2 H = some res → GB nr res.2 := by
  intro n
  induction n with
  | zero => intro x2 H q h; exact nomatch (show (none : Option (Int64 × Hp)) = some res from h)
  | succ n ih =>
    intro x2 H q h
    rw [L_X9_mend_175] at h
    replace h := (gd_some h).2
    replace h := it_c h
    rcases h with h | h
    · exact hk H q h
    · replace h := (gd_some h).2
      replace h := it_c h
      rcases h with h | h
      · replace h := bnd_some h
        obtain ⟨w26, H25, hc, h⟩ := h
        replace q := gb_X9_push q hc
        replace h := vl_c h
        obtain ⟨v27, h⟩ := h
        exact ih v27 H25 q h
      · replace h := vl_c h
        obtain ⟨v24, h⟩ := h
        exact ih v24 H q h
theorem gbL_X9_mend_241 {nr : Nat}  {b2 : Int64} {k : Hp → Option (Int64 × Hp)} {res : Int64 × Hp} (hk : ∀ (H : Hp), GB nr H → k H = some res → GB nr res.2) : ∀ (n : Nat) (x5 : Int32) (H : Hp), GB nr H → L_X9_mend_241 b2 k n x5 H = some res → GB nr res.2 := by
  intro n
  induction n with
  | zero => intro x5 H q h; exact nomatch (show (none : Option (Int64 × Hp)) = some res from h)
  | succ n ih =>
    intro x5 H q h
    rw [L_X9_mend_241] at h
    replace h := it_c h
    rcases h with h | h
    · exact hk H q h
    · replace h := (gd_some h).2
      replace h := it_c h
      rcases h with h | h
      · replace h := (gd_some h).2
        replace h := hl_c (P := GB nr) (GB.sI q) h
        clear q
        obtain ⟨H34, q, h⟩ := h
        replace h := (gd_some h).2
        replace h := hl_c (P := GB nr) (GB.sI q) h
        clear q
        obtain ⟨H35, q, h⟩ := h
        replace h := vl_c h
        obtain ⟨v36, h⟩ := h
        exact ih v36 H35 q h
      · replace h := (gd_some h).2
        replace h := hl_c (P := GB nr) (GB.sI q) h
        clear q
        obtain ⟨H37, q, h⟩ := h
        replace h := (gd_some h).2
        replace h := hl_c (P := GB nr) (GB.sI q) h
        clear q
        obtain ⟨H38, q, h⟩ := h
        replace h := vl_c h
        obtain ⟨v39, h⟩ := h
        exact ih v39 H38 q h
theorem gbL_X9_mend_301 {nr : Nat}  {b2 : Int64} {k : Int32 → Hp → Option (Int64 × Hp)} {res : Int64 × Hp} (hk : ∀ (z5 : Int32) (H : Hp), GB nr H → k z5 H = some res → GB nr res.2) : ∀ (n : Nat) (x5 : Int32) (x6 : Int32) (H : Hp), GB nr H → L_X9_mend_301 b2 k n x5 x6 H = some res → GB nr res.2 := by
  intro n
  induction n with
  | zero => intro x5 x6 H q h; exact nomatch (show (none : Option (Int64 × Hp)) = some res from h)
  | succ n ih =>
    intro x5 x6 H q h
    rw [L_X9_mend_301] at h
    replace h := it_c h
    rcases h with h | h
    · exact hk x5 H q h
    · replace h := (gd_some h).2
      replace h := it_c h
      rcases h with h | h
      · replace h := vl_c h
        obtain ⟨v44, h⟩ := h
        exact ih x5 v44 H q h
      · replace h := (gd_some h).2
        replace h := (gd_some h).2
        replace h := it_c h
        rcases h with h | h
        · replace h := vl_c h
          obtain ⟨v46, h⟩ := h
          exact ih x5 v46 H q h
        · replace h := (gd_some h).2
          replace h := (gd_some h).2
          replace h := (gd_some h).2
          replace h := (gd_some h).2
          replace h := (gd_some h).2
          replace h := it_c h
          rcases h with h | h
          · replace h := (gd_some h).2
            replace h := (gd_some h).2
            replace h := (gd_some h).2
            replace h := (gd_some h).2
            replace h := (gd_some h).2
            replace h := hl_c (P := GB nr) (GB.sI q) h
            clear q
            obtain ⟨H48, q, h⟩ := h
            replace h := (gd_some h).2
            replace h := (gd_some h).2
            replace h := hl_c (P := GB nr) (GB.sI q) h
            clear q
            obtain ⟨H49, q, h⟩ := h
            replace h := vl_c h
            obtain ⟨v50, h⟩ := h
            exact ih 1 v50 H49 q h
          · replace h := vl_c h
            obtain ⟨v51, h⟩ := h
            exact ih x5 v51 H q h
theorem gbL_X9_mend_290 {nr : Nat}  {b2 : Int64} {k : Hp → Option (Int64 × Hp)} {res : Int64 × Hp} (hk : ∀ (H : Hp), GB nr H → k H = some res → GB nr res.2) : ∀ (n : Nat) (x5 : Int32) (H : Hp), GB nr H → L_X9_mend_290 b2 k n x5 H = some res → GB nr res.2 := by
  intro n
  induction n with
  | zero => intro x5 H q h; exact nomatch (show (none : Option (Int64 × Hp)) = some res from h)
  | succ n ih =>
    intro x5 H q h
    rw [L_X9_mend_290] at h
    replace h := it_c h
    rcases h with h | h
    · exact hk H q h
    · refine gbL_X9_mend_301 (fun z52 H53 q h => ?_) _ 0 0 H q h
      exact ih z52 H53 q h
theorem gbL_X9_mend_441 {nr : Nat}  {b2 : Int64} {k : Int32 → Hp → Option (Int64 × Hp)} {res : Int64 × Hp} (hk : ∀ (z6 : Int32) (H : Hp), GB nr H → k z6 H = some res → GB nr res.2) : ∀ (n : Nat) (x6 : Int32) (x7 : Int32) (H : Hp), GB nr H → L_X9_mend_441 b2 k n x6 x7 H = some res → GB nr res.2 := by
  intro n
  induction n with
  | zero => intro x6 x7 H q h; exact nomatch (show (none : Option (Int64 × Hp)) = some res from h)
  | succ n ih =>
    intro x6 x7 H q h
    rw [L_X9_mend_441] at h
    replace h := it_c h
    rcases h with h | h
    · exact hk x6 H q h
    · replace h := (gd_some h).2
      replace h := it_c h
      rcases h with h | h
      · replace h := vl_c h
        obtain ⟨v57, h⟩ := h
        exact ih x6 v57 H q h
      · replace h := (gd_some h).2
        replace h := it_c h
        rcases h with h | h
        · replace h := vl_c h
          obtain ⟨v59, h⟩ := h
          exact ih x6 v59 H q h
        · replace h := it_c h
          rcases h with h | h
          · replace h := vl_c h
            obtain ⟨v61, h⟩ := h
            exact ih x7 v61 H q h
          · replace h := (gd_some h).2
            replace h := (gd_some h).2
            replace h := it_c h
            rcases h with h | h
            · replace h := vl_c h
              obtain ⟨v63, h⟩ := h
              exact ih x6 v63 H q h
            · replace h := vl_c h
              obtain ⟨v64, h⟩ := h
              exact ih x7 v64 H q h
theorem gbL_X9_mend_538 {nr : Nat}  {b2 : Int64} {b4 : Int32} {b6 : Int32} {k : Int64 → Int32 → Hp → Option (Int64 × Hp)} {res : Int64 × Hp} (hk : ∀ (z7 : Int64) (z9 : Int32) (H : Hp), GB nr H → k z7 z9 H = some res → GB nr res.2) : ∀ (n : Nat) (x7 : Int64) (x9 : Int32) (H : Hp), GB nr H → L_X9_mend_538 b2 b4 b6 k n x7 x9 H = some res → GB nr res.2 := by
  intro n
  induction n with
  | zero => intro x7 x9 H q h; exact nomatch (show (none : Option (Int64 × Hp)) = some res from h)
  | succ n ih =>
    intro x7 x9 H q h
    rw [L_X9_mend_538] at h
    replace h := (gd_some h).2
    replace h := it_c h
    rcases h with h | h
    · exact hk x7 x9 H q h
    · replace h := (gd_some h).2
      replace h := (gd_some h).2
      refine jn_c1 (P := GB nr) h (fun y74 H75 q h => ?_) (fun hj73 h => ?_)
      · replace h := (gd_some h).2
        replace h := (gd_some h).2
        replace h := vl_c h
        obtain ⟨v76, h⟩ := h
        exact ih y74 v76 H75 q h
      · replace h := it_c h
        rcases h with h | h
        · exact hj73 x7 H q h
        · replace h := (gd_some h).2
          replace h := (gd_some h).2
          exact hj73 ((gJ H 0 50 (Int32.toNatClampNeg (gI H 0 55 (Int32.toNatClampNeg x9))))) H q h
theorem gbL_X9_mend_671 {nr : Nat}  {b2 : Int64} {b4 : Int32} {b7 : Int64} {k : Hp → Option (Int64 × Hp)} {res : Int64 × Hp} (hk : ∀ (H : Hp), GB nr H → k H = some res → GB nr res.2) : ∀ (n : Nat) (x9 : Int32) (H : Hp), GB nr H → L_X9_mend_671 b2 b4 b7 k n x9 H = some res → GB nr res.2 := by
  intro n
  induction n with
  | zero => intro x9 H q h; exact nomatch (show (none : Option (Int64 × Hp)) = some res from h)
  | succ n ih =>
    intro x9 H q h
    rw [L_X9_mend_671] at h
    replace h := (gd_some h).2
    replace h := it_c h
    rcases h with h | h
    · exact hk H q h
    · replace h := (gd_some h).2
      replace h := vl_c h
      obtain ⟨v88, h⟩ := h
      replace h := (gd_some h).2
      replace h := (gd_some h).2
      replace h := hl_c (P := GB nr) (GB.sJ q) h
      clear q
      obtain ⟨H89, q, h⟩ := h
      replace h := (gb_some h).2
      refine jn_c1 (P := GB nr) h (fun y91 H92 q h => ?_) (fun hj90 h => ?_)
      · replace h := (gd_some h).2
        replace h := (gd_some h).2
        replace h := hl_c (P := GB nr) (GB.sJ q) h
        clear q
        obtain ⟨H93, q, h⟩ := h
        replace h := (gd_some h).2
        replace h := vl_c h
        obtain ⟨v94, h⟩ := h
        exact ih v94 H93 q h
      · replace h := it_c h
        rcases h with h | h
        · exact hj90 ((v88 + 1)) H89 q h
        · exact hj90 ((v88 - 1)) H89 q h
theorem gbL_X9_mend_233 {nr : Nat}  {k : Int64 → Hp → Option (Int64 × Hp)} {res : Int64 × Hp} (hk : ∀ (z2 : Int64) (H : Hp), GB nr H → k z2 H = some res → GB nr res.2) : ∀ (n : Nat) (x2 : Int64) (x4 : Int32) (H : Hp), GB nr H → L_X9_mend_233 k n x2 x4 H = some res → GB nr res.2 := by
  intro n
  induction n with
  | zero => intro x2 x4 H q h; exact nomatch (show (none : Option (Int64 × Hp)) = some res from h)
  | succ n ih =>
    intro x2 x4 H q h
    rw [L_X9_mend_233] at h
    replace h := it_c h
    rcases h with h | h
    · exact hk x2 H q h
    · refine gbL_X9_mend_241 (fun H40 q h => ?_) _ 0 H q h
      refine gbL_X9_mend_290 (fun H54 q h => ?_) _ 1 H40 q h
      refine gbL_X9_mend_441 (fun z65 H66 q h => ?_) _ (-1) 0 H54 q h
      refine jn_c1 (P := GB nr) h (fun y68 H69 q h => ?_) (fun hj67 h => ?_)
      · replace h := it_c h
        rcases h with h | h
        · exact ih x2 y68 H69 q h
        · replace h := (gd_some h).2
          replace h := vl_c h
          obtain ⟨v71, h⟩ := h
          refine gbL_X9_mend_538 (fun z78 z79 H80 q h => ?_) _ v71 z65 H69 q h
          replace h := (gd_some h).2
          refine jn_c1 (P := GB nr) h (fun y82 H83 q h => ?_) (fun hj81 h => ?_)
          · replace h := (gd_some h).2
            replace h := vl_c h
            obtain ⟨v84, h⟩ := h
            replace h := (gd_some h).2
            replace h := (gd_some h).2
            replace h := hl_c (P := GB nr) (GB.sJ q) h
            clear q
            obtain ⟨H85, q, h⟩ := h
            replace h := (gd_some h).2
            replace h := (gd_some h).2
            replace h := hl_c (P := GB nr) (GB.sJ q) h
            clear q
            obtain ⟨H86, q, h⟩ := h
            refine gbL_X9_mend_671 (fun H96 q h => ?_) _ z65 H86 q h
            exact ih v84 y68 H96 q h
          · replace h := it_c h
            rcases h with h | h
            · exact hj81 z78 H80 q h
            · replace h := (gd_some h).2
              exact hj81 ((gJ H80 0 53 (Int32.toNatClampNeg z79))) H80 q h
      · replace h := it_c h
        rcases h with h | h
        · exact hj67 0 H66 q h
        · exact hj67 1 H66 q h
theorem gb_X9_mend {nr : Nat}  {a1 : Int32} {H : Hp} {res : Int64 × Hp} (q : GB nr H) (h : f_X9_mend a1 H = some res) : GB nr res.2 := by
  unfold f_X9_mend at h
  replace h := hl_c (P := GB nr) (GB.sI q) h
  clear q
  obtain ⟨H1, q, h⟩ := h
  replace h := bnd_some h
  obtain ⟨w3, H2, hc, h⟩ := h
  replace q := gb_X9_isDone q hc
  replace h := it_c h
  rcases h with h | h
  · cases h
    exact q
  · replace h := hl_c (P := GB nr) (GB.sI q) h
    clear q
    obtain ⟨H5, q, h⟩ := h
    refine gbL_X9_mend_24 (fun H9 q h => ?_) _ 0 H5 q h
    replace h := vl_c h
    obtain ⟨v10, h⟩ := h
    refine gbL_X9_mend_48 (fun H21 q h => ?_) _ v10 H9 q h
    refine gbL_X9_mend_175 (fun H28 q h => ?_) _ 0 H21 q h
    replace h := bnd_some h
    obtain ⟨w30, H29, hc, h⟩ := h
    replace q := gb_X9_push q hc
    refine gbL_X9_mend_233 (fun z99 H100 q h => ?_) _ 0 1 H29 q h
    cases h
    exact q
