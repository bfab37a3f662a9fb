/-- what holds between two calls -/
def IV (nr : Nat) (H : Hp) : Prop := Rel nr H ∧ GB nr H ∧ FR nr H
theorem RR_ch {rs : Nat → Bool} {L : List (Nat × Nat × Option Nat)} {nr : Nat} {H H' : Hp} (h : RR nr H) (q : Ch rs L H H') (h0 : nol L 0 [(0, some 0)] = true) (h1 : nol L 1 [(0, some 3), (1, none)] = true) : RR nr H' := by
  obtain ⟨a1, a2, a3, a4, a5⟩ := h
  refine ⟨a1, ?_, ?_, fun i hi => ?_, fun i hi hj => ?_⟩
  · rw [(q.m h0 (k := 0) (o := some 0) (by simp) rfl).1]; exact a2
  · rw [(q.w h1 (k := 0) (o := some 3) (by simp) rfl).1]; exact a3
  · rw [(q.w h1 (k := 1) (o := none) (by simp) rfl).2.2]; exact a4 i hi
  · rw [(q.w h1 (k := 1) (o := none) (by simp) rfl).2.2]; exact a5 i hi hj
theorem iv_block {nr : Nat} {H : Hp} (h : IV nr H) (a b c : Int32) : ∃ v H1 H2, f_X8_block nr a b c H = some (v, H1) ∧ f_X9_block a b c H1 = some (v, H2) ∧ IV nr H2 := by
  obtain ⟨v, H1, e1, y, H2, e2, rfl, hR⟩ := eq_block h.1 a b c
  have q1 := ch_X8_block (Ch.rf H) e1
  exact ⟨y, H1, H2, e1, e2, hR, gb_X9_block (gb_X8_block h.2.1 e1) e2, fr_X9_block (RR_ch h.1.1 q1 rfl rfl) (FR_ch h.2.2 q1 rfl) e2⟩
theorem iv_edge {nr : Nat} {H : Hp} (h : IV nr H) (a b c d : Int32) (k : Bool) : ∃ v H1 H2, f_X8_edge nr a b c d (bI k) H = some (v, H1) ∧ f_X9_edge a b c d (bI k) H1 = some (v, H2) ∧ IV nr H2 := by
  obtain ⟨v, H1, e1, y, H2, e2, rfl, hR⟩ := eq_edge h.1 a b c d k
  have q1 := ch_X8_edge (Ch.rf H) e1
  exact ⟨y, H1, H2, e1, e2, hR, gb_X9_edge (gb_X8_edge h.2.1 e1) e2, fr_X9_edge (RR_ch h.1.1 q1 rfl rfl) (FR_ch h.2.2 q1 rfl) e2⟩
theorem iv_guess {nr : Nat} {H : Hp} (h : IV nr H) (a b c : Int32) : ∃ v H1 H2, f_X8_guess nr a b c H = some (v, H1) ∧ f_X9_guess a b c H1 = some (v, H2) ∧ IV nr H2 := by
  obtain ⟨v, H1, e1, y, H2, e2, rfl, hR⟩ := eq_guess h.1 a b c
  have q1 := ch_X8_guess (Ch.rf H) e1
  exact ⟨y, H1, H2, e1, e2, hR, gb_X9_guess (gb_X8_guess h.2.1 e1) e2, FR_ch (FR_ch h.2.2 q1 rfl) (ch_X9_guess (Ch.rf _) e2) rfl⟩
theorem iv_finish {nr : Nat} {H : Hp} (h : IV nr H) (a : Int32) : ∃ v H1 H2, f_X8_finish nr a H = some (v, H1) ∧ f_X9_finish a H1 = some (v, H2) ∧ IV nr H2 := by
  obtain ⟨v, H1, e1, y, H2, e2, rfl, hR⟩ := eq_finish h.1 a
  have q1 := ch_X8_finish (Ch.rf H) e1
  exact ⟨y, H1, H2, e1, e2, hR, gb_X9_finish (gb_X8_finish h.2.1 e1) e2, fr_X9_finish (RR_ch h.1.1 q1 rfl rfl) (FR_ch h.2.2 q1 rfl) e2⟩
theorem iv_plan {nr : Nat} {H : Hp} (h : IV nr H) (a : Int32) : ∃ v H1 H2, f_X8_plan nr a H = some (v, H1) ∧ f_X9_plan a H1 = some (v, H2) ∧ IV nr H2 := by
  obtain ⟨v, H1, e1, y, H2, e2, rfl, hR⟩ := eq_plan h.1 a
  have q1 := ch_X8_plan (Ch.rf H) e1
  exact ⟨y, H1, H2, e1, e2, hR, gb_X9_plan (gb_X8_plan h.2.1 e1) e2, FR_ch (FR_ch h.2.2 q1 rfl) (ch_X9_plan (Ch.rf _) e2) rfl⟩
theorem iv_solve {nr : Nat} {H : Hp} (h : IV nr H) (a c : Int32) : ∃ v H1 H2, f_X8_solve nr a c H = some (v, H1) ∧ f_X9_solve a c H1 = some (v, H2) ∧ IV nr H2 := by
  obtain ⟨v, H1, e1, y, H2, e2, rfl, hR⟩ := eq_solve h.1 a c
  have q1 := ch_X8_solve (Ch.rf H) e1
  exact ⟨y, H1, H2, e1, e2, hR, gb_X9_solve (gb_X8_solve h.2.1 e1) e2, FR_ch (FR_ch h.2.2 q1 rfl) (ch_X9_solve (Ch.rf _) e2) rfl⟩
theorem iv_ring {nr : Nat} {H : Hp} (h : IV nr H) (a b c : Int32) : ∃ v H1 H2, f_X8_ring nr a b c H = some (v, H1) ∧ f_X9_ring a b c H1 = some (v, H2) ∧ IV nr H2 := by
  obtain ⟨v, H1, e1, y, H2, e2, rfl, hR⟩ := eq_ring h.1 a b c
  have q1 := ch_X8_ring (Ch.rf H) e1
  exact ⟨y, H1, H2, e1, e2, hR, gb_X9_ring (gb_X8_ring h.2.1 e1) e2, FR_ch (FR_ch h.2.2 q1 rfl) (ch_X9_ring (Ch.rf _) e2) rfl⟩
theorem iv_begin {nr : Nat} {H : Hp} (h : IV nr H) (a : Int32) : ∃ v H1 H2, f_X8_begin nr a H = some (v, H1) ∧ f_X9_begin a H1 = some (v, H2) ∧ IV nr H2 := by
  obtain ⟨v, H1, e1, y, H2, e2, rfl, hR⟩ := eq_begin h.1 a
  have q1 := ch_X8_begin (Ch.rf H) e1
  exact ⟨y, H1, H2, e1, e2, hR, gb_X9_begin (gb_X8_begin h.2.1 e1) e2, FR_ch (FR_ch h.2.2 q1 rfl) (ch_X9_begin (Ch.rf _) e2) rfl⟩
theorem iv_go {nr : Nat} {H : Hp} (h : IV nr H) (a c : Int32) : ∃ v H1 H2, f_X8_go nr a c H = some (v, H1) ∧ f_X9_go a c H1 = some (v, H2) ∧ IV nr H2 := by
  obtain ⟨v, H1, e1, y, H2, e2, rfl, hR⟩ := eq_go h.1 a c
  have q1 := ch_X8_go (Ch.rf H) e1
  exact ⟨y, H1, H2, e1, e2, hR, gb_X9_go (gb_X8_go h.2.1 e1) e2, FR_ch (FR_ch h.2.2 q1 rfl) (ch_X9_go (Ch.rf _) e2) rfl⟩
theorem iv_run {nr : Nat} {H : Hp} (h : IV nr H) (a : Int32) : ∃ v H1 H2, f_X8_run nr a H = some (v, H1) ∧ f_X9_run a H1 = some (v, H2) ∧ IV nr H2 := by
  obtain ⟨v, H1, e1, y, H2, e2, rfl, hR⟩ := eq_run' h.1 a
  have q1 := ch_X8_run (Ch.rf H) e1
  exact ⟨y, H1, H2, e1, e2, hR, gb_X9_run (gb_X8_run h.2.1 e1) e2, FR_ch (FR_ch h.2.2 q1 rfl) (ch_X9_run (Ch.rf _) e2) rfl⟩
theorem iv_way {nr : Nat} {H : Hp} (h : IV nr H) (a : Int32) (l : Int64) (c : Int32) : ∃ v H1 H2, f_X8_way nr a l c H = some (v, H1) ∧ f_X9_way a l c H1 = some (v, H2) ∧ IV nr H2 := by
  obtain ⟨v, H1, e1, y, H2, e2, rfl, hR⟩ := eq_way h.1 a l c
  have q1 := ch_X8_way (Ch.rf H) e1
  exact ⟨y, H1, H2, e1, e2, hR, gb_X9_way (gb_X8_way h.2.1 e1) e2, FR_ch (FR_ch h.2.2 q1 rfl) (ch_X9_way (Ch.rf _) e2) rfl⟩
theorem iv_along {nr : Nat} {H : Hp} (h : IV nr H) (a : Int32) (l : Int64) (c : Int32) : ∃ v H1 H2, f_X8_along nr a l c H = some (v, H1) ∧ f_X9_along a l c H1 = some (v, H2) ∧ IV nr H2 := by
  obtain ⟨v, H1, e1, y, H2, e2, rfl, hR⟩ := eq_along h.1 a l c
  have q1 := ch_X8_along (Ch.rf H) e1
  exact ⟨y, H1, H2, e1, e2, hR, gb_X9_along (gb_X8_along h.2.1 e1) e2, FR_ch (FR_ch h.2.2 q1 rfl) (ch_X9_along (Ch.rf _) e2) rfl⟩
theorem iv_table {nr : Nat} {H : Hp} (h : IV nr H) (a b c : Int32) : ∃ v H1 H2, f_X8_table nr a b c H = some (v, H1) ∧ f_X9_table a b c H1 = some (v, H2) ∧ IV nr H2 := by
  obtain ⟨v, H1, e1, y, H2, e2, rfl, hR⟩ := eq_table' h.1 a b c
  have q1 := ch_X8_table (Ch.rf H) e1
  exact ⟨y, H1, H2, e1, e2, hR, gb_X9_table (gb_X8_table h.2.1 e1) e2, FR_ch (FR_ch h.2.2 q1 rfl) (ch_X9_table (Ch.rf _) e2) rfl⟩
theorem iv_told {nr : Nat} {H : Hp} (h : IV nr H) (a c : Int32) : ∃ v H1 H2, f_X8_told nr a c H = some (v, H1) ∧ f_X9_told a c H1 = some (v, H2) ∧ IV nr H2 := by
  obtain ⟨v, H1, e1, y, H2, e2, rfl, hR⟩ := eq_told h.1 a c
  have q1 := ch_X8_told (Ch.rf H) e1
  exact ⟨y, H1, H2, e1, e2, hR, gb_X9_told (gb_X8_told h.2.1 e1) e2, FR_ch (FR_ch h.2.2 q1 rfl) (ch_X9_told (Ch.rf _) e2) rfl⟩
theorem iv_blur {nr : Nat} {H : Hp} (h : IV nr H) (a b c : Int32) : ∃ v H1 H2, f_X8_blur nr a b c H = some (v, H1) ∧ f_X9_blur a b c H1 = some (v, H2) ∧ IV nr H2 := by
  obtain ⟨v, H1, e1, y, H2, e2, rfl, hR⟩ := eq_blur h.1 a b c
  have q1 := ch_X8_blur (Ch.rf H) e1
  exact ⟨y, H1, H2, e1, e2, hR, gb_X9_blur (gb_X8_blur h.2.1 e1) e2, FR_ch (FR_ch h.2.2 q1 rfl) (ch_X9_blur (Ch.rf _) e2) rfl⟩
theorem iv_look {nr : Nat} {H : Hp} (h : IV nr H) (a b : Int32) : (∃ v H2, f_X8_look nr a b H = some (v, H) ∧ f_X9_look a b (sJ H 1 11 0 v) = some (v, H2) ∧ gI H2 0 0 34 = nI 0 ∧ gJ H2 1 11 0 = v ∧ IV nr H2) ∨ (∃ k x H2, (k = 1 ∨ k = 2) ∧ f_X8_look_t nr a b H = some (k, H) ∧ f_X9_look a b H = some (x, H2) ∧ gI H2 0 0 34 = nI k ∧ IV nr H2) := by
  rcases eq_look h.1 a b with ⟨v, e1, y, H2, e2, rfl, p1, p2, hR⟩ | ⟨k, hk, e1, y, H2, e2, p1, hR⟩
  · have hF : FR nr (sJ H 1 11 0 y) := FR_ch (rs := TT) (L := [(1, 11, none)]) h.2.2 (Ch.sJ rfl rfl (Ch.rf H)) rfl
    exact Or.inl ⟨y, H2, e1, e2, p1, p2, hR, gb_X9_look (GB.sJ h.2.1) e2, FR_ch hF (ch_X9_look (Ch.rf _) e2) rfl⟩
  · exact Or.inr ⟨k, y, H2, hk, e1, e2, p1, hR, gb_X9_look h.2.1 e2, FR_ch h.2.2 (ch_X9_look (Ch.rf _) e2) rfl⟩
theorem iv_ofEdge {nr : Nat} {H : Hp} (h : IV nr H) (a b c : Int32) : (∃ v H2, f_X8_ofEdge nr a b c H = some (v, H) ∧ f_X9_ofEdge a b c (sJ H 1 11 0 v) = some (v, H2) ∧ gI H2 0 0 34 = nI 0 ∧ gJ H2 1 11 0 = v ∧ IV nr H2) ∨ (∃ k x H2, (k = 1 ∨ k = 2) ∧ f_X8_ofEdge_t nr a b c H = some (k, H) ∧ f_X9_ofEdge a b c H = some (x, H2) ∧ gI H2 0 0 34 = nI k ∧ IV nr H2) := by
  rcases eq_ofEdge h.1 a b c with ⟨v, e1, y, H2, e2, rfl, p1, p2, hR⟩ | ⟨k, hk, e1, y, H2, e2, p1, hR⟩
  · have hF : FR nr (sJ H 1 11 0 y) := FR_ch (rs := TT) (L := [(1, 11, none)]) h.2.2 (Ch.sJ rfl rfl (Ch.rf H)) rfl
    exact Or.inl ⟨y, H2, e1, e2, p1, p2, hR, gb_X9_ofEdge (GB.sJ h.2.1) e2, FR_ch hF (ch_X9_ofEdge (Ch.rf _) e2) rfl⟩
  · exact Or.inr ⟨k, y, H2, hk, e1, e2, p1, hR, gb_X9_ofEdge h.2.1 e2, FR_ch h.2.2 (ch_X9_ofEdge (Ch.rf _) e2) rfl⟩
theorem iv_ofBlock {nr : Nat} {H : Hp} (h : IV nr H) (a b c : Int32) : (∃ v H2, f_X8_ofBlock nr a b c H = some (v, H) ∧ f_X9_ofBlock a b c (sJ H 1 11 0 v) = some (v, H2) ∧ gI H2 0 0 34 = nI 0 ∧ gJ H2 1 11 0 = v ∧ IV nr H2) ∨ (∃ k x H2, (k = 1 ∨ k = 2) ∧ f_X8_ofBlock_t nr a b c H = some (k, H) ∧ f_X9_ofBlock a b c H = some (x, H2) ∧ gI H2 0 0 34 = nI k ∧ IV nr H2) := by
  rcases eq_ofBlock h.1 a b c with ⟨v, e1, y, H2, e2, rfl, p1, p2, hR⟩ | ⟨k, hk, e1, y, H2, e2, p1, hR⟩
  · have hF : FR nr (sJ H 1 11 0 y) := FR_ch (rs := TT) (L := [(1, 11, none)]) h.2.2 (Ch.sJ rfl rfl (Ch.rf H)) rfl
    exact Or.inl ⟨y, H2, e1, e2, p1, p2, hR, gb_X9_ofBlock (GB.sJ h.2.1) e2, FR_ch hF (ch_X9_ofBlock (Ch.rf _) e2) rfl⟩
  · exact Or.inr ⟨k, y, H2, hk, e1, e2, p1, hR, gb_X9_ofBlock h.2.1 e2, FR_ch h.2.2 (ch_X9_ofBlock (Ch.rf _) e2) rfl⟩
theorem iv_routine {nr : Nat} {H : Hp} (h : IV nr H) (h8 : nr < 8) : ∃ H2, f_X9_routine (Hrt H nr) = some (nI nr, H2) ∧ gI H 1 0 3 = nI nr ∧ IV (nr + 1) H2 := by
  obtain ⟨y, H2, e, rfl, h1, h2, h3⟩ := eq_routine h.1 h.2.1 h.2.2 h8
  exact ⟨H2, e, h.1.1.2.2.1, h1, h2, h3⟩
theorem iv_routine8 {H : Hp} (h : IV 8 H) : ∃ H2, f_X9_routine H = some (-1, H2) ∧ gI H 1 0 3 = 8 ∧ IV 8 H2 := by
  obtain ⟨e8, y, H2, e, rfl, rfl, hR⟩ := eq_routine8 h.1
  exact ⟨_, e, e8, hR, GB.sI h.2.1, FR_34 h.2.2⟩
