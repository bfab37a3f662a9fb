def kd0 : Nat → Nat × Nat := fun k => match k with
  | 0 => (13, 0)
  | 1 => (0, 8)
  | 2 => (0, 8)
  | 3 => (2, 8)
  | 4 => (0, 160)
  | 5 => (0, 160)
  | 6 => (0, 320)
  | 7 => (0, 320)
  | 8 => (0, 320)
  | 9 => (2, 320)
  | 10 => (0, 320)
  | 11 => (2, 320)
  | 12 => (1, 8)
  | 13 => (0, 8)
  | 14 => (1, 8)
  | 15 => (1, 160)
  | 16 => (1, 160)
  | 17 => (1, 320)
  | 18 => (1, 160)
  | 19 => (1, 8)
  | 20 => (1, 8)
  | 21 => (1, 160)
  | 22 => (1, 320)
  | 23 => (1, 320)
  | 24 => (0, 8)
  | 25 => (1, 128)
  | 26 => (1, 128)
  | 31 => (0, 30)
  | 32 => (0, 30)
  | 33 => (1, 30)
  | 35 => (2, 21)
  | 36 => (0, 21)
  | 37 => (2, 40)
  | 38 => (2, 40)
  | 39 => (0, 61)
  | 40 => (0, 61)
  | 41 => (1, 61)
  | 42 => (2, 61)
  | 44 => (0, 21)
  | 45 => (0, 21)
  | 46 => (0, 21)
  | 48 => (0, 320)
  | 49 => (0, 320)
  | 50 => (1, 320)
  | 51 => (0, 320)
  | 53 => (1, 21)
  | 54 => (0, 21)
  | 55 => (0, 21)
  | _ => (0, 0)
def kd1 : Nat → Nat × Nat := fun k => match k with
  | 0 => (12, 0)
  | 1 => (3, 8)
  | 2 => (10, 0)
  | 3 => (5, 0)
  | 4 => (3, 30)
  | 5 => (0, 30)
  | 6 => (1, 30)
  | 7 => (0, 61)
  | 8 => (0, 21)
  | 9 => (0, 21)
  | 10 => (0, 21)
  | 11 => (1, 1)
  | _ => (0, 0)
def kd2 : Nat → Nat × Nat := fun k => match k with
  | 0 => (6, 0)
  | 1 => (7, 0)
  | 2 => (11, 0)
  | 3 => (9, 0)
  | 4 => (4, 0)
  | 5 => (8, 0)
  | 6 => (0, 40)
  | 7 => (1, 20)
  | 8 => (0, 20)
  | 9 => (0, 20)
  | 10 => (0, 20)
  | 11 => (0, 20)
  | 12 => (0, 80)
  | 13 => (0, 61)
  | 14 => (0, 61)
  | 15 => (0, 40)
  | 16 => (2, 40)
  | 17 => (2, 20)
  | 18 => (1, 20)
  | 19 => (1, 20)
  | 20 => (1, 20)
  | 21 => (1, 40)
  | 22 => (1, 40)
  | 23 => (0, 20)
  | 24 => (0, 20)
  | 25 => (0, 20)
  | 26 => (0, 40)
  | 27 => (2, 61)
  | 28 => (0, 21)
  | 29 => (0, 21)
  | 30 => (0, 21)
  | 31 => (2, 21)
  | 32 => (1, 21)
  | 33 => (1, 61)
  | 34 => (1, 40)
  | 35 => (1, 40)
  | 36 => (1, 20)
  | 37 => (1, 16)
  | 38 => (1, 16)
  | _ => (0, 0)
def kd (g k : Nat) : Nat × Nat := match g with
  | 0 => kd0 k
  | 1 => kd1 k
  | _ + 2 => kd2 k
def nmg0 : List Nat := [0, 1, 2, 3, 4, 5, 6, 7, 8, 9, 10, 11, 12, 13, 14, 15, 16, 17, 18, 19, 20, 21, 22, 23, 24, 25, 26, 31, 32, 33, 35, 36, 37, 38, 39, 40, 41, 42, 44, 45, 46, 48, 49, 50, 51, 53, 54, 55]
def nmg1 : List Nat := [0, 1, 2, 3, 4, 5, 6, 7, 8, 9, 10, 11]
def nmg2 : List Nat := [0, 1, 2, 3, 4, 5, 6, 7, 8, 9, 10, 11, 12, 13, 14, 15, 16, 17, 18, 19, 20, 21, 22, 23, 24, 25, 26, 27, 28, 29, 30, 31, 32, 33, 34, 35, 36, 37, 38]
def nms (nr : Nat) : List (Nat × Nat) := nmg0.map (fun k => (0, k)) ++ (nmg1.map (fun k => (1, k)) ++ (List.range nr).flatMap (fun r => nmg2.map (fun k => (r + 2, k))))
def okn (nr g k : Nat) : Bool := match g with
  | 0 => nmg0.contains k
  | 1 => nmg1.contains k
  | r + 2 => decide (r < nr) && nmg2.contains k
def rf1 (k j : Nat) : Nat := match k with
  | 0 => j + 1
  | 2 => j + 4
  | _ => j + 7
def rf2 (k j : Nat) : Nat := match k with
  | 0 => j
  | 1 => j + 8
  | 2 => if j = 0 then 1 else j + 17
  | 3 => if j = 0 then 1 else j + 25
  | 4 => j + 34
  | _ => j + 37
def rfn (g k j : Nat) : Nat × Nat := match g with
  | 0 => (0, j)
  | 1 => (1, rf1 k j)
  | r + 2 => (r + 2, rf2 k j)
def nf (ci : Nat) : Nat := match ci with
  | 0 => 5
  | 1 => 4
  | 2 => 9
  | 3 => 13
  | 4 => 4
  | 5 => 12
  | 6 => 9
  | 7 => 11
  | 8 => 4
  | _ => 56
def ftl (ci : Nat) : List Nat := match ci with
  | 0 => [2, 2, 2, 1, 1]
  | 1 => [2, 2, 2, 2]
  | 2 => [0, 2, 2, 2, 2, 2, 2, 2, 0]
  | 3 => [2, 2, 2, 2, 2, 2, 2, 2, 2, 2, 0, 0, 0]
  | 4 => [2, 2, 0, 1]
  | 5 => [2, 2, 2, 2, 2, 2, 2, 2, 2, 0, 0, 1]
  | 6 => [2, 2, 2, 0, 0, 0, 0, 0, 0]
  | 7 => [2, 2, 2, 2, 2, 2, 2, 2, 2, 0, 1]
  | 8 => [2, 2, 2, 0]
  | _ => [0, 2, 2, 2, 2, 2, 2, 2, 2, 2, 2, 2, 2, 2, 2, 2, 2, 2, 2, 2, 2, 2, 2, 2, 2, 2, 2, 0, 0, 0, 0, 2, 2, 2, 0, 2, 2, 2, 2, 2, 2, 2, 2, 0, 2, 2, 2, 0, 2, 2, 2, 2, 0, 2, 2, 2]
def fty (ci j : Nat) : Nat := (ftl ci).getD j 0
abbrev Hp : Type := (Nat → Nat → Nat → Int32) × (Nat → Nat → Nat → Int64) × (Nat → Nat → Nat → Option Nat)
def gI (H : Hp) (g k i : Nat) : Int32 := H.1 g k i
def gJ (H : Hp) (g k i : Nat) : Int64 := H.2.1 g k i
def gR (H : Hp) (g k i : Nat) : Option Nat := H.2.2 g k i
def sI (H : Hp) (g k i : Nat) (v : Int32) : Hp := (fun a b j => if a = g ∧ b = k ∧ j = i then v else H.1 a b j, H.2)
def sJ (H : Hp) (g k i : Nat) (v : Int64) : Hp := (H.1, (fun a b j => if a = g ∧ b = k ∧ j = i then v else H.2.1 a b j), H.2.2)
def sR (H : Hp) (g k i : Nat) (v : Option Nat) : Hp := (H.1, H.2.1, (fun a b j => if a = g ∧ b = k ∧ j = i then v else H.2.2 a b j))
abbrev kQ : Type := ClassId × ClassId × ClassId × ClassId
abbrev vr (ad : Nat → Nat → Nat) (o : Option Nat) : Value := va_rf (o.map (fun r => ad (r + 2) 0))
def fv (ad : Nat → Nat → Nat) (H : Hp) (g k ci j : Nat) : Value := match fty ci j with
  | 0 => .int (H.1 g k j)
  | 1 => .long (H.2.1 g k j)
  | _ => .ref (ad (rfn g k j).1 (rfn g k j).2)
def fls (ad : Nat → Nat → Nat) (H : Hp) (g k ci : Nat) : List Value := (List.range (nf ci)).map (fun j => fv ad H g k ci j)
def cel (K4 : kQ) (ad : Nat → Nat → Nat) (H : Hp) (g k : Nat) : va_E := match (kd g k).1 with
  | 0 => .inl (K4.1, (kd g k).2, .inl (H.1 g k))
  | 1 => .inl (K4.2.1, (kd g k).2, .inr (.inl (H.2.1 g k)))
  | 2 => .inl (K4.2.2.1, (kd g k).2, .inl (H.1 g k))
  | 3 => .inl (K4.2.2.2, (kd g k).2, .inr (.inr (.inr (.inr (fun i => (H.2.2 g k i).map (fun r => ad (r + 2) 0))))))
  | ci + 4 => .inr (ci, fls ad H g k ci)
def wl (K4 : kQ) (ad : Nat → Nat → Nat) (nr : Nat) (H : Hp) : va_W := (nms nr).map (fun n => (ad n.1 n.2, cel K4 ad H n.1 n.2))
theorem okn_mem {nr g k : Nat} (h : okn nr g k = true) : (g, k) ∈ nms nr := by
  unfold okn at h
  unfold nms
  match g, h with
  | 0, h => exact List.mem_append_left _ (List.mem_map.mpr ⟨k, List.contains_iff_mem.mp h, rfl⟩)
  | 1, h => exact List.mem_append_right _ (List.mem_append_left _ (List.mem_map.mpr ⟨k, List.contains_iff_mem.mp h, rfl⟩))
  | r + 2, h =>
    rw [Bool.and_eq_true] at h
    exact List.mem_append_right _ (List.mem_append_right _ (List.mem_flatMap.mpr ⟨r, List.mem_range.mpr (of_decide_eq_true h.1), List.mem_map.mpr ⟨k, List.contains_iff_mem.mp h.2, rfl⟩⟩))
theorem okR {nr r k : Nat} (hr : r < nr) (hk : nmg2.contains k = true) : okn nr (r + 2) k = true := by
  show (decide (r < nr) && nmg2.contains k) = true
  rw [decide_eq_true hr, hk]; rfl
theorem wl_get {K4 : kQ} {ad : Nat → Nat → Nat} {H : Hp} {nr g k : Nat} (h : okn nr g k = true) : ∃ q0 : Nat, (wl K4 ad nr H)[q0]? = some (ad g k, cel K4 ad H g k) ∧ (nms nr)[q0]? = some (g, k) := by
  obtain ⟨q, hq⟩ := List.getElem?_of_mem (okn_mem h)
  refine ⟨q, ?_, hq⟩
  unfold wl
  rw [List.getElem?_map, hq]
  rfl
theorem wl_set {K4 : kQ} {ad : Nat → Nat → Nat} {H H' : Hp} {nr g k q0 : Nat} {A : Nat → Prop} {c' : va_E} (hD : va_D A (wl K4 ad nr H)) (hq : (nms nr)[q0]? = some (g, k)) (hs : ∀ g' k', (g', k') ≠ (g, k) → cel K4 ad H' g' k' = cel K4 ad H g' k') (hn : cel K4 ad H' g k = c') : (wl K4 ad nr H).set q0 (ad g k, c') = wl K4 ad nr H' := by
  apply List.ext_getElem?
  intro i
  by_cases hi : q0 = i
  · subst hi
    have hlt : q0 < (wl K4 ad nr H).length := by
      unfold wl
      rw [List.length_map]
      exact (List.getElem?_eq_some_iff.mp hq).1
    rw [List.getElem?_set_self hlt]
    unfold wl
    rw [List.getElem?_map, hq]
    show _ = some (ad g k, cel K4 ad H' g k)
    rw [hn]
  · rw [List.getElem?_set_ne hi]
    unfold wl
    rw [List.getElem?_map, List.getElem?_map]
    cases hj : (nms nr)[i]? with
    | none => rfl
    | some n =>
      obtain ⟨g', k'⟩ := n
      show some (ad g' k', cel K4 ad H g' k') = some (ad g' k', cel K4 ad H' g' k')
      by_cases hc : (g', k') = (g, k)
      · exfalso
        apply hi
        refine hD.1 q0 i (ad g k, cel K4 ad H g k) (ad g k, cel K4 ad H g k) ?_ ?_ rfl
        · unfold wl; rw [List.getElem?_map, hq]; rfl
        · unfold wl; rw [List.getElem?_map, hj, hc]; rfl
      · rw [hs g' k' hc]
theorem cel_sI {K4 : kQ} {ad : Nat → Nat → Nat} {H : Hp} {g k i : Nat} {v : Int32} : ∀ g' k', (g', k') ≠ (g, k) → cel K4 ad (sI H g k i v) g' k' = cel K4 ad H g' k' := by
  intro g' k' h
  have h1 : (sI H g k i v).1 g' k' = H.1 g' k' := by
    funext j
    show (if g' = g ∧ k' = k ∧ j = i then v else H.1 g' k' j) = _
    rw [if_neg]
    intro q
    exact h (by rw [q.1, q.2.1])
  unfold cel fls fv
  rw [h1]
  rfl
theorem cel_sJ {K4 : kQ} {ad : Nat → Nat → Nat} {H : Hp} {g k i : Nat} {v : Int64} : ∀ g' k', (g', k') ≠ (g, k) → cel K4 ad (sJ H g k i v) g' k' = cel K4 ad H g' k' := by
  intro g' k' h
  have h1 : (sJ H g k i v).2.1 g' k' = H.2.1 g' k' := by
    funext j
    show (if g' = g ∧ k' = k ∧ j = i then v else H.2.1 g' k' j) = _
    rw [if_neg]
    intro q
    exact h (by rw [q.1, q.2.1])
  unfold cel fls fv
  rw [h1]
  rfl
theorem cel_sR {K4 : kQ} {ad : Nat → Nat → Nat} {H : Hp} {g k i : Nat} {v : Option Nat} : ∀ g' k', (g', k') ≠ (g, k) → cel K4 ad (sR H g k i v) g' k' = cel K4 ad H g' k' := by
  intro g' k' h
  have h1 : (sR H g k i v).2.2 g' k' = H.2.2 g' k' := by
    funext j
    show (if g' = g ∧ k' = k ∧ j = i then v else H.2.2 g' k' j) = _
    rw [if_neg]
    intro q
    exact h (by rw [q.1, q.2.1])
  unfold cel fls fv
  rw [h1]
  rfl
theorem sI_row (H : Hp) (g k i : Nat) (v : Int32) : (sI H g k i v).1 g k = upd (H.1 g k) i v := by
  funext j
  show (if g = g ∧ k = k ∧ j = i then v else H.1 g k j) = if j = i then v else H.1 g k j
  simp
theorem sJ_row (H : Hp) (g k i : Nat) (v : Int64) : (sJ H g k i v).2.1 g k = vp_updL (H.2.1 g k) i v := by
  funext j
  show (if g = g ∧ k = k ∧ j = i then v else H.2.1 g k j) = if j = i then v else H.2.1 g k j
  simp
theorem rng_set (n : Nat) (F F' : Nat → Value) (j : Nat) (v : Value) (h1 : F' j = v) (h2 : ∀ i, i ≠ j → F' i = F i) : ((List.range n).map F).set j v = (List.range n).map F' := by
  apply List.ext_getElem?
  intro i
  by_cases hi : j = i
  · subst hi
    by_cases hl : j < n
    · rw [List.getElem?_set_self (by simpa using hl), List.getElem?_map, List.getElem?_range hl]
      show some v = some (F' j)
      rw [h1]
    · rw [List.getElem?_eq_none (by simp; omega), List.getElem?_eq_none (by simp; omega)]
  · rw [List.getElem?_set_ne hi, List.getElem?_map, List.getElem?_map]
    cases hj : (List.range n)[i]? with
    | none => rfl
    | some q =>
      have hq : q = i := by
        have := List.getElem?_eq_some_iff.mp hj
        obtain ⟨h3, h4⟩ := this
        rw [List.getElem_range] at h4
        exact h4.symm
      subst hq
      show some (F q) = some (F' q)
      rw [h2 q (fun h => hi h.symm)]
abbrev tys4 (K4 : kQ) : List (ClassId × FieldType) := [(K4.1, .int), (K4.2.1, .long), (K4.2.2.1, .boolean), (K4.2.2.2, .object "CounterPlacer$Routine")]
def Cx (p : Program) (s : State) (m : MethodId) (args : Array Value) (c : Code) (A : Nat → Prop) (H0 : Heap) (D : va_G) (K4 : kQ) (nL : Nat) (own : String) (cc : ByteArray) : Prop :=
  p.tables.exec = Jvm.exec ∧ c.code = cc ∧ c.maxLocals = nL ∧ s.vm.findClass own = some m.cls ∧ (∀ w ∈ GW, w.before args s = true) ∧ va_K D vwCl (tys4 K4) s ∧ (∀ w ∈ NW, va_Nw w s) ∧ (∀ q, H0.size ≤ q → A q)
def V' (p : Program) (l : Launch) (e : Env) (R : Room) (s : State) (m : MethodId) (args : Array Value) (below : List Frame) (meth : Method) (c : Code) (A : Nat → Prop) (H0 : Heap) (Q : State → Prop) (D : va_G) (K4 : kQ) (ad : Nat → Nat → Nat) (nr nL cs sl : Nat) (pc : Nat) (lv : List (Nat × Value)) (st : List Value) (H : Hp) : Prop :=
  ∀ (Hh : Heap) (locs : List Loc) (ls : Array Slot), va_P D vwCl (wl K4 ad nr H) Hh → va_D A (wl K4 ad nr H) → va_S A H0 Hh locs → lv_has ls nL lv → W p l e R s m args below meth c Hh locs cs sl Q (F0 m pc ls st)
abbrev V (p : Program) (l : Launch) (e : Env) (R : Room) (s : State) (m : MethodId) (args : Array Value) (below : List Frame) (meth : Method) (c : Code) (A : Nat → Prop) (H0 : Heap) (Q : State → Prop) (D : va_G) (K4 : kQ) (ad : Nat → Nat → Nat) (nr nL : Nat) (pc : Nat) (lv : List (Nat × Value)) (st : List Value) (H : Hp) : Prop := V' p l e R s m args below meth c A H0 Q D K4 ad nr nL 0 0 pc lv st H
/-- a field's link: class number, slot -/
def FL (own : String) (idx ci j : Nat) : Prop := ∃ (C : String) (T : u_T) (N : Nat), vwCl[ci]? = some (C, T, N) ∧ j < N ∧ j < nf ci ∧ (∀ w ∈ u_ws C T N, w ∈ GW) ∧ (Cond.fieldLink own idx (T j).1 (T j).2.1 (T j).2.2.1 ∈ GW ∨ ∃ host, Cond.fieldLinkNest own idx (T j).1 (T j).2.1 (T j).2.2.1 host ∈ NW)
/-- .. of one that is written -/
def FW (own : String) (idx ci j : Nat) (ty : FieldType) : Prop := ∃ (C : String) (T : u_T) (N : Nat) (ty0 : Nat → FieldType), vwCl[ci]? = some (C, T, N) ∧ j < N ∧ j < nf ci ∧ (∀ w ∈ u_ws C T N, w ∈ GW) ∧ (Cond.fieldLink own idx (T j).1 (T j).2.1 (T j).2.2.1 ∈ GW ∨ ∃ host, Cond.fieldLinkNest own idx (T j).1 (T j).2.1 (T j).2.2.1 host ∈ NW) ∧ (∀ k, k < N → parseFieldDescriptor (T k).2.2.1 = some (ty0 k)) ∧ (∀ a, a < N → ∀ b, b < N → a ≠ b → (T a).2.1 ≠ (T b).2.1) ∧ (T j).2.2.2 = false ∧ parseFieldDescriptor (T j).2.2.1 = some ty
/-- the parts of a method's function -/
def gd {α : Type} (i : Int32) (n : Nat) (k : Option α) : Option α := if ¬ i < 0 ∧ i.toNatClampNeg < n then k else none
theorem gd_some {α : Type} {i : Int32} {n : Nat} {k : Option α} {r : α} (h : gd i n k = some r) : vp_in i n ∧ k = some r := by
  unfold gd at h
  split at h
  · rename_i q
    exact ⟨fun u => u.elim q.1 (fun v => absurd q.2 (Nat.not_lt.mpr v)), h⟩
  · cases h
def gb {α : Type} (b : Bool) (k : Option α) : Option α := if b = true then k else none
theorem gb_some {α : Type} {b : Bool} {k : Option α} {r : α} (h : gb b k = some r) : b = true ∧ k = some r := by
  unfold gb at h
  split at h
  · exact ⟨by assumption, h⟩
  · cases h
def bnd {α β : Type} (o : Option (α × Hp)) (f : α → Hp → Option β) : Option β := match o with
  | none => none
  | some (a, h) => f a h
theorem bnd_some {α β : Type} {o : Option (α × Hp)} {f : α → Hp → Option β} {r : β} (h : bnd o f = some r) : ∃ a h', o = some (a, h') ∧ f a h' = some r := by
  unfold bnd at h
  split at h
  · cases h
  · exact ⟨_, _, rfl, h⟩
def nn {β : Type} (nr : Nat) (o : Option Nat) (f : Nat → Option β) : Option β := match o with
  | none => none
  | some r => gb (decide (r < nr)) (f r)
theorem nn_some {β : Type} {nr : Nat} {o : Option Nat} {f : Nat → Option β} {x : β} (h : nn nr o f = some x) : ∃ r, o = some r ∧ r < nr ∧ f r = some x := by
  unfold nn at h
  split at h
  · cases h
  · obtain ⟨a, b⟩ := gb_some h
    exact ⟨_, rfl, of_decide_eq_true a, b⟩
def nz {β : Type} (nr : Nat) (o : Option Nat) (k0 : Option β) (f : Nat → Option β) : Option β := match o with
  | none => k0
  | some r => gb (decide (r < nr)) (f r)
def FU : Nat := 1000000000

section
variable {p : Program} {l : Launch} {e : Env} {R : Room} {s : State} {m : MethodId} {args : Array Value} {below : List Frame} {meth : Method} {c : Code} {A : Nat → Prop} {H0 : Heap} {Q : State → Prop} {D : va_G} {K4 : kQ} {ad : Nat → Nat → Nat} {nr nL cs sl : Nat} {own : String} {cc : ByteArray} {pc : Nat} {lv lv' : List (Nat × Value)} {st : List Value} {H : Hp}
theorem V_iconst (hC : Cx p s m args c A H0 D K4 nL own cc) {n : Int} {v : Int32} (hdg : decode cc pc = .ok (.iconst n, 1)) (hv : Int32.ofInt n = v) (kk : V' p l e R s m args below meth c A H0 Q D K4 ad nr nL cs sl (pc + 1) lv (.int v :: st) H) : V' p l e R s m args below meth c A H0 Q D K4 ad nr nL cs sl pc lv (st) H :=
  fun Hh locs ls hP hD hS hl => lv_iconst hC.1 hC.2.1 hdg hv (kk Hh locs ls hP hD hS hl)
theorem V_bipush (hC : Cx p s m args c A H0 D K4 nL own cc) {n : Int} {v : Int32} (hdg : decode cc pc = .ok (.bipush n, 2)) (hv : (Int8.ofInt n).toInt32 = v) (kk : V' p l e R s m args below meth c A H0 Q D K4 ad nr nL cs sl (pc + 2) lv (.int v :: st) H) : V' p l e R s m args below meth c A H0 Q D K4 ad nr nL cs sl pc lv (st) H :=
  fun Hh locs ls hP hD hS hl => lv_bipush hC.1 hC.2.1 hdg hv (kk Hh locs ls hP hD hS hl)
theorem V_sipush (hC : Cx p s m args c A H0 D K4 nL own cc) {n : Int} {v : Int32} (hdg : decode cc pc = .ok (.sipush n, 3)) (hv : (Int16.ofInt n).toInt32 = v) (kk : V' p l e R s m args below meth c A H0 Q D K4 ad nr nL cs sl (pc + 3) lv (.int v :: st) H) : V' p l e R s m args below meth c A H0 Q D K4 ad nr nL cs sl pc lv (st) H :=
  fun Hh locs ls hP hD hS hl => lv_sipush hC.1 hC.2.1 hdg hv (kk Hh locs ls hP hD hS hl)
theorem V_lconst (hC : Cx p s m args c A H0 D K4 nL own cc) {n : Fin 2} {v : Int64} (hdg : decode cc pc = .ok (.lconst n, 1)) (hv : Int64.ofNat (n : Nat) = v) (kk : V' p l e R s m args below meth c A H0 Q D K4 ad nr nL cs sl (pc + 1) lv (.long v :: st) H) : V' p l e R s m args below meth c A H0 Q D K4 ad nr nL cs sl pc lv (st) H :=
  fun Hh locs ls hP hD hS hl => lv_lconst hC.1 hC.2.1 hdg hv (kk Hh locs ls hP hD hS hl)
theorem V_ldc (hC : Cx p s m args c A H0 D K4 nL own cc) {n : Nat} {v : Int32} (hdg : decode cc pc = .ok (.ldc n, 2)) (hw : Cond.constant own n v ∈ GW) (kk : V' p l e R s m args below meth c A H0 Q D K4 ad nr nL cs sl (pc + 2) lv (.int v :: st) H) : V' p l e R s m args below meth c A H0 Q D K4 ad nr nL cs sl pc lv (st) H :=
  fun Hh locs ls hP hD hS hl => lv_ldc hC.1 hC.2.1 hC.2.2.2.1 (hC.2.2.2.2.1 _ hw) hdg (kk Hh locs ls hP hD hS hl)
theorem V_ldc2 (hC : Cx p s m args c A H0 D K4 nL own cc) {n : Nat} {v : Int64} (hdg : decode cc pc = .ok (.ldc2_w n, 3)) (hw : Cond.constantLong own n v ∈ GW) (kk : V' p l e R s m args below meth c A H0 Q D K4 ad nr nL cs sl (pc + 3) lv (.long v :: st) H) : V' p l e R s m args below meth c A H0 Q D K4 ad nr nL cs sl pc lv (st) H :=
  fun Hh locs ls hP hD hS hl => lv_ldc2 hC.1 hC.2.1 hC.2.2.2.1 (hC.2.2.2.2.1 _ hw) hdg (kk Hh locs ls hP hD hS hl)
theorem V_iload_n (hC : Cx p s m args c A H0 D K4 nL own cc) {i : Fin 4} {x : Int32} (k : Nat) (hdg : decode cc pc = .ok (.iload_n i, 1)) (hv : lv[k]? = some ((i : Nat), .int x)) (kk : V' p l e R s m args below meth c A H0 Q D K4 ad nr nL cs sl (pc + 1) lv (.int x :: st) H) : V' p l e R s m args below meth c A H0 Q D K4 ad nr nL cs sl pc lv (st) H :=
  fun Hh locs ls hP hD hS hl => lv_iload_n hC.1 hC.2.1 hdg rfl (lv_at hl k hv) (kk Hh locs ls hP hD hS hl)
theorem V_iload (hC : Cx p s m args c A H0 D K4 nL own cc) {i : Nat} {x : Int32} (k : Nat) (hdg : decode cc pc = .ok (.iload i, 2)) (hv : lv[k]? = some (i, .int x)) (kk : V' p l e R s m args below meth c A H0 Q D K4 ad nr nL cs sl (pc + 2) lv (.int x :: st) H) : V' p l e R s m args below meth c A H0 Q D K4 ad nr nL cs sl pc lv (st) H :=
  fun Hh locs ls hP hD hS hl => lv_iload hC.1 hC.2.1 hdg (lv_at hl k hv) (kk Hh locs ls hP hD hS hl)
theorem V_istore_n (hC : Cx p s m args c A H0 D K4 nL own cc) {i : Fin 4} {x : Int32} (hdg : decode cc pc = .ok (.istore_n i, 1)) (hn : (i : Nat) < nL) (hl' : ((i : Nat), Value.int x) :: lv.filter (fun q => !(q.1 == (i : Nat)) && !(q.1 + 1 == (i : Nat) && q.2.category == 2)) = lv') (kk : V' p l e R s m args below meth c A H0 Q D K4 ad nr nL cs sl (pc + 1) lv' st H) : V' p l e R s m args below meth c A H0 Q D K4 ad nr nL cs sl pc lv (.int x :: st) H :=
  fun Hh locs ls hP hD hS hl => lv_istore_n hC.1 hC.2.1 hdg rfl hl hn hl' (fun ls' hl2 => kk Hh locs ls' hP hD hS hl2)
theorem V_istore (hC : Cx p s m args c A H0 D K4 nL own cc) {i : Nat} {x : Int32} (hdg : decode cc pc = .ok (.istore i, 2)) (hn : (i : Nat) < nL) (hl' : ((i : Nat), Value.int x) :: lv.filter (fun q => !(q.1 == (i : Nat)) && !(q.1 + 1 == (i : Nat) && q.2.category == 2)) = lv') (kk : V' p l e R s m args below meth c A H0 Q D K4 ad nr nL cs sl (pc + 2) lv' st H) : V' p l e R s m args below meth c A H0 Q D K4 ad nr nL cs sl pc lv (.int x :: st) H :=
  fun Hh locs ls hP hD hS hl => lv_istore hC.1 hC.2.1 hdg hl hn hl' (fun ls' hl2 => kk Hh locs ls' hP hD hS hl2)
theorem V_lload_n (hC : Cx p s m args c A H0 D K4 nL own cc) {i : Fin 4} {x : Int64} (k : Nat) (hdg : decode cc pc = .ok (.lload_n i, 1)) (hv : lv[k]? = some ((i : Nat), .long x)) (kk : V' p l e R s m args below meth c A H0 Q D K4 ad nr nL cs sl (pc + 1) lv (.long x :: st) H) : V' p l e R s m args below meth c A H0 Q D K4 ad nr nL cs sl pc lv (st) H :=
  fun Hh locs ls hP hD hS hl => lv_lload_n hC.1 hC.2.1 hdg rfl (lv_at hl k hv) (kk Hh locs ls hP hD hS hl)
theorem V_lload (hC : Cx p s m args c A H0 D K4 nL own cc) {i : Nat} {x : Int64} (k : Nat) (hdg : decode cc pc = .ok (.lload i, 2)) (hv : lv[k]? = some (i, .long x)) (kk : V' p l e R s m args below meth c A H0 Q D K4 ad nr nL cs sl (pc + 2) lv (.long x :: st) H) : V' p l e R s m args below meth c A H0 Q D K4 ad nr nL cs sl pc lv (st) H :=
  fun Hh locs ls hP hD hS hl => lv_lload hC.1 hC.2.1 hdg (lv_at hl k hv) (kk Hh locs ls hP hD hS hl)
theorem V_lstore_n (hC : Cx p s m args c A H0 D K4 nL own cc) {i : Fin 4} {x : Int64} (hdg : decode cc pc = .ok (.lstore_n i, 1)) (hn : (i : Nat) + 1 < nL) (hl' : ((i : Nat), Value.long x) :: lv.filter (fun q => !(q.1 == (i : Nat)) && (!(q.1 == (i : Nat) + 1) && !(q.1 + 1 == (i : Nat) && q.2.category == 2))) = lv') (kk : V' p l e R s m args below meth c A H0 Q D K4 ad nr nL cs sl (pc + 1) lv' st H) : V' p l e R s m args below meth c A H0 Q D K4 ad nr nL cs sl pc lv (.long x :: st) H :=
  fun Hh locs ls hP hD hS hl => lv_lstore_n hC.1 hC.2.1 hdg rfl hl hn hl' (fun ls' hl2 => kk Hh locs ls' hP hD hS hl2)
theorem V_lstore (hC : Cx p s m args c A H0 D K4 nL own cc) {i : Nat} {x : Int64} (hdg : decode cc pc = .ok (.lstore i, 2)) (hn : (i : Nat) + 1 < nL) (hl' : ((i : Nat), Value.long x) :: lv.filter (fun q => !(q.1 == (i : Nat)) && (!(q.1 == (i : Nat) + 1) && !(q.1 + 1 == (i : Nat) && q.2.category == 2))) = lv') (kk : V' p l e R s m args below meth c A H0 Q D K4 ad nr nL cs sl (pc + 2) lv' st H) : V' p l e R s m args below meth c A H0 Q D K4 ad nr nL cs sl pc lv (.long x :: st) H :=
  fun Hh locs ls hP hD hS hl => lv_lstore hC.1 hC.2.1 hdg hl hn hl' (fun ls' hl2 => kk Hh locs ls' hP hD hS hl2)
theorem V_aload_n (hC : Cx p s m args c A H0 D K4 nL own cc) {i : Fin 4} {x : Nat} (k : Nat) (hdg : decode cc pc = .ok (.aload_n i, 1)) (hv : lv[k]? = some ((i : Nat), .ref x)) (kk : V' p l e R s m args below meth c A H0 Q D K4 ad nr nL cs sl (pc + 1) lv (.ref x :: st) H) : V' p l e R s m args below meth c A H0 Q D K4 ad nr nL cs sl pc lv (st) H :=
  fun Hh locs ls hP hD hS hl => lv_aload_n hC.1 hC.2.1 hdg rfl (lv_at hl k hv) (kk Hh locs ls hP hD hS hl)
theorem V_aload (hC : Cx p s m args c A H0 D K4 nL own cc) {i : Nat} {x : Nat} (k : Nat) (hdg : decode cc pc = .ok (.aload i, 2)) (hv : lv[k]? = some (i, .ref x)) (kk : V' p l e R s m args below meth c A H0 Q D K4 ad nr nL cs sl (pc + 2) lv (.ref x :: st) H) : V' p l e R s m args below meth c A H0 Q D K4 ad nr nL cs sl pc lv (st) H :=
  fun Hh locs ls hP hD hS hl => lv_aload hC.1 hC.2.1 hdg (lv_at hl k hv) (kk Hh locs ls hP hD hS hl)
theorem V_astore_n (hC : Cx p s m args c A H0 D K4 nL own cc) {i : Fin 4} {x : Nat} (hdg : decode cc pc = .ok (.astore_n i, 1)) (hn : (i : Nat) < nL) (hl' : ((i : Nat), Value.ref x) :: lv.filter (fun q => !(q.1 == (i : Nat)) && !(q.1 + 1 == (i : Nat) && q.2.category == 2)) = lv') (kk : V' p l e R s m args below meth c A H0 Q D K4 ad nr nL cs sl (pc + 1) lv' st H) : V' p l e R s m args below meth c A H0 Q D K4 ad nr nL cs sl pc lv (.ref x :: st) H :=
  fun Hh locs ls hP hD hS hl => lv_astore_n hC.1 hC.2.1 hdg rfl hl hn hl' (fun ls' hl2 => kk Hh locs ls' hP hD hS hl2)
theorem V_astore (hC : Cx p s m args c A H0 D K4 nL own cc) {i : Nat} {x : Nat} (hdg : decode cc pc = .ok (.astore i, 2)) (hn : (i : Nat) < nL) (hl' : ((i : Nat), Value.ref x) :: lv.filter (fun q => !(q.1 == (i : Nat)) && !(q.1 + 1 == (i : Nat) && q.2.category == 2)) = lv') (kk : V' p l e R s m args below meth c A H0 Q D K4 ad nr nL cs sl (pc + 2) lv' st H) : V' p l e R s m args below meth c A H0 Q D K4 ad nr nL cs sl pc lv (.ref x :: st) H :=
  fun Hh locs ls hP hD hS hl => lv_astore hC.1 hC.2.1 hdg hl hn hl' (fun ls' hl2 => kk Hh locs ls' hP hD hS hl2)
theorem V_iinc (hC : Cx p s m args c A H0 D K4 nL own cc) {i : Nat} {n : Int} {x v : Int32} (k : Nat) (hdg : decode cc pc = .ok (.iinc i n, 3)) (hv : lv[k]? = some (i, .int x)) (hx : x + Int32.ofInt n = v) (hn : i < nL) (hl' : (i, Value.int v) :: lv.filter (fun q => !(q.1 == i) && !(q.1 + 1 == i && q.2.category == 2)) = lv') (kk : V' p l e R s m args below meth c A H0 Q D K4 ad nr nL cs sl (pc + 3) lv' st H) : V' p l e R s m args below meth c A H0 Q D K4 ad nr nL cs sl pc lv st H :=
  fun Hh locs ls hP hD hS hl => lv_iinc hC.1 hC.2.1 hdg hl hv hx hn hl' (fun ls' hl2 => kk Hh locs ls' hP hD hS hl2)
theorem V_iadd (hC : Cx p s m args c A H0 D K4 nL own cc) {x y : Int32} (hdg : decode cc pc = .ok (.iadd, 1)) (kk : V' p l e R s m args below meth c A H0 Q D K4 ad nr nL cs sl (pc + 1) lv (.int (x + y) :: st) H) : V' p l e R s m args below meth c A H0 Q D K4 ad nr nL cs sl pc lv (.int y :: .int x :: st) H :=
  fun Hh locs ls hP hD hS hl => lv_iadd hC.1 hC.2.1 hdg (kk Hh locs ls hP hD hS hl)
theorem V_isub (hC : Cx p s m args c A H0 D K4 nL own cc) {x y : Int32} (hdg : decode cc pc = .ok (.isub, 1)) (kk : V' p l e R s m args below meth c A H0 Q D K4 ad nr nL cs sl (pc + 1) lv (.int (x - y) :: st) H) : V' p l e R s m args below meth c A H0 Q D K4 ad nr nL cs sl pc lv (.int y :: .int x :: st) H :=
  fun Hh locs ls hP hD hS hl => lv_isub hC.1 hC.2.1 hdg (kk Hh locs ls hP hD hS hl)
theorem V_imul (hC : Cx p s m args c A H0 D K4 nL own cc) {x y : Int32} (hdg : decode cc pc = .ok (.imul, 1)) (kk : V' p l e R s m args below meth c A H0 Q D K4 ad nr nL cs sl (pc + 1) lv (.int (x * y) :: st) H) : V' p l e R s m args below meth c A H0 Q D K4 ad nr nL cs sl pc lv (.int y :: .int x :: st) H :=
  fun Hh locs ls hP hD hS hl => lv_imul hC.1 hC.2.1 hdg (kk Hh locs ls hP hD hS hl)
theorem V_iand (hC : Cx p s m args c A H0 D K4 nL own cc) {x y : Int32} (hdg : decode cc pc = .ok (.iand, 1)) (kk : V' p l e R s m args below meth c A H0 Q D K4 ad nr nL cs sl (pc + 1) lv (.int (x &&& y) :: st) H) : V' p l e R s m args below meth c A H0 Q D K4 ad nr nL cs sl pc lv (.int y :: .int x :: st) H :=
  fun Hh locs ls hP hD hS hl => lv_iand hC.1 hC.2.1 hdg (kk Hh locs ls hP hD hS hl)
theorem V_ior (hC : Cx p s m args c A H0 D K4 nL own cc) {x y : Int32} (hdg : decode cc pc = .ok (.ior, 1)) (kk : V' p l e R s m args below meth c A H0 Q D K4 ad nr nL cs sl (pc + 1) lv (.int (x ||| y) :: st) H) : V' p l e R s m args below meth c A H0 Q D K4 ad nr nL cs sl pc lv (.int y :: .int x :: st) H :=
  fun Hh locs ls hP hD hS hl => lv_ior hC.1 hC.2.1 hdg (kk Hh locs ls hP hD hS hl)
theorem V_ishr (hC : Cx p s m args c A H0 D K4 nL own cc) {x y : Int32} (hdg : decode cc pc = .ok (.ishr, 1)) (kk : V' p l e R s m args below meth c A H0 Q D K4 ad nr nL cs sl (pc + 1) lv (.int (x >>> (y &&& 31)) :: st) H) : V' p l e R s m args below meth c A H0 Q D K4 ad nr nL cs sl pc lv (.int y :: .int x :: st) H :=
  fun Hh locs ls hP hD hS hl => lv_ishr hC.1 hC.2.1 hdg (kk Hh locs ls hP hD hS hl)
theorem V_irem (hC : Cx p s m args c A H0 D K4 nL own cc) {x y : Int32} (hdg : decode cc pc = .ok (.irem, 1)) (hz : ¬ y = 0) (kk : V' p l e R s m args below meth c A H0 Q D K4 ad nr nL cs sl (pc + 1) lv (.int (x - x / y * y) :: st) H) : V' p l e R s m args below meth c A H0 Q D K4 ad nr nL cs sl pc lv (.int y :: .int x :: st) H :=
  fun Hh locs ls hP hD hS hl => lv_irem hC.1 hC.2.1 hdg hz (kk Hh locs ls hP hD hS hl)
theorem V_ineg (hC : Cx p s m args c A H0 D K4 nL own cc) {x : Int32} (hdg : decode cc pc = .ok (.ineg, 1)) (kk : V' p l e R s m args below meth c A H0 Q D K4 ad nr nL cs sl (pc + 1) lv (.int (-x) :: st) H) : V' p l e R s m args below meth c A H0 Q D K4 ad nr nL cs sl pc lv (.int x :: st) H :=
  fun Hh locs ls hP hD hS hl => lv_ineg hC.1 hC.2.1 hdg (kk Hh locs ls hP hD hS hl)
theorem V_ladd (hC : Cx p s m args c A H0 D K4 nL own cc) {x y : Int64} (hdg : decode cc pc = .ok (.ladd, 1)) (kk : V' p l e R s m args below meth c A H0 Q D K4 ad nr nL cs sl (pc + 1) lv (.long (x + y) :: st) H) : V' p l e R s m args below meth c A H0 Q D K4 ad nr nL cs sl pc lv (.long y :: .long x :: st) H :=
  fun Hh locs ls hP hD hS hl => lv_ladd hC.1 hC.2.1 hdg (kk Hh locs ls hP hD hS hl)
theorem V_lsub (hC : Cx p s m args c A H0 D K4 nL own cc) {x y : Int64} (hdg : decode cc pc = .ok (.lsub, 1)) (kk : V' p l e R s m args below meth c A H0 Q D K4 ad nr nL cs sl (pc + 1) lv (.long (x - y) :: st) H) : V' p l e R s m args below meth c A H0 Q D K4 ad nr nL cs sl pc lv (.long y :: .long x :: st) H :=
  fun Hh locs ls hP hD hS hl => lv_lsub hC.1 hC.2.1 hdg (kk Hh locs ls hP hD hS hl)
theorem V_lmul (hC : Cx p s m args c A H0 D K4 nL own cc) {x y : Int64} (hdg : decode cc pc = .ok (.lmul, 1)) (kk : V' p l e R s m args below meth c A H0 Q D K4 ad nr nL cs sl (pc + 1) lv (.long (x * y) :: st) H) : V' p l e R s m args below meth c A H0 Q D K4 ad nr nL cs sl pc lv (.long y :: .long x :: st) H :=
  fun Hh locs ls hP hD hS hl => lv_lmul hC.1 hC.2.1 hdg (kk Hh locs ls hP hD hS hl)
theorem V_land (hC : Cx p s m args c A H0 D K4 nL own cc) {x y : Int64} (hdg : decode cc pc = .ok (.land, 1)) (kk : V' p l e R s m args below meth c A H0 Q D K4 ad nr nL cs sl (pc + 1) lv (.long (x &&& y) :: st) H) : V' p l e R s m args below meth c A H0 Q D K4 ad nr nL cs sl pc lv (.long y :: .long x :: st) H :=
  fun Hh locs ls hP hD hS hl => lv_land hC.1 hC.2.1 hdg (kk Hh locs ls hP hD hS hl)
theorem V_lor (hC : Cx p s m args c A H0 D K4 nL own cc) {x y : Int64} (hdg : decode cc pc = .ok (.lor, 1)) (kk : V' p l e R s m args below meth c A H0 Q D K4 ad nr nL cs sl (pc + 1) lv (.long (x ||| y) :: st) H) : V' p l e R s m args below meth c A H0 Q D K4 ad nr nL cs sl pc lv (.long y :: .long x :: st) H :=
  fun Hh locs ls hP hD hS hl => lv_lor hC.1 hC.2.1 hdg (kk Hh locs ls hP hD hS hl)
theorem V_lneg (hC : Cx p s m args c A H0 D K4 nL own cc) {x : Int64} (hdg : decode cc pc = .ok (.lneg, 1)) (kk : V' p l e R s m args below meth c A H0 Q D K4 ad nr nL cs sl (pc + 1) lv (.long (-x) :: st) H) : V' p l e R s m args below meth c A H0 Q D K4 ad nr nL cs sl pc lv (.long x :: st) H :=
  fun Hh locs ls hP hD hS hl => lv_lneg hC.1 hC.2.1 hdg (kk Hh locs ls hP hD hS hl)
theorem V_i2l (hC : Cx p s m args c A H0 D K4 nL own cc) {x : Int32} (hdg : decode cc pc = .ok (.i2l, 1)) (kk : V' p l e R s m args below meth c A H0 Q D K4 ad nr nL cs sl (pc + 1) lv (.long x.toInt64 :: st) H) : V' p l e R s m args below meth c A H0 Q D K4 ad nr nL cs sl pc lv (.int x :: st) H :=
  fun Hh locs ls hP hD hS hl => lv_i2l hC.1 hC.2.1 hdg rfl (kk Hh locs ls hP hD hS hl)
theorem V_lcmp (hC : Cx p s m args c A H0 D K4 nL own cc) {x y : Int64} (hdg : decode cc pc = .ok (.lcmp, 1)) (kk : V' p l e R s m args below meth c A H0 Q D K4 ad nr nL cs sl (pc + 1) lv (.int (lg_cmp x y) :: st) H) : V' p l e R s m args below meth c A H0 Q D K4 ad nr nL cs sl pc lv (.long y :: .long x :: st) H :=
  fun Hh locs ls hP hD hS hl => W.lcmp hC.1 hC.2.1 hdg (kk Hh locs ls hP hD hS hl)
theorem V_dup (hC : Cx p s m args c A H0 D K4 nL own cc) {v : Value} (hdg : decode cc pc = .ok (.dup, 1)) (hc : v.category = 1) (kk : V' p l e R s m args below meth c A H0 Q D K4 ad nr nL cs sl (pc + 1) lv (v :: v :: st) H) : V' p l e R s m args below meth c A H0 Q D K4 ad nr nL cs sl pc lv (v :: st) H :=
  fun Hh locs ls hP hD hS hl => lv_dup hC.1 hC.2.1 hdg hc (kk Hh locs ls hP hD hS hl)
theorem V_pop (hC : Cx p s m args c A H0 D K4 nL own cc) {v : Value} (hdg : decode cc pc = .ok (.pop, 1)) (hc : v.category = 1) (kk : V' p l e R s m args below meth c A H0 Q D K4 ad nr nL cs sl (pc + 1) lv (st) H) : V' p l e R s m args below meth c A H0 Q D K4 ad nr nL cs sl pc lv (v :: st) H :=
  fun Hh locs ls hP hD hS hl => lv_pop hC.1 hC.2.1 hdg hc (kk Hh locs ls hP hD hS hl)
theorem V_dup2 (hC : Cx p s m args c A H0 D K4 nL own cc) {u v : Value} (hdg : decode cc pc = .ok (.dup2, 1)) (hu : u.category = 1) (hv : v.category = 1) (kk : V' p l e R s m args below meth c A H0 Q D K4 ad nr nL cs sl (pc + 1) lv (u :: v :: u :: v :: st) H) : V' p l e R s m args below meth c A H0 Q D K4 ad nr nL cs sl pc lv (u :: v :: st) H :=
  fun Hh locs ls hP hD hS hl => lv_dup2_11 hC.1 hC.2.1 hdg hu hv (kk Hh locs ls hP hD hS hl)
theorem V_if_eq (hC : Cx p s m args c A H0 D K4 nL own cc) {x : Int32} {off : Int} {tgt : Nat} (hdg : decode cc pc = .ok (.ifCond .eq off, 3)) (ht : (pc : Int) + off = (tgt : Int)) (kt : x = 0 → V' p l e R s m args below meth c A H0 Q D K4 ad nr nL cs sl tgt lv st H) (kf : ¬ (x = 0) → V' p l e R s m args below meth c A H0 Q D K4 ad nr nL cs sl (pc + 3) lv st H) : V' p l e R s m args below meth c A H0 Q D K4 ad nr nL cs sl pc lv (.int x :: st) H :=
  fun Hh locs ls hP hD hS hl => lv_if_eq hC.1 hC.2.1 hdg ht (fun h => kt h Hh locs ls hP hD hS hl) (fun h => kf h Hh locs ls hP hD hS hl)
theorem V_icmp_eq (hC : Cx p s m args c A H0 D K4 nL own cc) {x y : Int32} {off : Int} {tgt : Nat} (hdg : decode cc pc = .ok (.if_icmp .eq off, 3)) (ht : (pc : Int) + off = (tgt : Int)) (kt : x = y → V' p l e R s m args below meth c A H0 Q D K4 ad nr nL cs sl tgt lv st H) (kf : ¬ (x = y) → V' p l e R s m args below meth c A H0 Q D K4 ad nr nL cs sl (pc + 3) lv st H) : V' p l e R s m args below meth c A H0 Q D K4 ad nr nL cs sl pc lv (.int y :: .int x :: st) H :=
  fun Hh locs ls hP hD hS hl => lv_icmp_eq hC.1 hC.2.1 hdg ht (fun h => kt h Hh locs ls hP hD hS hl) (fun h => kf h Hh locs ls hP hD hS hl)
theorem V_if_ne (hC : Cx p s m args c A H0 D K4 nL own cc) {x : Int32} {off : Int} {tgt : Nat} (hdg : decode cc pc = .ok (.ifCond .ne off, 3)) (ht : (pc : Int) + off = (tgt : Int)) (kt : ¬ x = 0 → V' p l e R s m args below meth c A H0 Q D K4 ad nr nL cs sl tgt lv st H) (kf : x = 0 → V' p l e R s m args below meth c A H0 Q D K4 ad nr nL cs sl (pc + 3) lv st H) : V' p l e R s m args below meth c A H0 Q D K4 ad nr nL cs sl pc lv (.int x :: st) H :=
  fun Hh locs ls hP hD hS hl => lv_if_ne hC.1 hC.2.1 hdg ht (fun h => kt h Hh locs ls hP hD hS hl) (fun h => kf h Hh locs ls hP hD hS hl)
theorem V_icmp_ne (hC : Cx p s m args c A H0 D K4 nL own cc) {x y : Int32} {off : Int} {tgt : Nat} (hdg : decode cc pc = .ok (.if_icmp .ne off, 3)) (ht : (pc : Int) + off = (tgt : Int)) (kt : ¬ x = y → V' p l e R s m args below meth c A H0 Q D K4 ad nr nL cs sl tgt lv st H) (kf : x = y → V' p l e R s m args below meth c A H0 Q D K4 ad nr nL cs sl (pc + 3) lv st H) : V' p l e R s m args below meth c A H0 Q D K4 ad nr nL cs sl pc lv (.int y :: .int x :: st) H :=
  fun Hh locs ls hP hD hS hl => lv_icmp_ne hC.1 hC.2.1 hdg ht (fun h => kt h Hh locs ls hP hD hS hl) (fun h => kf h Hh locs ls hP hD hS hl)
theorem V_if_lt (hC : Cx p s m args c A H0 D K4 nL own cc) {x : Int32} {off : Int} {tgt : Nat} (hdg : decode cc pc = .ok (.ifCond .lt off, 3)) (ht : (pc : Int) + off = (tgt : Int)) (kt : x < 0 → V' p l e R s m args below meth c A H0 Q D K4 ad nr nL cs sl tgt lv st H) (kf : ¬ (x < 0) → V' p l e R s m args below meth c A H0 Q D K4 ad nr nL cs sl (pc + 3) lv st H) : V' p l e R s m args below meth c A H0 Q D K4 ad nr nL cs sl pc lv (.int x :: st) H :=
  fun Hh locs ls hP hD hS hl => lv_if_lt hC.1 hC.2.1 hdg ht (fun h => kt h Hh locs ls hP hD hS hl) (fun h => kf h Hh locs ls hP hD hS hl)
theorem V_icmp_lt (hC : Cx p s m args c A H0 D K4 nL own cc) {x y : Int32} {off : Int} {tgt : Nat} (hdg : decode cc pc = .ok (.if_icmp .lt off, 3)) (ht : (pc : Int) + off = (tgt : Int)) (kt : x < y → V' p l e R s m args below meth c A H0 Q D K4 ad nr nL cs sl tgt lv st H) (kf : ¬ (x < y) → V' p l e R s m args below meth c A H0 Q D K4 ad nr nL cs sl (pc + 3) lv st H) : V' p l e R s m args below meth c A H0 Q D K4 ad nr nL cs sl pc lv (.int y :: .int x :: st) H :=
  fun Hh locs ls hP hD hS hl => lv_icmp_lt hC.1 hC.2.1 hdg ht (fun h => kt h Hh locs ls hP hD hS hl) (fun h => kf h Hh locs ls hP hD hS hl)
theorem V_if_ge (hC : Cx p s m args c A H0 D K4 nL own cc) {x : Int32} {off : Int} {tgt : Nat} (hdg : decode cc pc = .ok (.ifCond .ge off, 3)) (ht : (pc : Int) + off = (tgt : Int)) (kt : 0 ≤ x → V' p l e R s m args below meth c A H0 Q D K4 ad nr nL cs sl tgt lv st H) (kf : ¬ (0 ≤ x) → V' p l e R s m args below meth c A H0 Q D K4 ad nr nL cs sl (pc + 3) lv st H) : V' p l e R s m args below meth c A H0 Q D K4 ad nr nL cs sl pc lv (.int x :: st) H :=
  fun Hh locs ls hP hD hS hl => lv_if_ge hC.1 hC.2.1 hdg ht (fun h => kt h Hh locs ls hP hD hS hl) (fun h => kf h Hh locs ls hP hD hS hl)
theorem V_icmp_ge (hC : Cx p s m args c A H0 D K4 nL own cc) {x y : Int32} {off : Int} {tgt : Nat} (hdg : decode cc pc = .ok (.if_icmp .ge off, 3)) (ht : (pc : Int) + off = (tgt : Int)) (kt : y ≤ x → V' p l e R s m args below meth c A H0 Q D K4 ad nr nL cs sl tgt lv st H) (kf : ¬ (y ≤ x) → V' p l e R s m args below meth c A H0 Q D K4 ad nr nL cs sl (pc + 3) lv st H) : V' p l e R s m args below meth c A H0 Q D K4 ad nr nL cs sl pc lv (.int y :: .int x :: st) H :=
  fun Hh locs ls hP hD hS hl => lv_icmp_ge hC.1 hC.2.1 hdg ht (fun h => kt h Hh locs ls hP hD hS hl) (fun h => kf h Hh locs ls hP hD hS hl)
theorem V_if_gt (hC : Cx p s m args c A H0 D K4 nL own cc) {x : Int32} {off : Int} {tgt : Nat} (hdg : decode cc pc = .ok (.ifCond .gt off, 3)) (ht : (pc : Int) + off = (tgt : Int)) (kt : 0 < x → V' p l e R s m args below meth c A H0 Q D K4 ad nr nL cs sl tgt lv st H) (kf : ¬ (0 < x) → V' p l e R s m args below meth c A H0 Q D K4 ad nr nL cs sl (pc + 3) lv st H) : V' p l e R s m args below meth c A H0 Q D K4 ad nr nL cs sl pc lv (.int x :: st) H :=
  fun Hh locs ls hP hD hS hl => lv_if_gt hC.1 hC.2.1 hdg ht (fun h => kt h Hh locs ls hP hD hS hl) (fun h => kf h Hh locs ls hP hD hS hl)
theorem V_icmp_gt (hC : Cx p s m args c A H0 D K4 nL own cc) {x y : Int32} {off : Int} {tgt : Nat} (hdg : decode cc pc = .ok (.if_icmp .gt off, 3)) (ht : (pc : Int) + off = (tgt : Int)) (kt : y < x → V' p l e R s m args below meth c A H0 Q D K4 ad nr nL cs sl tgt lv st H) (kf : ¬ (y < x) → V' p l e R s m args below meth c A H0 Q D K4 ad nr nL cs sl (pc + 3) lv st H) : V' p l e R s m args below meth c A H0 Q D K4 ad nr nL cs sl pc lv (.int y :: .int x :: st) H :=
  fun Hh locs ls hP hD hS hl => lv_icmp_gt hC.1 hC.2.1 hdg ht (fun h => kt h Hh locs ls hP hD hS hl) (fun h => kf h Hh locs ls hP hD hS hl)
theorem V_if_le (hC : Cx p s m args c A H0 D K4 nL own cc) {x : Int32} {off : Int} {tgt : Nat} (hdg : decode cc pc = .ok (.ifCond .le off, 3)) (ht : (pc : Int) + off = (tgt : Int)) (kt : x ≤ 0 → V' p l e R s m args below meth c A H0 Q D K4 ad nr nL cs sl tgt lv st H) (kf : ¬ (x ≤ 0) → V' p l e R s m args below meth c A H0 Q D K4 ad nr nL cs sl (pc + 3) lv st H) : V' p l e R s m args below meth c A H0 Q D K4 ad nr nL cs sl pc lv (.int x :: st) H :=
  fun Hh locs ls hP hD hS hl => lv_if_le hC.1 hC.2.1 hdg ht (fun h => kt h Hh locs ls hP hD hS hl) (fun h => kf h Hh locs ls hP hD hS hl)
theorem V_icmp_le (hC : Cx p s m args c A H0 D K4 nL own cc) {x y : Int32} {off : Int} {tgt : Nat} (hdg : decode cc pc = .ok (.if_icmp .le off, 3)) (ht : (pc : Int) + off = (tgt : Int)) (kt : x ≤ y → V' p l e R s m args below meth c A H0 Q D K4 ad nr nL cs sl tgt lv st H) (kf : ¬ (x ≤ y) → V' p l e R s m args below meth c A H0 Q D K4 ad nr nL cs sl (pc + 3) lv st H) : V' p l e R s m args below meth c A H0 Q D K4 ad nr nL cs sl pc lv (.int y :: .int x :: st) H :=
  fun Hh locs ls hP hD hS hl => lv_icmp_le hC.1 hC.2.1 hdg ht (fun h => kt h Hh locs ls hP hD hS hl) (fun h => kf h Hh locs ls hP hD hS hl)
theorem V_goto (hC : Cx p s m args c A H0 D K4 nL own cc) {off : Int} {tgt : Nat} (hdg : decode cc pc = .ok (.goto off, 3)) (ht : (pc : Int) + off = (tgt : Int)) (kk : V' p l e R s m args below meth c A H0 Q D K4 ad nr nL cs sl tgt lv st H) : V' p l e R s m args below meth c A H0 Q D K4 ad nr nL cs sl pc lv st H :=
  fun Hh locs ls hP hD hS hl => lv_goto hC.1 hC.2.1 hdg ht (kk Hh locs ls hP hD hS hl)
theorem V_lv (ks : List Nat) (h : lv_pick lv ks = lv') (kk : V' p l e R s m args below meth c A H0 Q D K4 ad nr nL cs sl pc lv' st H) : V' p l e R s m args below meth c A H0 Q D K4 ad nr nL cs sl pc lv st H :=
  fun Hh locs ls hP hD hS hl => kk Hh locs ls hP hD hS (lv_sub hl ks h)
theorem V_get (hC : Cx p s m args c A H0 D K4 nL own cc) {g k idx ci j : Nat} {v : Value} (hF : FL own idx ci j) (hok : okn nr g k = true) (hk : (kd g k).1 = ci + 4) (hv : fv ad H g k ci j = v) (hdg : decode cc pc = .ok (.getfield idx, 3)) (kk : V' p l e R s m args below meth c A H0 Q D K4 ad nr nL cs sl (pc + 3) lv (v :: st) H) : V' p l e R s m args below meth c A H0 Q D K4 ad nr nL cs sl pc lv (.ref (ad g k) :: st) H := by
  intro Hh locs ls hP hD hS hl
  obtain ⟨q0, hq, -⟩ := wl_get (K4 := K4) (ad := ad) (H := H) hok
  have hc : cel K4 ad H g k = .inr (ci, fls ad H g k ci) := by unfold cel; rw [hk]
  rw [hc] at hq
  obtain ⟨C, T, N, h1, h2, h2', h3, h4⟩ := hF
  have hv' : (fls ad H g k ci)[j]? = some v := by
    unfold fls
    rw [List.getElem?_map, List.getElem?_range h2']
    exact congrArg some hv
  rcases h4 with h4 | ⟨host, h4⟩
  · exact va_get hC.1 hC.2.1 hC.2.2.2.2.1 h3 hC.2.2.2.1 hC.2.2.2.2.2.1 hP q0 hq h1 j h2 (hC.2.2.2.2.1 _ h4) (fun x h => h) hv' hdg (kk Hh locs ls hP hD hS hl)
  · exact va_getN hC.1 hC.2.1 hC.2.2.2.2.1 h3 hC.2.2.2.1 hC.2.2.2.2.2.1 hP q0 hq h1 j h2 (va_Nw.use (A := args) rfl (hC.2.2.2.2.2.2.1 _ h4)) (fun x h => h) hv' hdg (kk Hh locs ls hP hD hS hl)
theorem V_getI (hC : Cx p s m args c A H0 D K4 nL own cc) {g k idx : Nat} (ci j : Nat) (hF : FL own idx ci j) (hok : okn nr g k = true) (hk : (kd g k).1 = ci + 4) (ht : fty ci j = 0) (hdg : decode cc pc = .ok (.getfield idx, 3)) (kk : V' p l e R s m args below meth c A H0 Q D K4 ad nr nL cs sl (pc + 3) lv (.int (gI H g k j) :: st) H) : V' p l e R s m args below meth c A H0 Q D K4 ad nr nL cs sl pc lv (.ref (ad g k) :: st) H :=
  V_get hC hF hok hk (by unfold fv; rw [ht]; rfl) hdg kk
theorem V_getJ (hC : Cx p s m args c A H0 D K4 nL own cc) {g k idx : Nat} (ci j : Nat) (hF : FL own idx ci j) (hok : okn nr g k = true) (hk : (kd g k).1 = ci + 4) (ht : fty ci j = 1) (hdg : decode cc pc = .ok (.getfield idx, 3)) (kk : V' p l e R s m args below meth c A H0 Q D K4 ad nr nL cs sl (pc + 3) lv (.long (gJ H g k j) :: st) H) : V' p l e R s m args below meth c A H0 Q D K4 ad nr nL cs sl pc lv (.ref (ad g k) :: st) H :=
  V_get hC hF hok hk (by unfold fv; rw [ht]; rfl) hdg kk
theorem V_getR (hC : Cx p s m args c A H0 D K4 nL own cc) {g k idx : Nat} (ci j : Nat) {g' k' : Nat} (hF : FL own idx ci j) (hok : okn nr g k = true) (hk : (kd g k).1 = ci + 4) (ht : fty ci j = 2) (hr : rfn g k j = (g', k')) (hdg : decode cc pc = .ok (.getfield idx, 3)) (kk : V' p l e R s m args below meth c A H0 Q D K4 ad nr nL cs sl (pc + 3) lv (.ref (ad g' k') :: st) H) : V' p l e R s m args below meth c A H0 Q D K4 ad nr nL cs sl pc lv (.ref (ad g k) :: st) H :=
  V_get hC hF hok hk (by unfold fv; rw [ht, hr]; rfl) hdg kk
theorem V_put (hC : Cx p s m args c A H0 D K4 nL own cc) {g k idx ci j : Nat} {v : Value} {ty : FieldType} {H' : Hp} (hF : FW own idx ci j ty) (hok : okn nr g k = true) (hk : (kd g k).1 = ci + 4) (hs : ∀ g' k', (g', k') ≠ (g, k) → cel K4 ad H' g' k' = cel K4 ad H g' k') (hv : fv ad H' g k ci j = v) (ho : ∀ i, i ≠ j → fv ad H' g k ci i = fv ad H g k ci i) (hn : narrow ty v = v) (hfit : fits ty v = true) (hdg : decode cc pc = .ok (.putfield idx, 3)) (kk : V' p l e R s m args below meth c A H0 Q D K4 ad nr nL cs sl (pc + 3) lv st H') : V' p l e R s m args below meth c A H0 Q D K4 ad nr nL cs sl pc lv (v :: .ref (ad g k) :: st) H := by
  intro Hh locs ls hP hD hS hl
  obtain ⟨q0, hq, hq2⟩ := wl_get (K4 := K4) (ad := ad) (H := H) hok
  have hc : cel K4 ad H g k = .inr (ci, fls ad H g k ci) := by unfold cel; rw [hk]
  have hc' : cel K4 ad H' g k = .inr (ci, (fls ad H g k ci).set j v) := by
    have h0 : (fls ad H g k ci).set j v = fls ad H' g k ci := rng_set _ _ _ j v hv ho
    rw [h0]; unfold cel; rw [hk]
  rw [hc] at hq
  obtain ⟨C, T, N, ty0, h1, h2, h2', h3, h4, h5, h6, h7, h8⟩ := hF
  have hlen : j < (fls ad H g k ci).length := by unfold fls; rw [List.length_map, List.length_range]; exact h2'
  have hw := wl_set hD hq2 hs hc'
  rcases h4 with h4 | ⟨host, h4⟩
  · refine va_put hC.1 hC.2.1 hC.2.2.2.2.1 h3 ty0 h5 h6 hC.2.2.2.1 hC.2.2.2.2.2.1 hP hD hS q0 hq h1 j h2 (hC.2.2.2.2.1 _ h4) (fun x h => h) h7 h8 hn hfit hlen hdg (fun H1 locs1 a1 a2 a3 => ?_)
    rw [hw] at a1 a2
    exact kk H1 locs1 ls a1 a2 a3 hl
  · refine va_putN hC.1 hC.2.1 hC.2.2.2.2.1 h3 ty0 h5 h6 hC.2.2.2.1 hC.2.2.2.2.2.1 hP hD hS q0 hq h1 j h2 (va_Nw.use (A := args) rfl (hC.2.2.2.2.2.2.1 _ h4)) (fun x h => h) h7 h8 hn hfit hlen hdg (fun H1 locs1 a1 a2 a3 => ?_)
    rw [hw] at a1 a2
    exact kk H1 locs1 ls a1 a2 a3 hl
theorem V_putI (hC : Cx p s m args c A H0 D K4 nL own cc) {g k idx : Nat} (ci j : Nat) {x : Int32} (ty : FieldType) (hF : FW own idx ci j ty) (hok : okn nr g k = true) (hk : (kd g k).1 = ci + 4) (ht : fty ci j = 0) (hn : narrow ty (.int x) = .int x) (hfit : fits ty (.int x) = true) (hdg : decode cc pc = .ok (.putfield idx, 3)) (kk : V' p l e R s m args below meth c A H0 Q D K4 ad nr nL cs sl (pc + 3) lv st (sI H g k j x)) : V' p l e R s m args below meth c A H0 Q D K4 ad nr nL cs sl pc lv (.int x :: .ref (ad g k) :: st) H := by
  refine V_put hC hF hok hk cel_sI ?_ ?_ hn hfit hdg kk
  · unfold fv; rw [ht, sI_row]; show Value.int (upd (H.1 g k) j x j) = _; unfold upd; rw [if_pos rfl]
  · intro i hi
    unfold fv; rw [sI_row]; unfold upd; rw [if_neg hi]; rfl
theorem V_putJ (hC : Cx p s m args c A H0 D K4 nL own cc) {g k idx : Nat} (ci j : Nat) {x : Int64} (ty : FieldType) (hF : FW own idx ci j ty) (hok : okn nr g k = true) (hk : (kd g k).1 = ci + 4) (ht : fty ci j = 1) (hn : narrow ty (.long x) = .long x) (hfit : fits ty (.long x) = true) (hdg : decode cc pc = .ok (.putfield idx, 3)) (kk : V' p l e R s m args below meth c A H0 Q D K4 ad nr nL cs sl (pc + 3) lv st (sJ H g k j x)) : V' p l e R s m args below meth c A H0 Q D K4 ad nr nL cs sl pc lv (.long x :: .ref (ad g k) :: st) H := by
  refine V_put hC hF hok hk cel_sJ ?_ ?_ hn hfit hdg kk
  · unfold fv; rw [ht, sJ_row]; show Value.long (vp_updL (H.2.1 g k) j x j) = _; unfold vp_updL; rw [if_pos rfl]
  · intro i hi
    unfold fv; rw [sJ_row]; unfold vp_updL; rw [if_neg hi]; rfl
theorem V_iald (hC : Cx p s m args c A H0 D K4 nL own cc) {g k n : Nat} {i : Int32} (hok : okn nr g k = true) (hk : kd g k = (0, n)) (hin : vp_in i n) (hdg : decode cc pc = .ok (.iaload, 1)) (kk : V' p l e R s m args below meth c A H0 Q D K4 ad nr nL cs sl (pc + 1) lv (.int (gI H g k i.toNatClampNeg) :: st) H) : V' p l e R s m args below meth c A H0 Q D K4 ad nr nL cs sl pc lv (.int i :: .ref (ad g k) :: st) H := by
  intro Hh locs ls hP hD hS hl
  obtain ⟨q0, hq, -⟩ := wl_get (K4 := K4) (ad := ad) (H := H) hok
  have hc : cel K4 ad H g k = .inl (K4.1, n, .inl (H.1 g k)) := by unfold cel; rw [hk]
  rw [hc] at hq
  exact va_iald hC.1 hC.2.1 hC.2.2.2.2.2.1 hP q0 0 hq rfl hin hdg (kk Hh locs ls hP hD hS hl)
theorem V_zald (hC : Cx p s m args c A H0 D K4 nL own cc) {g k n : Nat} {i : Int32} (hok : okn nr g k = true) (hk : kd g k = (2, n)) (hin : vp_in i n) (hdg : decode cc pc = .ok (.baload, 1)) (kk : V' p l e R s m args below meth c A H0 Q D K4 ad nr nL cs sl (pc + 1) lv (.int (gI H g k i.toNatClampNeg) :: st) H) : V' p l e R s m args below meth c A H0 Q D K4 ad nr nL cs sl pc lv (.int i :: .ref (ad g k) :: st) H := by
  intro Hh locs ls hP hD hS hl
  obtain ⟨q0, hq, -⟩ := wl_get (K4 := K4) (ad := ad) (H := H) hok
  have hc : cel K4 ad H g k = .inl (K4.2.2.1, n, .inl (H.1 g k)) := by unfold cel; rw [hk]
  rw [hc] at hq
  exact va_zald hC.1 hC.2.1 hC.2.2.2.2.2.1 hP q0 2 hq rfl hin hdg (kk Hh locs ls hP hD hS hl)
theorem V_lald (hC : Cx p s m args c A H0 D K4 nL own cc) {g k n : Nat} {i : Int32} (hok : okn nr g k = true) (hk : kd g k = (1, n)) (hin : vp_in i n) (hdg : decode cc pc = .ok (.laload, 1)) (kk : V' p l e R s m args below meth c A H0 Q D K4 ad nr nL cs sl (pc + 1) lv (.long (gJ H g k i.toNatClampNeg) :: st) H) : V' p l e R s m args below meth c A H0 Q D K4 ad nr nL cs sl pc lv (.int i :: .ref (ad g k) :: st) H := by
  intro Hh locs ls hP hD hS hl
  obtain ⟨q0, hq, -⟩ := wl_get (K4 := K4) (ad := ad) (H := H) hok
  have hc : cel K4 ad H g k = .inl (K4.2.1, n, .inr (.inl (H.2.1 g k))) := by unfold cel; rw [hk]
  rw [hc] at hq
  exact va_lald hC.1 hC.2.1 hC.2.2.2.2.2.1 hP q0 1 hq rfl hin hdg (kk Hh locs ls hP hD hS hl)
theorem V_aald (hC : Cx p s m args c A H0 D K4 nL own cc) {g k n : Nat} {i : Int32} (hok : okn nr g k = true) (hk : kd g k = (3, n)) (hin : vp_in i n) (hdg : decode cc pc = .ok (.aaload, 1)) (kk : V' p l e R s m args below meth c A H0 Q D K4 ad nr nL cs sl (pc + 1) lv (vr ad (gR H g k i.toNatClampNeg) :: st) H) : V' p l e R s m args below meth c A H0 Q D K4 ad nr nL cs sl pc lv (.int i :: .ref (ad g k) :: st) H := by
  intro Hh locs ls hP hD hS hl
  obtain ⟨q0, hq, -⟩ := wl_get (K4 := K4) (ad := ad) (H := H) hok
  have hc : cel K4 ad H g k = .inl (K4.2.2.2, n, .inr (.inr (.inr (.inr (fun i => (H.2.2 g k i).map (fun r => ad (r + 2) 0)))))) := by unfold cel; rw [hk]
  rw [hc] at hq
  exact va_aldq hC.1 hC.2.1 hC.2.2.2.2.2.1 hP q0 3 hq rfl hin hdg (kk Hh locs ls hP hD hS hl)
theorem V_iast (hC : Cx p s m args c A H0 D K4 nL own cc) {g k n : Nat} {i x : Int32} (hok : okn nr g k = true) (hk : kd g k = (0, n)) (hin : vp_in i n) (hdg : decode cc pc = .ok (.iastore, 1)) (kk : V' p l e R s m args below meth c A H0 Q D K4 ad nr nL cs sl (pc + 1) lv st (sI H g k i.toNatClampNeg x)) : V' p l e R s m args below meth c A H0 Q D K4 ad nr nL cs sl pc lv (.int x :: .int i :: .ref (ad g k) :: st) H := by
  intro Hh locs ls hP hD hS hl
  obtain ⟨q0, hq, hq2⟩ := wl_get (K4 := K4) (ad := ad) (H := H) hok
  have hc : cel K4 ad H g k = .inl (K4.1, n, .inl (H.1 g k)) := by unfold cel; rw [hk]
  have hc' : cel K4 ad (sI H g k i.toNatClampNeg x) g k = .inl (K4.1, n, .inl (upd (H.1 g k) i.toNatClampNeg x)) := by unfold cel; rw [hk, sI_row]
  rw [hc] at hq
  have hw := wl_set hD hq2 cel_sI hc'
  refine va_iast hC.1 hC.2.1 hC.2.2.2.2.2.1 hP hD hS q0 0 hq rfl hin hdg (fun H1 locs1 a1 a2 a3 => ?_)
  rw [hw] at a1 a2
  exact kk H1 locs1 ls a1 a2 a3 hl
theorem V_zast (hC : Cx p s m args c A H0 D K4 nL own cc) {g k n : Nat} {i x : Int32} (hok : okn nr g k = true) (hk : kd g k = (2, n)) (hin : vp_in i n) (hdg : decode cc pc = .ok (.bastore, 1)) (kk : V' p l e R s m args below meth c A H0 Q D K4 ad nr nL cs sl (pc + 1) lv st (sI H g k i.toNatClampNeg (vp_nar .boolean x))) : V' p l e R s m args below meth c A H0 Q D K4 ad nr nL cs sl pc lv (.int x :: .int i :: .ref (ad g k) :: st) H := by
  intro Hh locs ls hP hD hS hl
  obtain ⟨q0, hq, hq2⟩ := wl_get (K4 := K4) (ad := ad) (H := H) hok
  have hc : cel K4 ad H g k = .inl (K4.2.2.1, n, .inl (H.1 g k)) := by unfold cel; rw [hk]
  have hc' : cel K4 ad (sI H g k i.toNatClampNeg (vp_nar .boolean x)) g k = .inl (K4.2.2.1, n, .inl (upd (H.1 g k) i.toNatClampNeg (vp_nar .boolean x))) := by unfold cel; rw [hk, sI_row]
  rw [hc] at hq
  have hw := wl_set hD hq2 cel_sI hc'
  refine va_zast hC.1 hC.2.1 hC.2.2.2.2.2.1 hP hD hS q0 2 hq rfl hin hdg (fun H1 locs1 a1 a2 a3 => ?_)
  rw [hw] at a1 a2
  exact kk H1 locs1 ls a1 a2 a3 hl
theorem V_last (hC : Cx p s m args c A H0 D K4 nL own cc) {g k n : Nat} {i : Int32} {x : Int64} (hok : okn nr g k = true) (hk : kd g k = (1, n)) (hin : vp_in i n) (hdg : decode cc pc = .ok (.lastore, 1)) (kk : V' p l e R s m args below meth c A H0 Q D K4 ad nr nL cs sl (pc + 1) lv st (sJ H g k i.toNatClampNeg x)) : V' p l e R s m args below meth c A H0 Q D K4 ad nr nL cs sl pc lv (.long x :: .int i :: .ref (ad g k) :: st) H := by
  intro Hh locs ls hP hD hS hl
  obtain ⟨q0, hq, hq2⟩ := wl_get (K4 := K4) (ad := ad) (H := H) hok
  have hc : cel K4 ad H g k = .inl (K4.2.1, n, .inr (.inl (H.2.1 g k))) := by unfold cel; rw [hk]
  have hc' : cel K4 ad (sJ H g k i.toNatClampNeg x) g k = .inl (K4.2.1, n, .inr (.inl (vp_updL (H.2.1 g k) i.toNatClampNeg x))) := by unfold cel; rw [hk, sJ_row]
  rw [hc] at hq
  have hw := wl_set hD hq2 cel_sJ hc'
  refine va_last hC.1 hC.2.1 hC.2.2.2.2.2.1 hP hD hS q0 1 hq rfl hin hdg (fun H1 locs1 a1 a2 a3 => ?_)
  rw [hw] at a1 a2
  exact kk H1 locs1 ls a1 a2 a3 hl
theorem V_aast (hC : Cx p s m args c A H0 D K4 nL own cc) {g k n r : Nat} {i : Int32} (hok : okn nr g k = true) (hk : kd g k = (3, n)) (hr : r < nr) (hin : vp_in i n) (hdg : decode cc pc = .ok (.aastore, 1)) (kk : V' p l e R s m args below meth c A H0 Q D K4 ad nr nL cs sl (pc + 1) lv st (sR H g k i.toNatClampNeg (some r))) : V' p l e R s m args below meth c A H0 Q D K4 ad nr nL cs sl pc lv (.ref (ad (r + 2) 0) :: .int i :: .ref (ad g k) :: st) H := by
  intro Hh locs ls hP hD hS hl
  obtain ⟨q0, hq, hq2⟩ := wl_get (K4 := K4) (ad := ad) (H := H) hok
  obtain ⟨q1, hq1, -⟩ := wl_get (K4 := K4) (ad := ad) (H := H) (okR (k := 0) hr rfl)
  have hc : cel K4 ad H g k = .inl (K4.2.2.2, n, .inr (.inr (.inr (.inr (fun i => (H.2.2 g k i).map (fun r => ad (r + 2) 0)))))) := by unfold cel; rw [hk]
  have hc' : cel K4 ad (sR H g k i.toNatClampNeg (some r)) g k = .inl (K4.2.2.2, n, .inr (.inr (.inr (.inr (va_up (fun i => (H.2.2 g k i).map (fun r => ad (r + 2) 0)) i.toNatClampNeg (some (ad (r + 2) 0))))))) := by
    unfold cel; rw [hk]
    have h0 : (fun j => ((sR H g k i.toNatClampNeg (some r)).2.2 g k j).map (fun r => ad (r + 2) 0)) = va_up (fun i => (H.2.2 g k i).map (fun r => ad (r + 2) 0)) i.toNatClampNeg (some (ad (r + 2) 0)) := by
      funext j
      show Option.map _ (if g = g ∧ k = k ∧ j = i.toNatClampNeg then some r else H.2.2 g k j) = if j = i.toNatClampNeg then _ else _
      by_cases hj : j = i.toNatClampNeg
      · rw [if_pos ⟨rfl, rfl, hj⟩, if_pos hj]; rfl
      · rw [if_neg (fun q => hj q.2.2), if_neg hj]
    show Sum.inl _ = _
    rw [h0]
  rw [hc] at hq
  have hw := wl_set hD hq2 cel_sR hc'
  refine va_astq hC.1 hC.2.1 hC.2.2.2.2.2.1 hP hD hS q0 3 q1 2 (r := (RX2, TX2, 9)) hq rfl hq1 rfl hin hdg (fun H1 locs1 a1 a2 a3 => ?_)
  rw [hw] at a1 a2
  exact kk H1 locs1 ls a1 a2 a3 hl
theorem V_alen (hC : Cx p s m args c A H0 D K4 nL own cc) {g k t n : Nat} {v : Int32} (hok : okn nr g k = true) (hk : kd g k = (t, n)) (ht : t < 4) (hv : Int32.ofNat n = v) (hdg : decode cc pc = .ok (.arraylength, 1)) (kk : V' p l e R s m args below meth c A H0 Q D K4 ad nr nL cs sl (pc + 1) lv (.int v :: st) H) : V' p l e R s m args below meth c A H0 Q D K4 ad nr nL cs sl pc lv (.ref (ad g k) :: st) H := by
  intro Hh locs ls hP hD hS hl
  obtain ⟨q0, hq, -⟩ := wl_get (K4 := K4) (ad := ad) (H := H) hok
  rcases (show t = 0 ∨ t = 1 ∨ t = 2 ∨ t = 3 by omega) with rfl | rfl | rfl | rfl
  · have hc : cel K4 ad H g k = .inl (K4.1, n, .inl (H.1 g k)) := by unfold cel; rw [hk]
    rw [hc] at hq
    exact va_alen hC.1 hC.2.1 hC.2.2.2.2.2.1 hP q0 0 hq rfl hv hdg (kk Hh locs ls hP hD hS hl)
  · have hc : cel K4 ad H g k = .inl (K4.2.1, n, .inr (.inl (H.2.1 g k))) := by unfold cel; rw [hk]
    rw [hc] at hq
    exact va_alen hC.1 hC.2.1 hC.2.2.2.2.2.1 hP q0 1 hq rfl hv hdg (kk Hh locs ls hP hD hS hl)
  · have hc : cel K4 ad H g k = .inl (K4.2.2.1, n, .inl (H.1 g k)) := by unfold cel; rw [hk]
    rw [hc] at hq
    exact va_alen hC.1 hC.2.1 hC.2.2.2.2.2.1 hP q0 2 hq rfl hv hdg (kk Hh locs ls hP hD hS hl)
  · have hc : cel K4 ad H g k = .inl (K4.2.2.2, n, .inr (.inr (.inr (.inr (fun i => (H.2.2 g k i).map (fun r => ad (r + 2) 0)))))) := by unfold cel; rw [hk]
    rw [hc] at hq
    exact va_alen hC.1 hC.2.1 hC.2.2.2.2.2.1 hP q0 3 hq rfl hv hdg (kk Hh locs ls hP hD hS hl)
theorem V_aloadq_n (hC : Cx p s m args c A H0 D K4 nL own cc) {i : Fin 4} {o : Option Nat} (k : Nat) (hdg : decode cc pc = .ok (.aload_n i, 1)) (hv : lv[k]? = some ((i : Nat), vr ad o)) (kk : V' p l e R s m args below meth c A H0 Q D K4 ad nr nL cs sl (pc + 1) lv (vr ad o :: st) H) : V' p l e R s m args below meth c A H0 Q D K4 ad nr nL cs sl pc lv st H := by
  intro Hh locs ls hP hD hS hl
  cases o with
  | none => exact lv_aload_nN hC.1 hC.2.1 hdg rfl (lv_at hl k hv) (kk Hh locs ls hP hD hS hl)
  | some r => exact lv_aload_n hC.1 hC.2.1 hdg rfl (lv_at hl k hv) (kk Hh locs ls hP hD hS hl)
theorem V_aloadq (hC : Cx p s m args c A H0 D K4 nL own cc) {i : Nat} {o : Option Nat} (k : Nat) (hdg : decode cc pc = .ok (.aload i, 2)) (hv : lv[k]? = some (i, vr ad o)) (kk : V' p l e R s m args below meth c A H0 Q D K4 ad nr nL cs sl (pc + 2) lv (vr ad o :: st) H) : V' p l e R s m args below meth c A H0 Q D K4 ad nr nL cs sl pc lv st H := by
  intro Hh locs ls hP hD hS hl
  cases o with
  | none => exact lv_aloadN hC.1 hC.2.1 hdg (lv_at hl k hv) (kk Hh locs ls hP hD hS hl)
  | some r => exact lv_aload hC.1 hC.2.1 hdg (lv_at hl k hv) (kk Hh locs ls hP hD hS hl)
theorem V_astoreq_n (hC : Cx p s m args c A H0 D K4 nL own cc) {i : Fin 4} {o : Option Nat} (hdg : decode cc pc = .ok (.astore_n i, 1)) (hn : (i : Nat) < nL) (hl' : ((i : Nat), vr ad o) :: lv.filter (fun q => !(q.1 == (i : Nat)) && !(q.1 + 1 == (i : Nat) && q.2.category == 2)) = lv') (kk : V' p l e R s m args below meth c A H0 Q D K4 ad nr nL cs sl (pc + 1) lv' st H) : V' p l e R s m args below meth c A H0 Q D K4 ad nr nL cs sl pc lv (vr ad o :: st) H := by
  intro Hh locs ls hP hD hS hl
  cases o with
  | none => exact lv_astore_nN hC.1 hC.2.1 hdg rfl hl hn hl' (fun ls' hl2 => kk Hh locs ls' hP hD hS hl2)
  | some r => exact lv_astore_n hC.1 hC.2.1 hdg rfl hl hn hl' (fun ls' hl2 => kk Hh locs ls' hP hD hS hl2)
theorem V_astoreq (hC : Cx p s m args c A H0 D K4 nL own cc) {i : Nat} {o : Option Nat} (hdg : decode cc pc = .ok (.astore i, 2)) (hn : i < nL) (hl' : (i, vr ad o) :: lv.filter (fun q => !(q.1 == i) && !(q.1 + 1 == i && q.2.category == 2)) = lv') (kk : V' p l e R s m args below meth c A H0 Q D K4 ad nr nL cs sl (pc + 2) lv' st H) : V' p l e R s m args below meth c A H0 Q D K4 ad nr nL cs sl pc lv (vr ad o :: st) H := by
  intro Hh locs ls hP hD hS hl
  cases o with
  | none => exact lv_astoreN hC.1 hC.2.1 hdg hl hn hl' (fun ls' hl2 => kk Hh locs ls' hP hD hS hl2)
  | some r => exact lv_astore hC.1 hC.2.1 hdg hl hn hl' (fun ls' hl2 => kk Hh locs ls' hP hD hS hl2)
theorem V_null (hC : Cx p s m args c A H0 D K4 nL own cc) (hdg : decode cc pc = .ok (.aconst_null, 1)) (kk : V' p l e R s m args below meth c A H0 Q D K4 ad nr nL cs sl (pc + 1) lv (vr ad none :: st) H) : V' p l e R s m args below meth c A H0 Q D K4 ad nr nL cs sl pc lv st H :=
  fun Hh locs ls hP hD hS hl => lv_null hC.1 hC.2.1 hdg (kk Hh locs ls hP hD hS hl)
theorem V_ifnullN (hC : Cx p s m args c A H0 D K4 nL own cc) {off : Int} {tgt : Nat} (hdg : decode cc pc = .ok (.ifnull off, 3)) (ht : (pc : Int) + off = (tgt : Int)) (kk : V' p l e R s m args below meth c A H0 Q D K4 ad nr nL cs sl tgt lv st H) : V' p l e R s m args below meth c A H0 Q D K4 ad nr nL cs sl pc lv (vr ad none :: st) H :=
  fun Hh locs ls hP hD hS hl => lv_ifnullN hC.1 hC.2.1 hdg ht (kk Hh locs ls hP hD hS hl)
theorem V_ifnullS (hC : Cx p s m args c A H0 D K4 nL own cc) {off : Int} {r : Nat} (hdg : decode cc pc = .ok (.ifnull off, 3)) (kk : V' p l e R s m args below meth c A H0 Q D K4 ad nr nL cs sl (pc + 3) lv st H) : V' p l e R s m args below meth c A H0 Q D K4 ad nr nL cs sl pc lv (vr ad (some r) :: st) H :=
  fun Hh locs ls hP hD hS hl => lv_ifnull hC.1 hC.2.1 hdg (kk Hh locs ls hP hD hS hl)
theorem V_ifnonnullN (hC : Cx p s m args c A H0 D K4 nL own cc) {off : Int} (hdg : decode cc pc = .ok (.ifnonnull off, 3)) (kk : V' p l e R s m args below meth c A H0 Q D K4 ad nr nL cs sl (pc + 3) lv st H) : V' p l e R s m args below meth c A H0 Q D K4 ad nr nL cs sl pc lv (vr ad none :: st) H :=
  fun Hh locs ls hP hD hS hl => lv_ifnonnullN hC.1 hC.2.1 hdg (kk Hh locs ls hP hD hS hl)
theorem V_ifnonnullS (hC : Cx p s m args c A H0 D K4 nL own cc) {off : Int} {tgt r : Nat} (hdg : decode cc pc = .ok (.ifnonnull off, 3)) (ht : (pc : Int) + off = (tgt : Int)) (kk : V' p l e R s m args below meth c A H0 Q D K4 ad nr nL cs sl tgt lv st H) : V' p l e R s m args below meth c A H0 Q D K4 ad nr nL cs sl pc lv (vr ad (some r) :: st) H :=
  fun Hh locs ls hP hD hS hl => lv_ifnonnull hC.1 hC.2.1 hdg ht (kk Hh locs ls hP hD hS hl)
theorem V_tabIn (hC : Cx p s m args c A H0 D K4 nL own cc) {dflt lo hi : Int} {offs : Array Int} {len : Nat} {x : Int32} {off : Int} {tgt : Nat} (hdg : decode cc pc = .ok (.tableswitch dflt lo hi offs, len)) (h1 : ¬ x.toInt < lo) (h2 : ¬ hi < x.toInt) (ho : offs[(x.toInt - lo).toNat]? = some off) (ht : (pc : Int) + off = (tgt : Int)) (kk : V' p l e R s m args below meth c A H0 Q D K4 ad nr nL cs sl tgt lv st H) : V' p l e R s m args below meth c A H0 Q D K4 ad nr nL cs sl pc lv (.int x :: st) H :=
  fun Hh locs ls hP hD hS hl => lv_tableIn hC.1 hC.2.1 hdg h1 h2 ho ht (kk Hh locs ls hP hD hS hl)
theorem V_tabOut (hC : Cx p s m args c A H0 D K4 nL own cc) {dflt lo hi : Int} {offs : Array Int} {len : Nat} {x : Int32} {tgt : Nat} (hdg : decode cc pc = .ok (.tableswitch dflt lo hi offs, len)) (h : x.toInt < lo ∨ hi < x.toInt) (ht : (pc : Int) + dflt = (tgt : Int)) (kk : V' p l e R s m args below meth c A H0 Q D K4 ad nr nL cs sl tgt lv st H) : V' p l e R s m args below meth c A H0 Q D K4 ad nr nL cs sl pc lv (.int x :: st) H :=
  fun Hh locs ls hP hD hS hl => lv_tableOut hC.1 hC.2.1 hdg h ht (kk Hh locs ls hP hD hS hl)
theorem V_mmin (hC : Cx p s m args c A H0 D K4 nL own cc) {idx : Nat} {x y : Int32} (hw : ∀ w ∈ ([Cond.methodLink own idx Lib.Math.min.name, Cond.static Lib.Math.min.name, Cond.initialized "java/lang/Math", Cond.code Lib.Math.min.name Lib.Math.min.code 2 (some .int)] : List Cond), w ∈ GW) (hR : 1 ≤ R.frames ∧ (st.map fun v => v.category).sum + 13 ≤ R.locals) (hdg : decode cc pc = .ok (.invokestatic idx, 3)) (kk : V' p l e R s m args below meth c A H0 Q D K4 ad nr nL cs sl (pc + 3) lv (.int (if y < x then y else x) :: st) H) (hcs : cs ≤ R.cells ∧ sl ≤ R.slots := by first | exact ⟨Nat.zero_le _, Nat.zero_le _⟩ | assumption) : V' p l e R s m args below meth c A H0 Q D K4 ad nr nL cs sl pc lv (.int y :: .int x :: st) H :=
  fun Hh locs ls hP hD hS hl => va_mmin hC.1 hC.2.1 (hC.2.2.1.trans hl.1.symm) hC.2.2.2.1 (hC.2.2.2.2.1 _ (hw _ (by simp))) (hC.2.2.2.2.1 _ (hw _ (by simp))) (hC.2.2.2.2.1 _ (hw _ (by simp))) (hC.2.2.2.2.1 _ (hw _ (by simp))) hR.1 hR.2 hcs.1 hcs.2 hdg (kk Hh locs ls hP hD hS hl)
theorem V_mabs (hC : Cx p s m args c A H0 D K4 nL own cc) {idx : Nat} {x : Int32} (hw : ∀ w ∈ ([Cond.methodLink own idx Lib.Math.abs.name, Cond.static Lib.Math.abs.name, Cond.initialized "java/lang/Math", Cond.code Lib.Math.abs.name Lib.Math.abs.code 1 (some .int)] : List Cond), w ∈ GW) (hR : 1 ≤ R.frames ∧ (st.map fun v => v.category).sum + 13 ≤ R.locals) (hdg : decode cc pc = .ok (.invokestatic idx, 3)) (kk : V' p l e R s m args below meth c A H0 Q D K4 ad nr nL cs sl (pc + 3) lv (.int (if 0 ≤ x then x else 0 - x) :: st) H) (hcs : cs ≤ R.cells ∧ sl ≤ R.slots := by first | exact ⟨Nat.zero_le _, Nat.zero_le _⟩ | assumption) : V' p l e R s m args below meth c A H0 Q D K4 ad nr nL cs sl pc lv (.int x :: st) H :=
  fun Hh locs ls hP hD hS hl => va_mabs hC.1 hC.2.1 (hC.2.2.1.trans hl.1.symm) hC.2.2.2.1 (hC.2.2.2.2.1 _ (hw _ (by simp))) (hC.2.2.2.2.1 _ (hw _ (by simp))) (hC.2.2.2.2.1 _ (hw _ (by simp))) (hC.2.2.2.2.1 _ (hw _ (by simp))) hR.1 hR.2 hcs.1 hcs.2 hdg (kk Hh locs ls hP hD hS hl)
/-- contracts -/
theorem nw_on {w : Cond} (h : w ∈ NW) : w.onTables = true := by
  have h2 := (List.mem_filter.mp h).2
  unfold isNW at h2
  split at h2
  · rfl
  · rfl
  · cases h2
theorem nw_warm {w : Cond} (h : w ∈ NW) {s U : State} (hW : s.WarmedH U.vm) (hz : va_Nw w s) : va_Nw w U := by
  have h2 := (List.mem_filter.mp h).2
  unfold isNW at h2
  split at h2
  · exact va_Nw.warmF hW hz
  · exact va_Nw.warmM hW hz
  · cases h2
def PcB (D : va_G) (K4 : kQ) (ad : Nat → Nat → Nat) (nr : Nat) (H : Hp) (sz : Nat) (U : State) : Prop := U.heap.size = sz ∧ va_P D vwCl (wl K4 ad nr H) U.heap ∧ va_K D vwCl (tys4 K4) U ∧ (∀ w ∈ NW, va_Nw w U) ∧ va_D (fun _ => True) (wl K4 ad nr H)
def Bw (D : va_G) (K4 : kQ) (ad : Nat → Nat → Nat) (nr : Nat) (A : Nat → Prop) (u : Hp) (t : State) : Prop := va_P D vwCl (wl K4 ad nr u) t.heap ∧ va_D A (wl K4 ad nr u)
def PcW (D : va_G) (K4 : kQ) (ad : Nat → Nat → Nat) (nr : Nat) (H : Hp) (sz : Nat) (as : List Value) : Array Value → State → Prop := va_Pc as (PcB D K4 ad nr H sz)
theorem PcW_blind (D : va_G) (K4 : kQ) (ad : Nat → Nat → Nat) (nr : Nat) (H : Hp) (sz : Nat) (as : List Value) : FrameBlind (PcW D K4 ad nr H sz as) := by
  intro a U g mk q
  obtain ⟨q0, q1, qP, qK, qN, qD⟩ := q
  exact ⟨q0, q1, qP, va_K.moved (u := U) (U := U.calling g mk a) (Vm.Alike.refl U.vm) qK, fun w hw => va_Nw.same (u := U) (nw_on hw) rfl (qN w hw), qD⟩
def CI (l : Launch) (nr : Nat) (y : MethodName) (cy : ByteArray) (ny : Nat) (rt : Option FieldType) (fr lc : Nat) (as : (Nat → Nat → Nat) → List Value) (H : Hp) (r : Int32) (H' : Hp) : Prop :=
  ∀ (D : va_G) (K4 : kQ) (ad : Nat → Nat → Nat) (sz : Nat), Met l y (.code y cy ny rt :: GW) ({ frames := fr, cells := 0, slots := 0, locals := lc }) (PcW D K4 ad nr H sz (as ad)) (va_Qi (fun q u => q = r ∧ u = H') (Bw D K4 ad nr (va_A (wl K4 ad nr H) sz)) (va_A (wl K4 ad nr H) sz)) 0 0 (va_A (wl K4 ad nr H) sz)
def CJ (l : Launch) (nr : Nat) (y : MethodName) (cy : ByteArray) (ny : Nat) (rt : Option FieldType) (fr lc : Nat) (as : (Nat → Nat → Nat) → List Value) (H : Hp) (r : Int64) (H' : Hp) : Prop :=
  ∀ (D : va_G) (K4 : kQ) (ad : Nat → Nat → Nat) (sz : Nat), Met l y (.code y cy ny rt :: GW) ({ frames := fr, cells := 0, slots := 0, locals := lc }) (PcW D K4 ad nr H sz (as ad)) (va_Ql (fun q u => q = r ∧ u = H') (Bw D K4 ad nr (va_A (wl K4 ad nr H) sz)) (va_A (wl K4 ad nr H) sz)) 0 0 (va_A (wl K4 ad nr H) sz)
def CU (l : Launch) (nr : Nat) (y : MethodName) (cy : ByteArray) (ny : Nat) (rt : Option FieldType) (fr lc : Nat) (as : (Nat → Nat → Nat) → List Value) (H : Hp) (_ : Unit) (H' : Hp) : Prop :=
  ∀ (D : va_G) (K4 : kQ) (ad : Nat → Nat → Nat) (sz : Nat), Met l y (.code y cy ny rt :: GW) ({ frames := fr, cells := 0, slots := 0, locals := lc }) (PcW D K4 ad nr H sz (as ad)) (va_Qv (fun u => u = H') (Bw D K4 ad nr (va_A (wl K4 ad nr H) sz)) (va_A (wl K4 ad nr H) sz)) 0 0 (va_A (wl K4 ad nr H) sz)
def CQ (l : Launch) (nr : Nat) (y : MethodName) (cy : ByteArray) (ny : Nat) (rt : Option FieldType) (fr lc : Nat) (as : (Nat → Nat → Nat) → List Value) (H : Hp) (r : Option Nat) (H' : Hp) : Prop :=
  ∀ (D : va_G) (K4 : kQ) (ad : Nat → Nat → Nat) (sz : Nat), Met l y (.code y cy ny rt :: GW) ({ frames := fr, cells := 0, slots := 0, locals := lc }) (PcW D K4 ad nr H sz (as ad)) (va_Qq (fun q u => q = r.map (fun r => ad (r + 2) 0) ∧ u = H') (Bw D K4 ad nr (va_A (wl K4 ad nr H) sz)) (va_A (wl K4 ad nr H) sz)) 0 0 (va_A (wl K4 ad nr H) sz)
/-- a link to a method of class number ci, with n parameters -/
def ML (own : String) (idx : Nat) (y : MethodName) (cy : ByteArray) (ny : Nat) (rt : Option FieldType) (ci n : Nat) : Prop := (∃ T N, vwCl[ci]? = some (y.cls, T, N)) ∧ (∀ w ∈ ([.methodLink own idx y, .instanceMethod y, .selects y.cls y y, .initialized y.cls, .code y cy ny rt] : List Cond), w ∈ GW) ∧ (y.cls ≠ "java/lang/invoke/MethodHandle" ∧ y.cls ≠ "java/lang/invoke/VarHandle" ∧ (parseMethodDescriptor y.desc).map (fun d => d.parameters.length) = some n)
def MS (own : String) (idx : Nat) (y : MethodName) (cy : ByteArray) (ny : Nat) (rt : Option FieldType) (n : Nat) : Prop := (∀ w ∈ ([.methodLink own idx y, .static y, .initialized own, .code y cy ny rt] : List Cond), w ∈ GW) ∧ (y.cls = own ∧ y.cls ≠ "java/lang/invoke/MethodHandle" ∧ y.cls ≠ "java/lang/invoke/VarHandle" ∧ (parseMethodDescriptor y.desc).map (fun d => d.parameters.length) = some n)
theorem gsub {ws : List Cond} (h : ∀ w ∈ ws, w ∈ GW) : GoodIn GW ws := fun w hw => ⟨h w hw, good_of_word (List.mem_filter.mp (h w hw)).2⟩
theorem ML.cw {R : Room} {s : State} {args : Array Value} {own : String} {idx : Nat} {y : MethodName} {cy : ByteArray} {ny : Nat} {rt : Option FieldType} {ci n fr lc : Nat} (h : ML own idx y cy ny rt ci n) (ht : ∀ w ∈ GW, w.before args s = true) (hR : fr + 1 ≤ R.frames ∧ 8 + (ny + 11) + lc ≤ R.locals) : CallW R s args own y.cls idx y cy ny rt (.code y cy ny rt :: GW) ({ frames := fr, cells := 0, slots := 0, locals := lc }) 0 0 n := by
  refine cwV n ht (gsub ?_) rfl rfl rfl ⟨rfl, h.2.2⟩ hR
  intro w hw
  rcases List.mem_append.mp hw with q | q
  · exact h.2.1 w (by simp only [List.mem_cons, List.not_mem_nil, or_false] at q ⊢; rcases q with q | q | q | q <;> simp [q])
  · rcases List.mem_cons.mp q with q | q
    · exact h.2.1 w (by simp [q])
    · exact q
theorem MS.cw {R : Room} {s : State} {args : Array Value} {own : String} {idx : Nat} {y : MethodName} {cy : ByteArray} {ny : Nat} {rt : Option FieldType} {n fr lc : Nat} (h : MS own idx y cy ny rt n) (ht : ∀ w ∈ GW, w.before args s = true) (hR : fr + 1 ≤ R.frames ∧ 8 + (ny + 11) + lc ≤ R.locals) : CallB R s args own idx y cy ny rt (.code y cy ny rt :: GW) ({ frames := fr, cells := 0, slots := 0, locals := lc }) 0 0 n ∧ (Cond.static y).before args s = true := by
  refine cwS n ht (gsub ?_) rfl rfl rfl h.2 hR
  intro w hw
  rcases List.mem_append.mp hw with q | q
  · exact h.1 w (by simp only [List.mem_cons, List.not_mem_nil, or_false] at q ⊢; rcases q with q | q | q <;> simp [q])
  · rcases List.mem_cons.mp q with q | q
    · exact h.1 w (by simp [q])
    · exact q
theorem V_free (hC : Cx p s m args c A H0 D K4 nL own cc) {Hh : Heap} {locs : List Loc} (hD : va_D A (wl K4 ad nr H)) (hS : va_S A H0 Hh locs) : ∀ q, va_A (wl K4 ad nr H) Hh.size q → A q := by
  intro q h
  rcases h with ⟨k, e, hk⟩ | h
  · exact hD.2 k (q, e) hk
  · exact hC.2.2.2.2.2.2.2 q (Nat.le_trans hS.1 h)
theorem V_pre (hC : Cx p s m args c A H0 D K4 nL own cc) {Hh : Heap} (hP : va_P D vwCl (wl K4 ad nr H) Hh) (hD : va_D A (wl K4 ad nr H)) : ∀ U : State, U.heap = Hh → s.WarmedH U.vm → PcB D K4 ad nr H Hh.size U := fun U hU hW => ⟨by rw [hU], by rw [hU]; exact hP, va_K.moved hW.alike hC.2.2.2.2.2.1, fun w hw => nw_warm hw hW (hC.2.2.2.2.2.2.1 w hw), hD.weaken (fun _ _ _ _ => trivial)⟩
theorem V_run (hC : Cx p s m args c A H0 D K4 nL own cc) {idx : Nat} {y : MethodName} {cy : ByteArray} {ny : Nat} {rt : Option FieldType} {ci n fr lc g k : Nat} {As : List Value} {Qc : Array Value → State → Outcome → State → Prop} (hL : ML own idx y cy ny rt ci n) (hR : fr + 1 ≤ R.frames ∧ 8 + (ny + 11) + lc ≤ R.locals) (hok : okn nr g k = true) (hk : (kd g k).1 = ci + 4) (hn : As.length = n) {Hh : Heap} {locs : List Loc} {ls : Array Slot} (hP : va_P D vwCl (wl K4 ad nr H) Hh) (hD : va_D A (wl K4 ad nr H)) (hl : lv_has ls nL lv) (hM : Met l y (.code y cy ny rt :: GW) ({ frames := fr, cells := 0, slots := 0, locals := lc }) (PcW D K4 ad nr H Hh.size (.ref (ad g k) :: As)) Qc 0 0 (va_A (wl K4 ad nr H) Hh.size)) (hW : (st.map fun v => v.category).sum ≤ 8) (hdg : decode cc pc = .ok (.invokevirtual idx, 3)) (hcs : cs ≤ R.cells ∧ sl ≤ R.slots) : va_Run p l e R s m args below meth c Hh locs cs sl 0 0 (F0 m pc ls (As.reverse ++ .ref (ad g k) :: st)) st (Qc (Value.ref (ad g k) :: As).toArray) (va_A (wl K4 ad nr H) Hh.size) := by
  obtain ⟨q0, hq, -⟩ := wl_get (K4 := K4) (ad := ad) (H := H) hok
  have hc : cel K4 ad H g k = .inr (ci, fls ad H g k ci) := by unfold cel; rw [hk]
  rw [hc] at hq
  obtain ⟨T, N, hcl⟩ := hL.1
  exact va_runV (As := As) (rest := st) ⟨hC.1, hC.2.1, hC.2.2.1, hC.2.2.2.1, hC.2.2.2.2.1⟩ hM (hL.cw hC.2.2.2.2.1 hR) ⟨PcW_blind _ _ _ _ _ _ _, va_recv hC.2.2.2.2.2.1 hP (ci := ci) (q0 := q0) hcl hq, fun U hU hW2 => ⟨rfl, V_pre hC hP hD U hU hW2⟩⟩ rfl hn hl.1 rfl (lv_room hW) hdg hcs
theorem V_runS (hC : Cx p s m args c A H0 D K4 nL own cc) {idx : Nat} {y : MethodName} {cy : ByteArray} {ny : Nat} {rt : Option FieldType} {n fr lc : Nat} {As : List Value} {Qc : Array Value → State → Outcome → State → Prop} (hL : MS own idx y cy ny rt n) (hR : fr + 1 ≤ R.frames ∧ 8 + (ny + 11) + lc ≤ R.locals) (hn : As.length = n) {Hh : Heap} {locs : List Loc} {ls : Array Slot} (hP : va_P D vwCl (wl K4 ad nr H) Hh) (hD : va_D A (wl K4 ad nr H)) (hl : lv_has ls nL lv) (hM : Met l y (.code y cy ny rt :: GW) ({ frames := fr, cells := 0, slots := 0, locals := lc }) (PcW D K4 ad nr H Hh.size As) Qc 0 0 (va_A (wl K4 ad nr H) Hh.size)) (hW : (st.map fun v => v.category).sum ≤ 8) (hdg : decode cc pc = .ok (.invokestatic idx, 3)) (hcs : cs ≤ R.cells ∧ sl ≤ R.slots) : va_Run p l e R s m args below meth c Hh locs cs sl 0 0 (F0 m pc ls (As.reverse ++ st)) st (Qc As.toArray) (va_A (wl K4 ad nr H) Hh.size) :=
  va_runS (As := As) (rest := st) ⟨hC.1, hC.2.1, hC.2.2.1, hC.2.2.2.1, hC.2.2.2.2.1⟩ hM (hL.cw hC.2.2.2.2.1 hR) ⟨PcW_blind _ _ _ _ _ _ _, fun U hU hW2 => ⟨rfl, V_pre hC hP hD U hU hW2⟩⟩ rfl hn hl.1 rfl (lv_room hW) hdg hcs
theorem V_calli (hC : Cx p s m args c A H0 D K4 nL own cc) {idx : Nat} {y : MethodName} {cy : ByteArray} {ny : Nat} {rt : Option FieldType} {ci n fr lc g k : Nat} {As : List Value} {as : (Nat → Nat → Nat) → List Value} {r : Int32} {H' : Hp} (hM : CI l nr y cy ny rt fr lc as H r H') (has : as ad = .ref (ad g k) :: As) (hL : ML own idx y cy ny rt ci n) (hR : fr + 1 ≤ R.frames ∧ 8 + (ny + 11) + lc ≤ R.locals) (hok : okn nr g k = true) (hk : (kd g k).1 = ci + 4) (hn : As.length = n) (hW : (st.map fun v => v.category).sum ≤ 8) (hdg : decode cc pc = .ok (.invokevirtual idx, 3)) (kk : V' p l e R s m args below meth c A H0 Q D K4 ad nr nL cs sl (pc + 3) lv (.int r :: st) H') (hcs : cs ≤ R.cells ∧ sl ≤ R.slots := by first | exact ⟨Nat.zero_le _, Nat.zero_le _⟩ | assumption) : V' p l e R s m args below meth c A H0 Q D K4 ad nr nL cs sl pc lv (As.reverse ++ .ref (ad g k) :: st) H := by
  intro Hh locs ls hP hD hS hl
  have hM := hM D K4 ad Hh.size
  rw [has] at hM
  have hf := V_free (ad := ad) (nr := nr) (H := H) hC hD hS
  refine va_calli (V_run hC hL hR hok hk hn hP hD hl hM hW hdg hcs) hS (fun q _ h => hf q h) hf (fun r1 u t H1 locs1 ht hvm hw hB hz1 hk1 hS1 => ?_)
  obtain ⟨rfl, rfl⟩ := hw
  obtain ⟨hP1, hD1⟩ := hB
  rw [ht] at hP1
  exact kk H1 locs1 ls hP1 (hD1.weaken (fun _ q _ h => hf q.1 h)) hS1 hl
theorem V_calll (hC : Cx p s m args c A H0 D K4 nL own cc) {idx : Nat} {y : MethodName} {cy : ByteArray} {ny : Nat} {rt : Option FieldType} {ci n fr lc g k : Nat} {As : List Value} {as : (Nat → Nat → Nat) → List Value} {r : Int64} {H' : Hp} (hM : CJ l nr y cy ny rt fr lc as H r H') (has : as ad = .ref (ad g k) :: As) (hL : ML own idx y cy ny rt ci n) (hR : fr + 1 ≤ R.frames ∧ 8 + (ny + 11) + lc ≤ R.locals) (hok : okn nr g k = true) (hk : (kd g k).1 = ci + 4) (hn : As.length = n) (hW : (st.map fun v => v.category).sum ≤ 8) (hdg : decode cc pc = .ok (.invokevirtual idx, 3)) (kk : V' p l e R s m args below meth c A H0 Q D K4 ad nr nL cs sl (pc + 3) lv (.long r :: st) H') (hcs : cs ≤ R.cells ∧ sl ≤ R.slots := by first | exact ⟨Nat.zero_le _, Nat.zero_le _⟩ | assumption) : V' p l e R s m args below meth c A H0 Q D K4 ad nr nL cs sl pc lv (As.reverse ++ .ref (ad g k) :: st) H := by
  intro Hh locs ls hP hD hS hl
  have hM := hM D K4 ad Hh.size
  rw [has] at hM
  have hf := V_free (ad := ad) (nr := nr) (H := H) hC hD hS
  refine va_calll (V_run hC hL hR hok hk hn hP hD hl hM hW hdg hcs) hS (fun q _ h => hf q h) hf (fun r1 u t H1 locs1 ht hvm hw hB hz1 hk1 hS1 => ?_)
  obtain ⟨rfl, rfl⟩ := hw
  obtain ⟨hP1, hD1⟩ := hB
  rw [ht] at hP1
  exact kk H1 locs1 ls hP1 (hD1.weaken (fun _ q _ h => hf q.1 h)) hS1 hl
theorem V_callu (hC : Cx p s m args c A H0 D K4 nL own cc) {idx : Nat} {y : MethodName} {cy : ByteArray} {ny : Nat} {rt : Option FieldType} {ci n fr lc g k : Nat} {As : List Value} {as : (Nat → Nat → Nat) → List Value} {r : Unit} {H' : Hp} (hM : CU l nr y cy ny rt fr lc as H r H') (has : as ad = .ref (ad g k) :: As) (hL : ML own idx y cy ny rt ci n) (hR : fr + 1 ≤ R.frames ∧ 8 + (ny + 11) + lc ≤ R.locals) (hok : okn nr g k = true) (hk : (kd g k).1 = ci + 4) (hn : As.length = n) (hW : (st.map fun v => v.category).sum ≤ 8) (hdg : decode cc pc = .ok (.invokevirtual idx, 3)) (kk : V' p l e R s m args below meth c A H0 Q D K4 ad nr nL cs sl (pc + 3) lv st H') (hcs : cs ≤ R.cells ∧ sl ≤ R.slots := by first | exact ⟨Nat.zero_le _, Nat.zero_le _⟩ | assumption) : V' p l e R s m args below meth c A H0 Q D K4 ad nr nL cs sl pc lv (As.reverse ++ .ref (ad g k) :: st) H := by
  intro Hh locs ls hP hD hS hl
  have hM := hM D K4 ad Hh.size
  rw [has] at hM
  have hf := V_free (ad := ad) (nr := nr) (H := H) hC hD hS
  refine va_callv (V_run hC hL hR hok hk hn hP hD hl hM hW hdg hcs) hS (fun q _ h => hf q h) hf (fun u t H1 locs1 ht hvm hw hB hz1 hk1 hS1 => ?_)
  obtain rfl := hw
  obtain ⟨hP1, hD1⟩ := hB
  rw [ht] at hP1
  exact kk H1 locs1 ls hP1 (hD1.weaken (fun _ q _ h => hf q.1 h)) hS1 hl
theorem V_callq (hC : Cx p s m args c A H0 D K4 nL own cc) {idx : Nat} {y : MethodName} {cy : ByteArray} {ny : Nat} {rt : Option FieldType} {ci n fr lc g k : Nat} {As : List Value} {as : (Nat → Nat → Nat) → List Value} {r : Option Nat} {H' : Hp} (hM : CQ l nr y cy ny rt fr lc as H r H') (has : as ad = .ref (ad g k) :: As) (hL : ML own idx y cy ny rt ci n) (hR : fr + 1 ≤ R.frames ∧ 8 + (ny + 11) + lc ≤ R.locals) (hok : okn nr g k = true) (hk : (kd g k).1 = ci + 4) (hn : As.length = n) (hW : (st.map fun v => v.category).sum ≤ 8) (hdg : decode cc pc = .ok (.invokevirtual idx, 3)) (kk : V' p l e R s m args below meth c A H0 Q D K4 ad nr nL cs sl (pc + 3) lv (vr ad r :: st) H') (hcs : cs ≤ R.cells ∧ sl ≤ R.slots := by first | exact ⟨Nat.zero_le _, Nat.zero_le _⟩ | assumption) : V' p l e R s m args below meth c A H0 Q D K4 ad nr nL cs sl pc lv (As.reverse ++ .ref (ad g k) :: st) H := by
  intro Hh locs ls hP hD hS hl
  have hM := hM D K4 ad Hh.size
  rw [has] at hM
  have hf := V_free (ad := ad) (nr := nr) (H := H) hC hD hS
  refine va_callq (V_run hC hL hR hok hk hn hP hD hl hM hW hdg hcs) hS (fun q _ h => hf q h) hf (fun r1 u t H1 locs1 ht hvm hw hB hz1 hk1 hS1 => ?_)
  obtain ⟨rfl, rfl⟩ := hw
  obtain ⟨hP1, hD1⟩ := hB
  rw [ht] at hP1
  exact kk H1 locs1 ls hP1 (hD1.weaken (fun _ q _ h => hf q.1 h)) hS1 hl
theorem V_callsi (hC : Cx p s m args c A H0 D K4 nL own cc) {idx : Nat} {y : MethodName} {cy : ByteArray} {ny : Nat} {rt : Option FieldType} {n fr lc : Nat} {As : List Value} {as : (Nat → Nat → Nat) → List Value} {r : Int32} {H' : Hp} (hM : CI l nr y cy ny rt fr lc as H r H') (has : as ad = As) (hL : MS own idx y cy ny rt n) (hR : fr + 1 ≤ R.frames ∧ 8 + (ny + 11) + lc ≤ R.locals) (hn : As.length = n) (hW : (st.map fun v => v.category).sum ≤ 8) (hdg : decode cc pc = .ok (.invokestatic idx, 3)) (kk : V' p l e R s m args below meth c A H0 Q D K4 ad nr nL cs sl (pc + 3) lv (.int r :: st) H') (hcs : cs ≤ R.cells ∧ sl ≤ R.slots := by first | exact ⟨Nat.zero_le _, Nat.zero_le _⟩ | assumption) : V' p l e R s m args below meth c A H0 Q D K4 ad nr nL cs sl pc lv (As.reverse ++ st) H := by
  intro Hh locs ls hP hD hS hl
  have hM := hM D K4 ad Hh.size
  rw [has] at hM
  have hf := V_free (ad := ad) (nr := nr) (H := H) hC hD hS
  refine va_calli (V_runS hC hL hR hn hP hD hl hM hW hdg hcs) hS (fun q _ h => hf q h) hf (fun r1 u t H1 locs1 ht hvm hw hB hz1 hk1 hS1 => ?_)
  obtain ⟨rfl, rfl⟩ := hw
  obtain ⟨hP1, hD1⟩ := hB
  rw [ht] at hP1
  exact kk H1 locs1 ls hP1 (hD1.weaken (fun _ q _ h => hf q.1 h)) hS1 hl
/-- the ends -/
def QI (below : List Frame) (args : Array Value) (s : State) (A : Nat → Prop) (D : va_G) (K4 : kQ) (ad : Nat → Nat → Nat) (nr : Nat) (res : Int32 × Hp) : State → Prop := MQ below (va_Qi (fun q u => q = res.1 ∧ u = res.2) (Bw D K4 ad nr A) A) args s 0 0 A
def QJ (below : List Frame) (args : Array Value) (s : State) (A : Nat → Prop) (D : va_G) (K4 : kQ) (ad : Nat → Nat → Nat) (nr : Nat) (res : Int64 × Hp) : State → Prop := MQ below (va_Ql (fun q u => q = res.1 ∧ u = res.2) (Bw D K4 ad nr A) A) args s 0 0 A
def QU (below : List Frame) (args : Array Value) (s : State) (A : Nat → Prop) (D : va_G) (K4 : kQ) (ad : Nat → Nat → Nat) (nr : Nat) (res : Unit × Hp) : State → Prop := MQ below (va_Qv (fun u => u = res.2) (Bw D K4 ad nr A) A) args s 0 0 A
def QQ (below : List Frame) (args : Array Value) (s : State) (A : Nat → Prop) (D : va_G) (K4 : kQ) (ad : Nat → Nat → Nat) (nr : Nat) (res : Option Nat × Hp) : State → Prop := MQ below (va_Qq (fun q u => q = res.1.map (fun r => ad (r + 2) 0) ∧ u = res.2) (Bw D K4 ad nr A) A) args s 0 0 A
theorem V_iret (hC : Cx p s m args c A s.heap D K4 nL own cc) {v : Int32} {res : Int32 × Hp} (hr : meth.sig.returnType = some .int ∧ meth.locks = false) (hdg : decode cc pc = .ok (.ireturn, 1)) (h : some (v, H) = some res) : V p l e R s m args below meth c A s.heap (QI below args s A D K4 ad nr res) D K4 ad nr nL pc lv [.int v] H := by
  intro Hh locs ls hP hD hS hl
  have hlocks := hr.2
  cases h
  exact W.iret hC.1 hC.2.1 hr.1 (fun t ht _ => ⟨⟨v, H, rfl, ⟨rfl, rfl⟩, by rw [ht]; exact hP, hD⟩, hS.F ht⟩) hS.2.2 hdg
theorem V_zret (hC : Cx p s m args c A s.heap D K4 nL own cc) {v : Int32} {res : Int32 × Hp} (hr : meth.sig.returnType = some .boolean ∧ meth.locks = false) (hn : narrow .boolean (.int v) = .int v) (hdg : decode cc pc = .ok (.ireturn, 1)) (h : some (v, H) = some res) : V p l e R s m args below meth c A s.heap (QI below args s A D K4 ad nr res) D K4 ad nr nL pc lv [.int v] H := by
  intro Hh locs ls hP hD hS hl
  have hlocks := hr.2
  cases h
  exact W.zret hC.1 hC.2.1 hr.1 hn (fun t ht _ => ⟨⟨v, H, rfl, ⟨rfl, rfl⟩, by rw [ht]; exact hP, hD⟩, hS.F ht⟩) hS.2.2 hdg
theorem V_lret (hC : Cx p s m args c A s.heap D K4 nL own cc) {v : Int64} {res : Int64 × Hp} (hr : meth.sig.returnType = some .long ∧ meth.locks = false) (hdg : decode cc pc = .ok (.lreturn, 1)) (h : some (v, H) = some res) : V p l e R s m args below meth c A s.heap (QJ below args s A D K4 ad nr res) D K4 ad nr nL pc lv [.long v] H := by
  intro Hh locs ls hP hD hS hl
  have hlocks := hr.2
  cases h
  exact W.lret hC.1 hC.2.1 hr.1 (fun t ht _ => ⟨⟨v, H, rfl, ⟨rfl, rfl⟩, by rw [ht]; exact hP, hD⟩, hS.F ht⟩) hS.2.2 hdg
theorem V_vret (hC : Cx p s m args c A s.heap D K4 nL own cc) {res : Unit × Hp} (hr : meth.sig.returnType = none ∧ meth.locks = false) (hdg : decode cc pc = .ok (.return_, 1)) (h : some ((), H) = some res) : V p l e R s m args below meth c A s.heap (QU below args s A D K4 ad nr res) D K4 ad nr nL pc lv [] H := by
  intro Hh locs ls hP hD hS hl
  have hlocks := hr.2
  cases h
  exact W.vret hC.1 hC.2.1 hr.1 (fun t ht _ => ⟨⟨H, rfl, rfl, by rw [ht]; exact hP, hD⟩, hS.F ht⟩) hS.2.2 hdg
theorem V_qret (hC : Cx p s m args c A s.heap D K4 nL own cc) {o : Option Nat} {C : String} {res : Option Nat × Hp} (hr : meth.sig.returnType = some (.object C) ∧ meth.locks = false) (hdg : decode cc pc = .ok (.areturn, 1)) (h : some (o, H) = some res) : V p l e R s m args below meth c A s.heap (QQ below args s A D K4 ad nr res) D K4 ad nr nL pc lv [vr ad o] H := by
  intro Hh locs ls hP hD hS hl
  have hlocks := hr.2
  cases h
  exact W.aret hC.1 hC.2.1 hr.1 (Or.inl ⟨_, rfl⟩) (by cases o with | none => exact Or.inl rfl | some r => exact Or.inr ⟨_, rfl⟩) (fun t ht _ => ⟨⟨o.map (fun r => ad (r + 2) 0), H, rfl, ⟨rfl, rfl⟩, by rw [ht]; exact hP, hD⟩, hS.F ht⟩) hS.2.2 hdg
/-- a contract out of the walk from entry on -/
theorem Met.ofV {y : MethodName} {cy : ByteArray} {ny : Nat} {rt : Option FieldType} {fr lc sz : Nat} {as : List Value} {Qc : Array Value → State → Outcome → State → Prop} (hy : plainName y.cls = true) (hlen : (lg_sl as).length ≤ ny)
    (body : ∀ (p : Program) (e : Env) (s : State) (m : MethodId) (args : Array Value) (below : List Frame) (meth : Method) (c : Code), Cx p s m args c (va_A (wl K4 ad nr H) s.heap.size) s.heap D K4 ny y.cls cy → meth.sig.returnType = rt ∧ meth.locks = false → s.heap.size = sz → V p l e ({ frames := fr, cells := 0, slots := 0, locals := lc }) s m args below meth c (va_A (wl K4 ad nr H) s.heap.size) s.heap (MQ below Qc args s 0 0 (va_A (wl K4 ad nr H) sz)) D K4 ad nr ny 0 (lv_args 0 as) [] H) :
    Met l y (.code y cy ny rt :: GW) ({ frames := fr, cells := 0, slots := 0, locals := lc }) (PcW D K4 ad nr H sz as) Qc 0 0 (va_A (wl K4 ad nr H) sz) := by
  refine Met.ofW (cc := cy) (maxL := ny) (ret := rt) hy rfl ?_
  intro p e s m args below meth c s₁ B hml hv
  obtain ⟨rfl, hsz, hP, hK, hN, hD⟩ := hv
  have hts := atoms_spec (ws := (.code y cy ny rt :: GW)) B.pre
  have hown : s.vm.findClass y.cls = some m.cls := findClass_of_methodNamed B.named
  have hl := lv_entry as (n := ny) hlen
  rw [lg_entry_eq]
  exact body p e s m _ below meth c ⟨B.exec, B.bytes, hml, hown, fun w hw => hts w (List.mem_cons_of_mem _ hw), hK, hN, fun q h => Or.inr h⟩ ⟨B.returns, B.notSynchronized⟩ hsz s.heap [] _ hP hD.self va_S.rf hl

end
