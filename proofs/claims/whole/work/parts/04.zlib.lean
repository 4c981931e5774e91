/-! THE ABSTRACT MEMORY: objects by numbers (world 0: the class, 1..107; world 1: the reference, 109..125; world 2: the class and the law's row 108; world 3: all; 0 is null; 300.. the constants of Word). The rows below are proofs of our own over the kit's rows. -/
abbrev Mm : Type := (Nat → Nat → Int32) × (Nat → Nat → Int64) × (Nat → Nat → Nat)
def up2 {α : Type} (f : Nat → Nat → α) (i k : Nat) (v : α) : Nat → Nat → α := fun a b => if a = i ∧ b = k then v else f a b
def gI (M : Mm) (i k : Nat) : Int32 := M.1 i k
def gJ (M : Mm) (i k : Nat) : Int64 := M.2.1 i k
def gR (M : Mm) (i k : Nat) : Nat := M.2.2 i k
def gA (M : Mm) (i : Nat) (x : Int32) : Int32 := M.1 i x.toNatClampNeg
def gL (M : Mm) (i : Nat) (x : Int32) : Int64 := M.2.1 i x.toNatClampNeg
def gE (M : Mm) (i : Nat) (x : Int32) : Nat := M.2.2 i x.toNatClampNeg
def sI (M : Mm) (i k : Nat) (v : Int32) : Mm := (up2 M.1 i k v, M.2.1, M.2.2)
def sJ (M : Mm) (i k : Nat) (v : Int64) : Mm := (M.1, up2 M.2.1 i k v, M.2.2)
def sR (M : Mm) (i k : Nat) (v : Nat) : Mm := (M.1, M.2.1, up2 M.2.2 i k v)
def sA (M : Mm) (i : Nat) (x v : Int32) : Mm := sI M i x.toNatClampNeg v
def sL (M : Mm) (i : Nat) (x : Int32) (v : Int64) : Mm := sJ M i x.toNatClampNeg v
def sE (M : Mm) (i : Nat) (x : Int32) (v : Nat) : Mm := sR M i x.toNatClampNeg v
def cpA (M : Mm) (a d n : Nat) : Mm := (fun i k => if i = d then va_cpy (M.1 a) (M.1 d) 0 0 n k else M.1 i k, M.2.1, M.2.2)
def ibs (i : Int32) (n : Nat) : Bool := decide (¬ (i < 0 ∨ n ≤ i.toNatClampNeg))
def bI (b : Bool) : Int32 := if b then 1 else 0
theorem vp_of_ibs {i : Int32} {n : Nat} (h : ibs i n = true) : vp_in i n := by
  unfold vp_in
  unfold ibs at h
  exact of_decide_eq_true h

def kds : List Nat := [99, 8, 30, 32, 4, 30, 30, 30, 4, 30, 30, 30, 4, 30, 30, 30, 4, 30, 30, 30, 4, 30, 30, 30, 4, 30, 30, 30, 4, 30, 30, 30, 4, 30, 30, 30, 4, 30, 30, 30, 4, 30, 30, 30, 4, 30, 30, 30, 4, 30, 30, 30, 4, 30, 30, 30, 4, 30, 30, 30, 4, 30, 30, 30, 2, 30, 30, 30, 30, 30, 2, 30, 30, 30, 30, 30, 2, 30, 30, 30, 30, 30, 6, 30, 30, 30, 30, 5, 30, 30, 0, 31, 30, 30, 31, 31, 30, 1, 7, 33, 30, 30, 3, 30, 7, 33, 30, 30, 31, 9, 30, 30, 30, 30, 30, 30, 30, 30, 30, 30, 30, 30, 30, 30, 30, 41]
def lns : List Nat := [0, 0, 400, 12, 0, 45, 50, 300, 0, 45, 50, 300, 0, 45, 50, 300, 0, 45, 50, 300, 0, 45, 50, 300, 0, 45, 50, 300, 0, 45, 50, 300, 0, 45, 50, 300, 0, 45, 50, 300, 0, 45, 50, 300, 0, 45, 50, 300, 0, 45, 50, 300, 0, 45, 50, 300, 0, 45, 50, 300, 0, 45, 50, 300, 0, 12, 12, 12, 400, 6, 0, 12, 12, 12, 400, 6, 0, 12, 12, 12, 400, 6, 0, 90, 9, 10, 9, 0, 9, 9, 0, 90, 10, 9, 10, 9, 9, 0, 0, 401, 401, 401, 0, 21, 0, 401, 401, 401, 1, 0, 807, 807, 407, 4884, 400, 6, 90, 10, 10, 9, 10, 10, 9, 19, 19, 64]
def fts : List (List Nat) := [[3, 4, 5, 6, 7, 8, 0, 0], [3, 0], [3, 4, 5, 6, 7, 0, 0], [4, 3, 0, 0], [3, 4, 5, 0, 0, 0, 0, 0, 0, 0], [3, 4, 0, 0, 0], [3, 4, 5, 6], [3, 4, 5, 0, 0, 1, 0, 0, 0], [3, 0, 0, 1, 1, 1, 1, 61, 77, 0, 4, 0, 83, 88, 91, 98, 103], [0, 3, 4, 0, 5, 6, 0, 7, 0, 0, 0, 0, 0, 0, 8, 0, 0, 0, 9, 10, 11, 12, 13, 14, 15, 16, 17, 18]]
def kd (i : Nat) : Nat := kds.getD i 99
def ln (i : Nat) : Nat := lns.getD i 0
def ty (k b : Nat) : Nat := (fts.getD k []).getD b 0
def nf (k : Nat) : Nat := (fts.getD k []).length
/-- the two worlds' bounds -/
def wlo (w : Nat) : Nat := if w = 1 then 109 else 1
def wln (w : Nat) : Nat := if w = 0 then 107 else if w = 1 then 17 else if w = 2 then 108 else 125
def OK (w i k : Nat) : Prop := wlo w ≤ i ∧ i < wlo w + wln w ∧ kd i = k
/-- what a run fixes: the tables' numbers, the array classes, the addresses -/
abbrev Cx : Type := va_G × (Nat → ClassId) × (Nat → Nat)
def rfo (X : Cx) (r : Nat) : Option Nat := if r = 0 then none else some (X.2.2 r)
def slv (X : Cx) (M : Mm) (t i b : Nat) : Value := if t = 0 then .int (M.1 i b) else if t = 1 then va_rf (rfo X (M.2.2 i b)) else .ref (X.2.2 (i + (t - 2)))
def flds (X : Cx) (M : Mm) (k i : Nat) : List Value := (List.range (nf k)).map (fun b => slv X M (ty k b) i b)
def cel (X : Cx) (M : Mm) (i : Nat) : va_E :=
  if kd i = 30 then .inl (X.2.1 0, ln i, .inl (M.1 i))
  else if kd i = 31 then .inl (X.2.1 1, ln i, .inr (.inl (M.2.1 i)))
  else if kd i = 32 then .inl (X.2.1 2, ln i, .inr (.inr (.inr (.inr (fun j => rfo X (M.2.2 i j))))))
  else if kd i = 33 then .inl (X.2.1 3, ln i, .inr (.inr (.inr (.inr (fun j => rfo X (M.2.2 i j))))))
  else if kd i = 41 then .inl (X.2.1 4, ln i, .inl (M.1 i))
  else .inr (kd i, flds X M (kd i) i)
def wd (X : Cx) (w : Nat) (M : Mm) : va_W := (List.range (wln w)).map (fun j => (X.2.2 (wlo w + j), cel X M (wlo w + j)))
def tysOf (X : Cx) : List (ClassId × FieldType) := [(X.2.1 0, .int), (X.2.1 1, .long), (X.2.1 2, .object RX4), (X.2.1 3, .object RX8), (X.2.1 4, .boolean)]
def WDP (X : Cx) (w : Nat) (M : Mm) (H : Heap) : Prop := va_P X.1 vwCl (wd X w M) H
def AA (X : Cx) (w sz : Nat) : Nat → Prop := fun q => (∃ i, wlo w ≤ i ∧ i < wlo w + wln w ∧ q = X.2.2 i) ∨ sz ≤ q
def CXi (X : Cx) (w : Nat) : Prop := ∀ i j, wlo w ≤ i → i < wlo w + wln w → wlo w ≤ j → j < wlo w + wln w → X.2.2 i = X.2.2 j → i = j
theorem wd_get {X : Cx} {w : Nat} {M : Mm} {i : Nat} (h1 : wlo w ≤ i) (h2 : i < wlo w + wln w) : (wd X w M)[i - wlo w]? = some (X.2.2 i, cel X M i) := by
  have e : wlo w + (i - wlo w) = i := by omega
  rw [wd, List.getElem?_map, List.getElem?_range (by omega), Option.map_some, e]
theorem wd_D {X : Cx} {w sz : Nat} {M : Mm} (h : CXi X w) : va_D (AA X w sz) (wd X w M) := by
  have key : ∀ (k : Nat) (q : Nat × va_E), (wd X w M)[k]? = some q → k < wln w ∧ q.1 = X.2.2 (wlo w + k) := by
    intro k q hq
    rw [wd, List.getElem?_map] at hq
    have hk : k < wln w := by
      rcases Nat.lt_or_ge k (wln w) with h | h
      · exact h
      · rw [List.getElem?_eq_none (by rw [List.length_range]; exact h)] at hq
        cases hq
    rw [List.getElem?_range hk] at hq
    cases hq
    exact ⟨hk, rfl⟩
  refine ⟨fun i j p q hp hq hpq => ?_, fun k q hq => ?_⟩
  · obtain ⟨h1, h2⟩ := key i p hp
    obtain ⟨h3, h4⟩ := key j q hq
    have := h (wlo w + i) (wlo w + j) (by omega) (by omega) (by omega) (by omega) (by rw [← h2, ← h4, hpq])
    omega
  · obtain ⟨h1, h2⟩ := key k q hq
    exact Or.inl ⟨wlo w + k, by omega, by omega, h2⟩
theorem wd_set {X : Cx} {w : Nat} {M M1 : Mm} {i : Nat} {x : va_E} (h1 : wlo w ≤ i) (h2 : i < wlo w + wln w) (hx : cel X M1 i = x) (ho : ∀ j, j ≠ i → cel X M1 j = cel X M j) : (wd X w M).set (i - wlo w) (X.2.2 i, x) = wd X w M1 := by
  subst hx
  apply List.ext_getElem?
  intro k
  by_cases hk : k = i - wlo w
  · subst hk
    rw [List.getElem?_set_self (by rw [wd, List.length_map, List.length_range]; omega), wd_get h1 h2]
  · rw [List.getElem?_set_ne (fun e => hk e.symm), wd, wd, List.getElem?_map, List.getElem?_map]
    cases hr : (List.range (wln w))[k]? with
    | none => rfl
    | some j =>
      have hj : j = k := by
        have := List.getElem?_eq_some_iff.mp hr
        obtain ⟨hl, he⟩ := this
        rw [List.getElem_range] at he
        exact he.symm
      subst hj
      simp only [Option.map_some]
      rw [ho (wlo w + j) (by omega)]
theorem cel_i {X : Cx} {M : Mm} {i : Nat} (h : kd i = 30) : cel X M i = .inl (X.2.1 0, ln i, .inl (M.1 i)) := by unfold cel; rw [if_pos h]
theorem cel_j {X : Cx} {M : Mm} {i : Nat} (h : kd i = 31) : cel X M i = .inl (X.2.1 1, ln i, .inr (.inl (M.2.1 i))) := by unfold cel; rw [h]; rfl
theorem cel_m {X : Cx} {M : Mm} {i : Nat} (h : kd i = 32) : cel X M i = .inl (X.2.1 2, ln i, .inr (.inr (.inr (.inr (fun j => rfo X (M.2.2 i j)))))) := by unfold cel; rw [h]; rfl
theorem cel_w {X : Cx} {M : Mm} {i : Nat} (h : kd i = 33) : cel X M i = .inl (X.2.1 3, ln i, .inr (.inr (.inr (.inr (fun j => rfo X (M.2.2 i j)))))) := by unfold cel; rw [h]; rfl
theorem cel_z {X : Cx} {M : Mm} {i : Nat} (h : kd i = 41) : cel X M i = .inl (X.2.1 4, ln i, .inl (M.1 i)) := by unfold cel; rw [h]; rfl
theorem cel_o {X : Cx} {M : Mm} {i k : Nat} (h : kd i = k) (hk : k < 30) : cel X M i = .inr (k, flds X M k i) := by
  subst h
  unfold cel
  rw [if_neg (by omega), if_neg (by omega), if_neg (by omega), if_neg (by omega), if_neg (by omega)]
theorem up2_eq {α : Type} {f : Nat → Nat → α} {i k : Nat} {v : α} : up2 f i k v i k = v := by simp [up2]
theorem up2_ne1 {α : Type} {f : Nat → Nat → α} {i k j b : Nat} {v : α} (h : j ≠ i) : up2 f i k v j b = f j b := by simp [up2, h]
theorem up2_ne2 {α : Type} {f : Nat → Nat → α} {i k b : Nat} {v : α} (h : b ≠ k) : up2 f i k v i b = f i b := by simp [up2, h]
theorem up2_fn {α : Type} {f : Nat → Nat → α} {i k j : Nat} {v : α} (h : j ≠ i) : up2 f i k v j = f j := by funext b; exact up2_ne1 h
/-- a cell sees its own rows alone -/
theorem cel_same {X : Cx} {M M1 : Mm} {j : Nat} (h1 : M1.1 j = M.1 j) (h2 : M1.2.1 j = M.2.1 j) (h3 : M1.2.2 j = M.2.2 j) : cel X M1 j = cel X M j := by
  simp only [cel, flds, slv, h1, h2, h3]
theorem cel_sI {X : Cx} {M : Mm} {i k j : Nat} {v : Int32} (h : j ≠ i) : cel X (sI M i k v) j = cel X M j := cel_same (up2_fn h) rfl rfl
theorem cel_sJ {X : Cx} {M : Mm} {i k j : Nat} {v : Int64} (h : j ≠ i) : cel X (sJ M i k v) j = cel X M j := cel_same rfl (up2_fn h) rfl
theorem cel_sR {X : Cx} {M : Mm} {i k j v : Nat} (h : j ≠ i) : cel X (sR M i k v) j = cel X M j := cel_same rfl rfl (up2_fn h)
theorem flds_len {X : Cx} {M : Mm} {k i : Nat} : (flds X M k i).length = nf k := by rw [flds, List.length_map, List.length_range]
theorem flds_at {X : Cx} {M : Mm} {k i b : Nat} (h : b < nf k) : (flds X M k i)[b]? = some (slv X M (ty k b) i b) := by rw [flds, List.getElem?_map, List.getElem?_range h, Option.map_some]
theorem flds_set {X : Cx} {M M1 : Mm} {k i b : Nat} {x : Value} (hb : b < nf k) (hx : slv X M1 (ty k b) i b = x) (ho : ∀ a, a ≠ b → slv X M1 (ty k a) i a = slv X M (ty k a) i a) : (flds X M k i).set b x = flds X M1 k i := by
  subst hx
  apply List.ext_getElem?
  intro a
  by_cases ha : a = b
  · subst ha
    rw [List.getElem?_set_self (by rw [flds_len]; exact hb), flds_at hb]
  · rw [List.getElem?_set_ne (fun e => ha e.symm)]
    by_cases h2 : a < nf k
    · rw [flds_at h2, flds_at h2, ho a ha]
    · rw [List.getElem?_eq_none (by rw [flds_len]; omega), List.getElem?_eq_none (by rw [flds_len]; omega)]
theorem flds_sI {X : Cx} {M : Mm} {k i b : Nat} {v : Int32} (hb : b < nf k) (ht : ty k b = 0) : (flds X M k i).set b (.int v) = flds X (sI M i b v) k i := by
  refine flds_set hb (by rw [ht]; simp [slv, sI, up2_eq]) (fun a ha => ?_)
  simp only [slv, sI]
  rw [up2_ne2 ha]
theorem flds_sR {X : Cx} {M : Mm} {k i b v : Nat} (hb : b < nf k) (ht : ty k b = 1) : (flds X M k i).set b (va_rf (rfo X v)) = flds X (sR M i b v) k i := by
  refine flds_set hb (by rw [ht]; simp [slv, sR, up2_eq]) (fun a ha => ?_)
  simp only [slv, sR]
  rw [up2_ne2 ha]
/-- words of the tables that go with a call -/
def TB : List Cond := lw_tbl.filter goodWord
theorem TB_of {w : Cond} (h : w ∈ lw_tbl) (hg : goodWord w = true) : w ∈ TB := List.mem_filter.mpr ⟨h, hg⟩
def isNest : Cond → Bool
  | .fieldLinkNest .. => true
  | .methodLinkNest .. => true
  | .declares _ => true
  | .castable _ _ => true
  | _ => false
def NW : List Cond := lw_tbl.filter isNest
theorem NW_warm {w : Cond} (h : isNest w = true) {s U : State} (hW : s.WarmedH U.vm) (hZ : va_Nw w s) : va_Nw w U := by
  cases w <;> first | exact va_Nw.warmF hW hZ | exact va_Nw.warmM hW hZ | exact va_Nw.warmD hW hZ | exact va_Nw.warmC hW hZ | cases h

