/-! the law's wrappers: a call of the class out of a larger world, its exceptions caught; the memory of the class, of the model and the law's own row side by side -/
def NCL : List (String × String) := [("java/lang/IllegalArgumentException", "java/lang/IndexOutOfBoundsException"), ("java/lang/IllegalArgumentException", "java/lang/UnsupportedOperationException"), ("java/lang/IllegalArgumentException", "java/util/NoSuchElementException"), ("java/lang/IndexOutOfBoundsException", "java/lang/IllegalArgumentException"), ("java/lang/IndexOutOfBoundsException", "java/lang/UnsupportedOperationException"), ("java/lang/IndexOutOfBoundsException", "java/util/NoSuchElementException"), ("java/lang/UnsupportedOperationException", "java/lang/IllegalArgumentException"), ("java/lang/UnsupportedOperationException", "java/lang/IndexOutOfBoundsException"), ("java/lang/UnsupportedOperationException", "java/util/NoSuchElementException"), ("java/util/NoSuchElementException", "java/lang/IllegalArgumentException"), ("java/util/NoSuchElementException", "java/lang/IndexOutOfBoundsException"), ("java/util/NoSuchElementException", "java/lang/UnsupportedOperationException")]
def NCF (U : State) : Prop := ∀ q ∈ NCL, va_Nc q.1 q.2 U
theorem NCF.warm {s U : State} (hW : s.WarmedH U.vm) (h : NCF s) : NCF U := fun q hq => va_Nc.moved hW.alike (h q hq)
def PW2 (X : Cx) (M : Mm) (sz : Nat) : State → Prop := fun U => PW X 2 M sz U ∧ NCF U
def sel3 {α : Type} (a b : Nat → Nat → α) (g : Nat → α) (d : α) : Nat → Nat → α := fun i => if 1 ≤ i ∧ i < 108 then a i else if i = 108 then g else if 109 ≤ i ∧ i < 126 then b i else fun _ => d
def mk3 (Mc Mr : Mm) (g : Nat → Int64) : Mm := (sel3 Mc.1 Mr.1 (fun _ => 0) 0, sel3 Mc.2.1 Mr.2.1 g 0, sel3 Mc.2.2 Mr.2.2 (fun _ => 0) 0)
def agr (v : Nat) (M N : Mm) : Prop := ∀ i, wlo v ≤ i → i < wlo v + wln v → M.1 i = N.1 i ∧ M.2.1 i = N.2.1 i ∧ M.2.2 i = N.2.2 i
theorem agr_rf {v : Nat} {M : Mm} : agr v M M := fun _ _ _ => ⟨rfl, rfl, rfl⟩
theorem sel3_c {α : Type} {a b : Nat → Nat → α} {g : Nat → α} {d : α} {i : Nat} (h1 : 1 ≤ i) (h2 : i < 108) : sel3 a b g d i = a i := if_pos ⟨h1, h2⟩
theorem sel3_g {α : Type} {a b : Nat → Nat → α} {g : Nat → α} {d : α} : sel3 a b g d 108 = g := by simp [sel3]
theorem sel3_r {α : Type} {a b : Nat → Nat → α} {g : Nat → α} {d : α} {i : Nat} (h1 : 109 ≤ i) (h2 : i < 126) : sel3 a b g d i = b i := by
  have e1 : ¬ (1 ≤ i ∧ i < 108) := by omega
  have e2 : ¬ i = 108 := by omega
  simp only [sel3, if_neg e1, if_neg e2, h1, h2, and_self, if_true]
theorem sel3_o {α : Type} {a b a2 b2 : Nat → Nat → α} {g g2 : Nat → α} {d : α} {i : Nat} (h1 : ¬ (1 ≤ i ∧ i < 126)) : sel3 a b g d i = sel3 a2 b2 g2 d i := by
  have e1 : ¬ (1 ≤ i ∧ i < 108) := by omega
  have e2 : ¬ i = 108 := by omega
  have e3 : ¬ (109 ≤ i ∧ i < 126) := by omega
  simp only [sel3, if_neg e1, if_neg e2, if_neg e3]
theorem agr3c {Mc Mr : Mm} {g : Nat → Int64} : agr 0 (mk3 Mc Mr g) Mc := by
  intro i h1 h2
  simp [wlo, wln] at h1 h2
  exact ⟨sel3_c h1 h2, sel3_c h1 h2, sel3_c h1 h2⟩
theorem agr3r {Mc Mr : Mm} {g : Nat → Int64} : agr 1 (mk3 Mc Mr g) Mr := by
  intro i h1 h2
  simp [wlo, wln] at h1 h2
  exact ⟨sel3_r h1 h2, sel3_r h1 h2, sel3_r h1 h2⟩
theorem mix3 {M N : Mm} (h : ∀ i, M.1 i = N.1 i ∧ M.2.1 i = N.2.1 i ∧ M.2.2 i = N.2.2 i) : M = N := by
  have e1 : M.1 = N.1 := funext fun i => (h i).1
  have e2 : M.2.1 = N.2.1 := funext fun i => (h i).2.1
  have e3 : M.2.2 = N.2.2 := funext fun i => (h i).2.2
  rw [show M = (M.1, M.2.1, M.2.2) from rfl, e1, e2, e3]
theorem mix3s {v i : Nat} {N M K : Mm} (hi : wlo v ≤ i ∧ i < wlo v + wln v → N.1 i = K.1 i ∧ N.2.1 i = K.2.1 i ∧ N.2.2 i = K.2.2 i) (ho : ¬ (wlo v ≤ i ∧ i < wlo v + wln v) → M.1 i = K.1 i ∧ M.2.1 i = K.2.1 i ∧ M.2.2 i = K.2.2 i) : (mixm v N M).1 i = K.1 i ∧ (mixm v N M).2.1 i = K.2.1 i ∧ (mixm v N M).2.2 i = K.2.2 i := by
  by_cases h : wlo v ≤ i ∧ i < wlo v + wln v
  · simp only [mixm, if_pos h]; exact hi h
  · simp only [mixm, if_neg h]; exact ho h
theorem mix3c {Mc Mr N : Mm} {g : Nat → Int64} : mixm 0 N (mk3 Mc Mr g) = mk3 N Mr g := by
  refine mix3 (fun i => mix3s (fun h => ?_) (fun h => ?_))
  · simp [wlo, wln] at h
    exact ⟨(sel3_c h.1 h.2).symm, (sel3_c h.1 h.2).symm, (sel3_c h.1 h.2).symm⟩
  · simp [wlo, wln] at h
    have h2 : ¬ (1 ≤ i ∧ i < 108) := by omega
    simp only [mk3, sel3, if_neg h2, and_self]
theorem mix3r {Mc Mr N : Mm} {g : Nat → Int64} : mixm 1 N (mk3 Mc Mr g) = mk3 Mc N g := by
  refine mix3 (fun i => mix3s (fun h => ?_) (fun h => ?_))
  · simp [wlo, wln] at h
    exact ⟨(sel3_r h.1 h.2).symm, (sel3_r h.1 h.2).symm, (sel3_r h.1 h.2).symm⟩
  · simp [wlo, wln] at h
    have h2 : ¬ (109 ≤ i ∧ i < 126) := by omega
    simp only [mk3, sel3, if_neg h2, and_self]
theorem mix3w {Mc Mr Nc : Mm} {g g2 : Nat → Int64} : mixm 2 (mk3 Nc Mr g2) (mk3 Mc Mr g) = mk3 Nc Mr g2 := by
  refine mix3 (fun i => mix3s (fun h => ⟨rfl, rfl, rfl⟩) (fun h => ?_))
  simp [wlo, wln] at h
  have h1 : ¬ (1 ≤ i ∧ i < 108) := by omega
  have h2 : ¬ i = 108 := by omega
  simp only [mk3, sel3, if_neg h1, if_neg h2, and_self]
theorem WDP_agr {X : Cx} {v : Nat} {M N : Mm} {H : Heap} (h : agr v M N) (hP : WDP X v M H) : WDP X v N H := WDP_of (fun i h1 h2 => by
  rw [cel_same (M := M) (M1 := N) (h i h1 h2).1.symm (h i h1 h2).2.1.symm (h i h1 h2).2.2.symm]
  exact WDP_at hP h1 h2)
section ZW
variable {X : Cx} {v w : Nat} {M M0 N1 : Mm} {H H1 : Heap}
variable {p : Program} {l : Launch} {e : Env} {R : Room} {s : State} {m : MethodId} {args : Array Value} {below : List Frame} {meth : Method} {c : Code} {cells slots : Nat} {Q : State → Prop} {n : Nat} {pc : Nat} {lv : List (Nat × Value)} {st : List Value} {cc : ByteArray} {ret : Option FieldType} {own : String}
theorem PW_preW (S : SB X w p s m args meth c cc n ret own) (hs : subw v w) (ha : agr v M M0) {av : List Value} {locs : List Loc} (h1 : WDP X w M H) (h2 : va_S (AA X w s.heap.size) s.heap H locs) : ∀ U : State, U.heap = H → s.WarmedH U.vm → va_Pc av (PW X v M0 H.size) av.toArray U := by
  intro U hU hW
  refine ⟨rfl, by rw [hU], by rw [hU]; exact WDP_agr ha (WDP_down h1 hs), CXi_down S.2.2.2.1 hs, ?_⟩
  rw [hU]
  exact ((S.2.2.2.2.kept h2.2.1).narrow (AA_down hs h2.1)).warm hW
/-- a call of a method of a smaller world -/
theorem z_wVI (S : SB X w p s m args meth c cc n ret own) {index k a : Nat} {y : MethodName} {b : ByteArray} {rt : Option FieldType} {rm : Room} {As rest : List Value} {r : Int32} {N : Mm} {C : String} {i k2 : Nat} {q : vw_C} (hs : subw v w) (ha : agr v M M0) (hN : mixm v N M = N1) (hc : CV own C index y b k a rt) (hM : KI X v l y (wz y b k rt) rm (.ref (X.2.2 i) :: As) M0 r N) (hi : OK w i k2) (hk2 : k2 < 30) (hq : vwCl[k2]? = some q) (hqC : q.1 = C) (h0 : rm.cells = 0 ∧ rm.slots = 0) (hR : rm.frames + 1 ≤ R.frames ∧ 8 + (k + 11) + rm.locals ≤ R.locals) (hcs : cells ≤ R.cells ∧ slots ≤ R.slots) (hn : As.length = a) (hst : st = As.reverse ++ .ref (X.2.2 i) :: rest) (hW : (rest.map fun v => v.category).sum ≤ 8) (d : decode cc pc = .ok (.invokevirtual index, 3)) (kk : Z X w p l e R s m args below meth c cells slots Q n N1 (pc + 3) lv (.int r :: rest)) : Z X w p l e R s m args below meth c cells slots Q n M pc lv st := by
  intro H locs ls h1 h2 h3
  subst hst
  subst hN
  refine va_calli (va_runV (As := As) (rest := rest) S.1 (hM H.size) (CV.cw S hc h0.1 h0.2 hR) ⟨PW_blind, by have := PW_recv S h1 hi hk2 hq; rw [hqC] at this; exact this, PW_preW S hs ha h1 h2⟩ rfl hn h3.1 rfl (lv_room hW) d ⟨hcs.1, hcs.2⟩) h2 (fun q _ h => AA_down hs h2.1 q h) (AA_down hs h2.1) (fun vv u t H1 locs1 ht hvm hp hB hz hk hS => ?_)
  obtain ⟨rfl, rfl⟩ := hp
  exact kk H1 locs1 ls (WDP_mix h1 S.2.2.2.1 hs (by subst ht; exact hB) hk) hS h3
theorem z_wVV (S : SB X w p s m args meth c cc n ret own) {index k a : Nat} {y : MethodName} {b : ByteArray} {rt : Option FieldType} {rm : Room} {As rest : List Value} {N : Mm} {C : String} {i k2 : Nat} {q : vw_C} (hs : subw v w) (ha : agr v M M0) (hN : mixm v N M = N1) (hc : CV own C index y b k a rt) (hM : KV X v l y (wz y b k rt) rm (.ref (X.2.2 i) :: As) M0 N) (hi : OK w i k2) (hk2 : k2 < 30) (hq : vwCl[k2]? = some q) (hqC : q.1 = C) (h0 : rm.cells = 0 ∧ rm.slots = 0) (hR : rm.frames + 1 ≤ R.frames ∧ 8 + (k + 11) + rm.locals ≤ R.locals) (hcs : cells ≤ R.cells ∧ slots ≤ R.slots) (hn : As.length = a) (hst : st = As.reverse ++ .ref (X.2.2 i) :: rest) (hW : (rest.map fun v => v.category).sum ≤ 8) (d : decode cc pc = .ok (.invokevirtual index, 3)) (kk : Z X w p l e R s m args below meth c cells slots Q n N1 (pc + 3) lv (rest)) : Z X w p l e R s m args below meth c cells slots Q n M pc lv st := by
  intro H locs ls h1 h2 h3
  subst hst
  subst hN
  refine va_callv (va_runV (As := As) (rest := rest) S.1 (hM H.size) (CV.cw S hc h0.1 h0.2 hR) ⟨PW_blind, by have := PW_recv S h1 hi hk2 hq; rw [hqC] at this; exact this, PW_preW S hs ha h1 h2⟩ rfl hn h3.1 rfl (lv_room hW) d ⟨hcs.1, hcs.2⟩) h2 (fun q _ h => AA_down hs h2.1 q h) (AA_down hs h2.1) (fun u t H1 locs1 ht hvm hp hB hz hk hS => ?_)
  subst hp
  exact kk H1 locs1 ls (WDP_mix h1 S.2.2.2.1 hs (by subst ht; exact hB) hk) hS h3
/-- what a row of an exception table that catches asks -/
def CAT (s : State) (args : Array Value) (c : Code) (own E : String) (pc hpc : Nat) : Prop := ∃ (pre : List ExceptionTableEntry) (x : ExceptionTableEntry) (suf : List ExceptionTableEntry) (nm : String), c.exceptionTable.toList = pre ++ x :: suf ∧ (∀ z ∈ pre, covers z pc = false ∨ (z.catchType ≠ 0 ∧ ∃ nm : String, (Cond.classLink own z.catchType nm).before args s = true ∧ va_Nc E nm s)) ∧ covers x pc = true ∧ x.catchType ≠ 0 ∧ (Cond.classLink own x.catchType nm).before args s = true ∧ (Cond.castable E nm).before args s = true ∧ x.handlerPc = hpc
/-- a call of a method that may throw, what it throws caught here -/
theorem z_hVI (S : SB X w p s m args meth c cc n ret own) {rz : (Int32 × Mm) ⊕ (Nat × Mm)} {index k a mk sk : Nat} {y : MethodName} {b : ByteArray} {rt : Option FieldType} {rm : Room} {As rest : List Value} {C : String} {i k2 : Nat} {q : vw_C} (hs : subw v w) (ha : agr v M M0) (hc : CV own C index y b k a rt) (hM : KXI X v l y (wz y b k rt) rm mk sk (.ref (X.2.2 i) :: As) M0 rz) (hi : OK w i k2) (hk2 : k2 < 30) (hq : vwCl[k2]? = some q) (hqC : q.1 = C) (h0 : rm.cells = mk ∧ rm.slots = sk) (hR : rm.frames + 1 ≤ R.frames ∧ 8 + (k + 11) + rm.locals ≤ R.locals) (hcs : cells + mk ≤ R.cells ∧ slots + sk ≤ R.slots) (hn : As.length = a) (hst : st = As.reverse ++ .ref (X.2.2 i) :: rest) (hW : (rest.map fun v => v.category).sum ≤ 8) (d : decode cc pc = .ok (.invokevirtual index, 3))
    (kx : ∀ u, rz = .inr u → ∃ hpc, CAT s args c own (exName u.1) pc hpc ∧ ∀ q9, Z X w p l e R s m args below meth c (cells + mk) (slots + sk) Q n (mixm v u.2 M) hpc lv [.ref q9])
    (kk : ∀ E, rz = .inl E → Z X w p l e R s m args below meth c (cells + mk) (slots + sk) Q n (mixm v E.2 M) (pc + 3) lv (.int E.1 :: rest)) : Z X w p l e R s m args below meth c cells slots Q n M pc lv st := by
  intro H locs ls h1 h2 h3
  subst hst
  refine vx_calli (vx_runV (As := As) (rest := rest) S.1 (hM H.size) (CVX.cw S hc h0.1 h0.2 hR) ⟨PW_blind, by have := PW_recv S h1 hi hk2 hq; rw [hqC] at this; exact this, PW_preW S hs ha h1 h2⟩ rfl hn h3.1 rfl (lv_room hW) d ⟨hcs.1, hcs.2⟩) h2 (fun q _ h => AA_down hs h2.1 q h) (AA_down hs h2.1) (fun q _ h => AA_down hs h2.1 q h) (fun E ce q9 u t H1 locs1 ht hvm hp hB hz hk hS g1 g2 g3 => ?_) (fun vv u t H1 locs1 ht hvm hp hB hz hk hS => ?_)
  · subst ht
    obtain ⟨hpc, ⟨pre, x, suf, nm, c1, c2, c3, c4, c5, c6, c7⟩, k9⟩ := kx u hp
    obtain ⟨rfl, hB⟩ := hB
    refine vx_catch S.1.2.2.2.1 pre x suf c1 c2 c3 c4 c5 c6 g1 g2 g3 ?_
    rw [c7]
    exact k9 q9 _ locs1 ls (WDP_mix h1 S.2.2.2.1 hs hB hk) hS h3
  · subst ht
    exact kk (vv, u) hp _ locs1 ls (WDP_mix h1 S.2.2.2.1 hs hB hk) hS h3
theorem z_hVZ (S : SB X w p s m args meth c cc n ret own) {rz : (Bool × Mm) ⊕ (Nat × Mm)} {index k a mk sk : Nat} {y : MethodName} {b : ByteArray} {rt : Option FieldType} {rm : Room} {As rest : List Value} {C : String} {i k2 : Nat} {q : vw_C} (hs : subw v w) (ha : agr v M M0) (hc : CV own C index y b k a rt) (hM : KXZ X v l y (wz y b k rt) rm mk sk (.ref (X.2.2 i) :: As) M0 rz) (hi : OK w i k2) (hk2 : k2 < 30) (hq : vwCl[k2]? = some q) (hqC : q.1 = C) (h0 : rm.cells = mk ∧ rm.slots = sk) (hR : rm.frames + 1 ≤ R.frames ∧ 8 + (k + 11) + rm.locals ≤ R.locals) (hcs : cells + mk ≤ R.cells ∧ slots + sk ≤ R.slots) (hn : As.length = a) (hst : st = As.reverse ++ .ref (X.2.2 i) :: rest) (hW : (rest.map fun v => v.category).sum ≤ 8) (d : decode cc pc = .ok (.invokevirtual index, 3))
    (kx : ∀ u, rz = .inr u → ∃ hpc, CAT s args c own (exName u.1) pc hpc ∧ ∀ q9, Z X w p l e R s m args below meth c (cells + mk) (slots + sk) Q n (mixm v u.2 M) hpc lv [.ref q9])
    (kk : ∀ E, rz = .inl E → Z X w p l e R s m args below meth c (cells + mk) (slots + sk) Q n (mixm v E.2 M) (pc + 3) lv (.int (bI E.1) :: rest)) : Z X w p l e R s m args below meth c cells slots Q n M pc lv st := by
  intro H locs ls h1 h2 h3
  subst hst
  refine vx_calli (vx_runV (As := As) (rest := rest) S.1 (hM H.size) (CVX.cw S hc h0.1 h0.2 hR) ⟨PW_blind, by have := PW_recv S h1 hi hk2 hq; rw [hqC] at this; exact this, PW_preW S hs ha h1 h2⟩ rfl hn h3.1 rfl (lv_room hW) d ⟨hcs.1, hcs.2⟩) h2 (fun q _ h => AA_down hs h2.1 q h) (AA_down hs h2.1) (fun q _ h => AA_down hs h2.1 q h) (fun E ce q9 u t H1 locs1 ht hvm hp hB hz hk hS g1 g2 g3 => ?_) (fun vv u t H1 locs1 ht hvm hp hB hz hk hS => ?_)
  · subst ht
    obtain ⟨hpc, ⟨pre, x, suf, nm, c1, c2, c3, c4, c5, c6, c7⟩, k9⟩ := kx u hp
    obtain ⟨rfl, hB⟩ := hB
    refine vx_catch S.1.2.2.2.1 pre x suf c1 c2 c3 c4 c5 c6 g1 g2 g3 ?_
    rw [c7]
    exact k9 q9 _ locs1 ls (WDP_mix h1 S.2.2.2.1 hs hB hk) hS h3
  · subst ht
    obtain ⟨b9, rfl, hp⟩ := hp
    exact kk (b9, u) hp _ locs1 ls (WDP_mix h1 S.2.2.2.1 hs hB hk) hS h3
theorem z_hVV (S : SB X w p s m args meth c cc n ret own) {rz : Mm ⊕ (Nat × Mm)} {index k a mk sk : Nat} {y : MethodName} {b : ByteArray} {rt : Option FieldType} {rm : Room} {As rest : List Value} {C : String} {i k2 : Nat} {q : vw_C} (hs : subw v w) (ha : agr v M M0) (hc : CV own C index y b k a rt) (hM : KXV X v l y (wz y b k rt) rm mk sk (.ref (X.2.2 i) :: As) M0 rz) (hi : OK w i k2) (hk2 : k2 < 30) (hq : vwCl[k2]? = some q) (hqC : q.1 = C) (h0 : rm.cells = mk ∧ rm.slots = sk) (hR : rm.frames + 1 ≤ R.frames ∧ 8 + (k + 11) + rm.locals ≤ R.locals) (hcs : cells + mk ≤ R.cells ∧ slots + sk ≤ R.slots) (hn : As.length = a) (hst : st = As.reverse ++ .ref (X.2.2 i) :: rest) (hW : (rest.map fun v => v.category).sum ≤ 8) (d : decode cc pc = .ok (.invokevirtual index, 3))
    (kx : ∀ u, rz = .inr u → ∃ hpc, CAT s args c own (exName u.1) pc hpc ∧ ∀ q9, Z X w p l e R s m args below meth c (cells + mk) (slots + sk) Q n (mixm v u.2 M) hpc lv [.ref q9])
    (kk : ∀ E, rz = .inl E → Z X w p l e R s m args below meth c (cells + mk) (slots + sk) Q n (mixm v E M) (pc + 3) lv (rest)) : Z X w p l e R s m args below meth c cells slots Q n M pc lv st := by
  intro H locs ls h1 h2 h3
  subst hst
  refine vx_callv (vx_runV (As := As) (rest := rest) S.1 (hM H.size) (CVX.cw S hc h0.1 h0.2 hR) ⟨PW_blind, by have := PW_recv S h1 hi hk2 hq; rw [hqC] at this; exact this, PW_preW S hs ha h1 h2⟩ rfl hn h3.1 rfl (lv_room hW) d ⟨hcs.1, hcs.2⟩) h2 (fun q _ h => AA_down hs h2.1 q h) (AA_down hs h2.1) (fun q _ h => AA_down hs h2.1 q h) (fun E ce q9 u t H1 locs1 ht hvm hp hB hz hk hS g1 g2 g3 => ?_) (fun u t H1 locs1 ht hvm hp hB hz hk hS => ?_)
  · subst ht
    obtain ⟨hpc, ⟨pre, x, suf, nm, c1, c2, c3, c4, c5, c6, c7⟩, k9⟩ := kx u hp
    obtain ⟨rfl, hB⟩ := hB
    refine vx_catch S.1.2.2.2.1 pre x suf c1 c2 c3 c4 c5 c6 g1 g2 g3 ?_
    rw [c7]
    exact k9 q9 _ locs1 ls (WDP_mix h1 S.2.2.2.1 hs hB hk) hS h3
  · subst ht
    exact kk u hp _ locs1 ls (WDP_mix h1 S.2.2.2.1 hs hB hk) hS h3
def wzh (y : MethodName) (cc : ByteArray) (n : Nat) (ret : Option FieldType) (hh : List (Nat × Nat × Nat × Nat)) : List Cond := .codeWith y cc n ret hh :: TB
def KW (X : Cx) (l : Launch) (y : MethodName) (ws : List Cond) (rm : Room) (av : List Value) (M : Mm) (r : Int32) (N : Mm) : Prop := ∀ sz, vx_Met l y ws rm (va_Pc av (PW2 X M sz)) (QI X 2 r N sz) (XCX X 2 (.inl () : Unit ⊕ (Nat × Mm)) sz) 3 18 (AA X 2 sz)
theorem PW2_blind {av : List Value} {sz : Nat} : FrameBlind (va_Pc av (PW2 X M sz)) := fun a U g mk q => ⟨q.1, ⟨q.2.1.1, q.2.1.2.1, q.2.1.2.2.1, q.2.1.2.2.2.warm (State.WarmedH.refl U)⟩, NCF.warm (State.WarmedH.refl U) q.2.2⟩
theorem KW_of {y : MethodName} {rm : Room} {av : List Value} {lv0 : List (Nat × Value)} {hh : List (Nat × Nat × Nat × Nat)} {r : Int32} {N : Mm} (hy : plainName y.cls = true) (hown : y.cls = own) (hav : (lg_sl av).length ≤ n) (hlv : lv_args 0 av = lv0)
    (body : ∀ (p : Program) (e : Env) (s : State) (m : MethodId) (args : Array Value) (below : List Frame) (meth : Method) (c : Code), SB X 2 p s m args meth c cc n (some .int) own → c.exceptionTable.toList = tableOf hh → NCF s → Z X 2 p l e rm s m args below meth c 0 0 (vx_MQ below (QI X 2 r N s.heap.size) (XCX X 2 (.inl () : Unit ⊕ (Nat × Mm)) s.heap.size) args s 3 18 (AA X 2 s.heap.size)) n M 0 lv0 []) : KW X l y (wzh y cc n (some .int) hh) rm av M r N := by
  intro sz
  refine vx_ofWH (cc := cc) (maxL := n) (ret := some .int) (hh := hh) hy rfl ?_
  intro p e s m args below meth c s₁ B hml hv
  obtain ⟨rfl, ⟨hsz, hP, hX, hE⟩, hN⟩ := hv
  subst hsz
  have hts := atoms_spec (ws := wzh y cc n (some .int) hh) B.pre
  have S : SB X 2 p s m av.toArray meth c cc n (some .int) own := ⟨⟨B.exec, B.bytes, hml, by rw [← hown]; exact findClass_of_methodNamed B.named, fun z hz => hts z (List.mem_cons_of_mem _ hz)⟩, B.returns, B.notSynchronized, hX, hE⟩
  have hl := lv_entry av (n := n) hav
  rw [lg_entry_eq]
  exact body p e s m _ below meth c S (vx_table (x := y) B (hts _ List.mem_cons_self)) hN s.heap [] _ hP va_S.rf (hlv ▸ hl)
/-- a wrapper's end -/
theorem z_wret (S : SB X 2 p s m args meth c cc n (some .int) own) {r : Int32} {N : Mm} (hM : M = N) (hc : cells ≤ 3) (hs : slots ≤ 18) (d : decode cc pc = .ok (.ireturn, 1)) : Z X 2 p l e R s m args below meth c cells slots (vx_MQ below (QI X 2 r N s.heap.size) (XCX X 2 (.inl () : Unit ⊕ (Nat × Mm)) s.heap.size) args s 3 18 (AA X 2 s.heap.size)) n M pc lv [.int r] := by
  intro H locs ls h1 h2 h3
  subst hM
  have hlocks := S.2.2.1
  exact W.widen hc hs (vx_ret (W.iret S.1.1 S.1.2.1 S.2.1 (fun t ht hW => ⟨⟨r, M, rfl, ⟨rfl, rfl⟩, (by subst ht; exact h1)⟩, h2.F ht⟩) h2.2.2 d))
/-- the law's call of a wrapper -/
def CW (own : String) (index : Nat) (y : MethodName) (b : ByteArray) (k a : Nat) (hh : List (Nat × Nat × Nat × Nat)) : Prop := Cond.codeWith y b k (some .int) hh ∈ TB ∧ Cond.methodLink own index y ∈ TB ∧ Cond.static y ∈ TB ∧ Cond.initialized y.cls ∈ TB ∧ y.cls ≠ "java/lang/invoke/MethodHandle" ∧ y.cls ≠ "java/lang/invoke/VarHandle" ∧ (parseMethodDescriptor y.desc).map (fun d => d.parameters.length) = some a
theorem z_cW (S : SB X 3 p s m args meth c cc n ret own) (hNC : NCF s) {index k a : Nat} {y : MethodName} {b : ByteArray} {hh : List (Nat × Nat × Nat × Nat)} {rm : Room} {As rest : List Value} {r : Int32} {Mc Mr N : Mm} {g g2 : Nat → Int64} (hc : CW own index y b k a hh) (hM : KW X l y (wzh y b k (some .int) hh) rm As (mk3 Mc Mr g) r (mk3 N Mr g2)) (h0 : rm.cells = 3 ∧ rm.slots = 18) (hR : rm.frames + 1 ≤ R.frames ∧ 8 + (k + 11) + rm.locals ≤ R.locals) (hcs : cells + 3 ≤ R.cells ∧ slots + 18 ≤ R.slots) (hn : As.length = a) (hst : st = As.reverse ++ rest) (hW : (rest.map fun v => v.category).sum ≤ 8) (d : decode cc pc = .ok (.invokestatic index, 3)) (kk : Z X 3 p l e R s m args below meth c (cells + 3) (slots + 18) Q n (mk3 N Mr g2) (pc + 3) lv (.int r :: rest)) : Z X 3 p l e R s m args below meth c cells slots Q n (mk3 Mc Mr g) pc lv st := by
  intro H locs ls h1 h2 h3
  subst hst
  have hs : subw 2 3 := ⟨by decide, by decide⟩
  obtain ⟨g1, g3, g4, g5, g6, g7, g8⟩ := hc
  have hG : GoodIn TB (va_wsS own index y (wzh y b k (some .int) hh)) := by
    intro z hz
    unfold va_wsS at hz
    have : z ∈ TB := by
      simp only [wzh, List.mem_append, List.mem_cons, List.not_mem_nil, or_false] at hz
      rcases hz with hz | hz | hz
      · rcases hz with rfl | rfl | rfl <;> first | exact g3 | exact g4 | exact g5
      · subst hz; exact g1
      · exact hz
    exact TB_good z this
  refine vx_calli (vx_runSX (hh := hh) (bytes := b) (maxL := k) (ret := some .int) (As := As) (rest := rest) S.1 (hM H.size) (vx_cwSW a S.1.2.2.2.2 hG rfl h0.1 h0.2 ⟨g6, g7, g8⟩ hR) ⟨PW2_blind, fun U hU hW2 => ?_⟩ rfl hn h3.1 rfl (lv_room hW) d ⟨hcs.1, hcs.2⟩) h2 (fun q _ h => AA_down hs h2.1 q h) (AA_down hs h2.1) (fun q _ h => AA_down hs h2.1 q h) (fun E ce q9 u t H1 locs1 ht hvm hp hB hz hk hS q1 q2 q3 => ?_) (fun vv u t H1 locs1 ht hvm hp hB hz hk hS => ?_)
  · obtain ⟨e1, e2⟩ := PW_preW S hs agr_rf h1 h2 U hU hW2
    exact ⟨e1, e2, NCF.warm hW2 hNC⟩
  · cases hp
  · obtain ⟨rfl, rfl⟩ := hp
    subst ht
    exact kk _ locs1 ls (by rw [← mix3w (Mc := Mc) (Mr := Mr) (g := g)]; exact WDP_mix h1 S.2.2.2.1 hs hB hk) hS h3
/-- the script -/
theorem z_sld (S : SB X w p s m args meth c cc n ret own) {b L : Nat} {xs : Nat → Int32} {i : Int32} (hX : va_X b L xs s s.heap) (hbl : b < s.heap.size) (hbA : ¬ AA X w s.heap.size b) (hin : ibs i L = true) (d : decode cc pc = .ok (.iaload, 1)) (kk : Z X w p l e R s m args below meth c cells slots Q n M (pc + 1) lv (.int (xs i.toNatClampNeg) :: st)) : Z X w p l e R s m args below meth c cells slots Q n M pc lv (.int i :: .ref b :: st) := fun H locs ls h1 h2 h3 => va_sld S.1.1 S.1.2.1 hX hbl hbA h2 (vp_of_ibs hin) d (kk H locs ls h1 h2 h3)
theorem z_slen (S : SB X w p s m args meth c cc n ret own) {b L : Nat} {xs : Nat → Int32} (hX : va_X b L xs s s.heap) (hbl : b < s.heap.size) (hbA : ¬ AA X w s.heap.size b) (d : decode cc pc = .ok (.arraylength, 1)) (kk : Z X w p l e R s m args below meth c cells slots Q n M (pc + 1) lv (.int (Int32.ofNat L) :: st)) : Z X w p l e R s m args below meth c cells slots Q n M pc lv (.ref b :: st) := fun H locs ls h1 h2 h3 => va_slen S.1.1 S.1.2.1 hX hbl hbA h2 d (kk H locs ls h1 h2 h3)
end ZW
/-- what a wrapper answers: 0 and the answer in the law's row, or the number of the row that catches -/
def wrO (hs : List (Nat × Int32)) (q : Nat × Mm) (g : Nat → Int64) : Option (Int32 × Mm × (Nat → Int64)) := (hs.lookup q.1).map (fun j => (j, q.2, g))
def putg (g : Nat → Int64) (v : Int64) : Nat → Int64 := fun k => if k = 0 then v else g k
def wrI (hs : List (Nat × Int32)) (rx : (Int32 × Mm) ⊕ (Nat × Mm)) (g : Nat → Int64) : Option (Int32 × Mm × (Nat → Int64)) := rx.elim (fun E => some (0, E.2, putg g (Int32.toInt64 E.1))) (fun q => wrO hs q g)
def wrZ (hs : List (Nat × Int32)) (rx : (Bool × Mm) ⊕ (Nat × Mm)) (g : Nat → Int64) : Option (Int32 × Mm × (Nat → Int64)) := rx.elim (fun E => some (0, E.2, putg g (if E.1 = true then 1 else 0))) (fun q => wrO hs q g)
def wrV (hs : List (Nat × Int32)) (rx : Mm ⊕ (Nat × Mm)) (g : Nat → Int64) : Option (Int32 × Mm × (Nat → Int64)) := rx.elim (fun E => some (0, E, g)) (fun q => wrO hs q g)
theorem sL3 {Mc Mr : Mm} {g : Nat → Int64} {v : Int64} : sL (mk3 Mc Mr g) 108 0 v = mk3 Mc Mr (putg g v) := by
  refine mix3 (fun i => ⟨rfl, ?_, rfl⟩)
  by_cases h : i = 108
  · subst h
    funext k
    simp [sL, sJ, mk3, sel3_g, up2, putg]
  · funext k
    simp [sL, sJ, mk3, up2, h, sel3]
theorem z_memeq {X : Cx} {w : Nat} {p : Program} {l : Launch} {e : Env} {R : Room} {s : State} {m : MethodId} {args : Array Value} {below : List Frame} {meth : Method} {c : Code} {cells slots : Nat} {Q : State → Prop} {n : Nat} {M N : Mm} {pc : Nat} {lv : List (Nat × Value)} {st : List Value} (h : M = N) (k : Z X w p l e R s m args below meth c cells slots Q n N pc lv st) : Z X w p l e R s m args below meth c cells slots Q n M pc lv st := by
  rw [h]; exact k
