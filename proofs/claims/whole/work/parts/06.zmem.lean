/-! rows: fields, arrays, answers, calls -/
section ZM
variable {X : Cx} {w : Nat} {p : Program} {l : Launch} {e : Env} {R : Room} {s : State} {m : MethodId} {args : Array Value} {below : List Frame} {meth : Method} {c : Code} {cells slots : Nat} {Q : State → Prop} {n : Nat} {M : Mm} {pc : Nat} {lv lv' : List (Nat × Value)} {st : List Value} {cc : ByteArray} {ret : Option FieldType} {own : String}
theorem OK.rg {i k : Nat} (h : OK w i k) : (wd X w M)[i - wlo w]? = some (X.2.2 i, cel X M i) := wd_get h.1 h.2.1
/-- a field: what the class's table says of it -/
def FOK (own C : String) (T : u_T) (N k index b : Nat) : Prop := vwCl[k]? = some (C, T, N) ∧ b < N ∧ N = nf k ∧ k < 30 ∧ (∀ z ∈ u_ws C T N, z ∈ TB) ∧ Cond.fieldLink own index (T b).1 (T b).2.1 (T b).2.2.1 ∈ TB
theorem z_getI (S : SB X w p s m args meth c cc n ret own) {C : String} {T : u_T} {N k index b i : Nat} (hf : FOK own C T N k index b) (ht : ty k b = 0) (hi : OK w i k) (d : decode cc pc = .ok (.getfield index, 3)) (kk : Z X w p l e R s m args below meth c cells slots Q n M (pc + 3) lv (.int (gI M i b) :: st)) : Z X w p l e R s m args below meth c cells slots Q n M pc lv (.ref (X.2.2 i) :: st) := by
  intro H locs ls h1 h2 h3
  obtain ⟨q1, q2, q3, q4, q5, q6⟩ := hf
  refine va_get S.1.1 S.1.2.1 S.1.2.2.2.2 q5 S.1.2.2.2.1 S.K h1 (i - wlo w) (fs := flds X M k i) (by rw [OK.rg hi, cel_o hi.2.2 q4]) q1 b q2 (S.1.2.2.2.2 _ q6) (fun _ h => h) (v := .int (gI M i b)) ?_ d (kk H locs ls h1 h2 h3)
  rw [flds_at (by omega), ht]
  rfl
theorem z_getF (S : SB X w p s m args meth c cc n ret own) {C : String} {T : u_T} {N k index b i j : Nat} (hf : FOK own C T N k index b) (dd : Nat) (ht : ty k b = dd + 2) (hj : i + dd = j) (hi : OK w i k) (d : decode cc pc = .ok (.getfield index, 3)) (kk : Z X w p l e R s m args below meth c cells slots Q n M (pc + 3) lv (.ref (X.2.2 j) :: st)) : Z X w p l e R s m args below meth c cells slots Q n M pc lv (.ref (X.2.2 i) :: st) := by
  intro H locs ls h1 h2 h3
  obtain ⟨q1, q2, q3, q4, q5, q6⟩ := hf
  refine va_get S.1.1 S.1.2.1 S.1.2.2.2.2 q5 S.1.2.2.2.1 S.K h1 (i - wlo w) (fs := flds X M k i) (by rw [OK.rg hi, cel_o hi.2.2 q4]) q1 b q2 (S.1.2.2.2.2 _ q6) (fun _ h => h) (v := .ref (X.2.2 j)) ?_ d (kk H locs ls h1 h2 h3)
  rw [flds_at (by omega), ht]
  subst hj
  simp [slv]
/-- a reference that changes: it is none, or an object -/
theorem z_getR (S : SB X w p s m args meth c cc n ret own) {C : String} {T : u_T} {N k index b i : Nat} (hf : FOK own C T N k index b) (ht : ty k b = 1) (hi : OK w i k) (d : decode cc pc = .ok (.getfield index, 3)) (kk : Z X w p l e R s m args below meth c cells slots Q n M (pc + 3) lv (va_rf (rfo X (gR M i b)) :: st)) : Z X w p l e R s m args below meth c cells slots Q n M pc lv (.ref (X.2.2 i) :: st) := by
  intro H locs ls h1 h2 h3
  obtain ⟨q1, q2, q3, q4, q5, q6⟩ := hf
  refine va_get S.1.1 S.1.2.1 S.1.2.2.2.2 q5 S.1.2.2.2.1 S.K h1 (i - wlo w) (fs := flds X M k i) (by rw [OK.rg hi, cel_o hi.2.2 q4]) q1 b q2 (S.1.2.2.2.2 _ q6) (fun _ h => h) (v := va_rf (rfo X (gR M i b))) ?_ d (kk H locs ls h1 h2 h3)
  rw [flds_at (by omega), ht]
  rfl
theorem rf_some {i : Nat} (h : i ≠ 0) : va_rf (rfo X i) = .ref (X.2.2 i) := by rw [rfo, if_neg h]; rfl
/-- a reference that changes, with the test that it is an object of kind k2 -/
theorem z_getG (S : SB X w p s m args meth c cc n ret own) {C : String} {T : u_T} {N k k2 index b i : Nat} {α : Type} {A : Option α} {x0 : α} (hf : FOK own C T N k index b) (ht : ty k b = 1) (hi : OK w i k) (h0 : kd 0 ≠ k2) (he : (if kd (gR M i b) = k2 then A else none) = some x0) (d : decode cc pc = .ok (.getfield index, 3)) (kk : kd (gR M i b) = k2 → A = some x0 → Z X w p l e R s m args below meth c cells slots Q n M (pc + 3) lv (.ref (X.2.2 (gR M i b)) :: st)) : Z X w p l e R s m args below meth c cells slots Q n M pc lv (.ref (X.2.2 i) :: st) := by
  obtain ⟨g1, g2⟩ := grd he
  refine z_getR S hf ht hi d ?_
  rw [rf_some (fun e => h0 (by rw [← g1, e]))]
  exact kk g1 g2
def FOP (own C : String) (T : u_T) (N k index b : Nat) (ty0 : Nat → FieldType) (t1 : FieldType) : Prop := FOK own C T N k index b ∧ (∀ k, k < N → parseFieldDescriptor (T k).2.2.1 = some (ty0 k)) ∧ (∀ a, a < N → ∀ b, b < N → a ≠ b → (T a).2.1 ≠ (T b).2.1) ∧ (T b).2.2.2 = false ∧ parseFieldDescriptor (T b).2.2.1 = some t1
theorem z_putI (S : SB X w p s m args meth c cc n ret own) {C : String} {T : u_T} {N k index b i : Nat} {ty0 : Nat → FieldType} {t1 : FieldType} {v : Int32} (hf : FOP own C T N k index b ty0 t1) (ht : ty k b = 0) (hi : OK w i k) (hn : narrow t1 (.int v) = .int v) (hfit : fits t1 (.int v) = true) (d : decode cc pc = .ok (.putfield index, 3)) (kk : Z X w p l e R s m args below meth c cells slots Q n (sI M i b v) (pc + 3) lv st) : Z X w p l e R s m args below meth c cells slots Q n M pc lv (.int v :: .ref (X.2.2 i) :: st) := by
  intro H locs ls h1 h2 h3
  obtain ⟨⟨q1, q2, q3, q4, q5, q6⟩, r1, r2, r3, r4⟩ := hf
  refine va_put S.1.1 S.1.2.1 S.1.2.2.2.2 q5 ty0 r1 r2 S.1.2.2.2.1 S.K h1 S.D h2 (i - wlo w) (fs := flds X M k i) (by rw [OK.rg hi, cel_o hi.2.2 q4]) q1 b q2 (S.1.2.2.2.2 _ q6) (fun _ h => h) r3 r4 hn hfit (by rw [flds_len]; omega) d (fun H1 l1 p1 p2 p3 => ?_)
  rw [flds_sI (by omega) ht, wd_set hi.1 hi.2.1 (cel_o hi.2.2 q4) (fun j hj => cel_sI hj)] at p1
  exact kk H1 l1 ls p1 p3 h3
theorem fits_ref {C : String} {a : Nat} : narrow (.object C) (.ref a) = .ref a ∧ fits (.object C) (.ref a) = true := ⟨rfl, rfl⟩
theorem z_putR (S : SB X w p s m args meth c cc n ret own) {C C1 : String} {T : u_T} {N k index b i v : Nat} {ty0 : Nat → FieldType} (hf : FOP own C T N k index b ty0 (.object C1)) (ht : ty k b = 1) (hi : OK w i k) (hv : v ≠ 0) (d : decode cc pc = .ok (.putfield index, 3)) (kk : Z X w p l e R s m args below meth c cells slots Q n (sR M i b v) (pc + 3) lv st) : Z X w p l e R s m args below meth c cells slots Q n M pc lv (.ref (X.2.2 v) :: .ref (X.2.2 i) :: st) := by
  intro H locs ls h1 h2 h3
  obtain ⟨⟨q1, q2, q3, q4, q5, q6⟩, r1, r2, r3, r4⟩ := hf
  refine va_put S.1.1 S.1.2.1 S.1.2.2.2.2 q5 ty0 r1 r2 S.1.2.2.2.1 S.K h1 S.D h2 (i - wlo w) (fs := flds X M k i) (by rw [OK.rg hi, cel_o hi.2.2 q4]) q1 b q2 (S.1.2.2.2.2 _ q6) (fun _ h => h) r3 r4 fits_ref.1 fits_ref.2 (by rw [flds_len]; omega) d (fun H1 l1 p1 p2 p3 => ?_)
  rw [← rf_some hv, flds_sR (by omega) ht, wd_set hi.1 hi.2.1 (cel_o hi.2.2 q4) (fun j hj => cel_sR hj)] at p1
  exact kk H1 l1 ls p1 p3 h3
/-- int arrays -/
theorem z_iald (S : SB X w p s m args meth c cc n ret own) {i N : Nat} {x : Int32} {α : Type} {A : Option α} {x0 : α} (hi : OK w i 30) (hN : ln i = N) (he : (if ibs x N = true then A else none) = some x0) (d : decode cc pc = .ok (.iaload, 1)) (kk : A = some x0 → Z X w p l e R s m args below meth c cells slots Q n M (pc + 1) lv (.int (gA M i x) :: st)) : Z X w p l e R s m args below meth c cells slots Q n M pc lv (.int x :: .ref (X.2.2 i) :: st) := by
  intro H locs ls h1 h2 h3
  obtain ⟨g1, g2⟩ := grd he
  exact va_iald S.1.1 S.1.2.1 S.K h1 (i - wlo w) 0 (by rw [OK.rg hi, cel_i hi.2.2]) rfl (by rw [hN]; exact vp_of_ibs g1) d (kk g2 H locs ls h1 h2 h3)
theorem sI_cell {i : Nat} {x : Int32} {v : Int32} : (sA M i x v).1 i = upd (M.1 i) x.toNatClampNeg v := by
  funext b
  simp only [sA, sI, up2, upd]
  by_cases hb : b = x.toNatClampNeg <;> simp [hb]
theorem z_iast (S : SB X w p s m args meth c cc n ret own) {i N : Nat} {x v : Int32} {α : Type} {A : Option α} {x0 : α} (hi : OK w i 30) (hN : ln i = N) (he : (if ibs x N = true then A else none) = some x0) (d : decode cc pc = .ok (.iastore, 1)) (kk : A = some x0 → Z X w p l e R s m args below meth c cells slots Q n (sA M i x v) (pc + 1) lv st) : Z X w p l e R s m args below meth c cells slots Q n M pc lv (.int v :: .int x :: .ref (X.2.2 i) :: st) := by
  intro H locs ls h1 h2 h3
  obtain ⟨g1, g2⟩ := grd he
  refine va_iast S.1.1 S.1.2.1 S.K h1 S.D h2 (i - wlo w) 0 (by rw [OK.rg hi, cel_i hi.2.2]) rfl (by rw [hN]; exact vp_of_ibs g1) d (fun H1 l1 p1 p2 p3 => ?_)
  rw [wd_set hi.1 hi.2.1 (M1 := sA M i x v) (by rw [cel_i hi.2.2, sI_cell]) (fun j hj => cel_sI hj)] at p1
  exact kk g2 H1 l1 ls p1 p3 h3
/-- boolean arrays -/
theorem z_zald (S : SB X w p s m args meth c cc n ret own) {i N : Nat} {x : Int32} {α : Type} {A : Option α} {x0 : α} (hi : OK w i 41) (hN : ln i = N) (he : (if ibs x N = true then A else none) = some x0) (d : decode cc pc = .ok (.baload, 1)) (kk : A = some x0 → Z X w p l e R s m args below meth c cells slots Q n M (pc + 1) lv (.int (gA M i x) :: st)) : Z X w p l e R s m args below meth c cells slots Q n M pc lv (.int x :: .ref (X.2.2 i) :: st) := by
  intro H locs ls h1 h2 h3
  obtain ⟨g1, g2⟩ := grd he
  exact va_zald S.1.1 S.1.2.1 S.K h1 (i - wlo w) 4 (by rw [OK.rg hi, cel_z hi.2.2]) rfl (by rw [hN]; exact vp_of_ibs g1) d (kk g2 H locs ls h1 h2 h3)
theorem z_zast (S : SB X w p s m args meth c cc n ret own) {i N : Nat} {x v : Int32} {α : Type} {A : Option α} {x0 : α} (hi : OK w i 41) (hN : ln i = N) (he : (if ibs x N = true then A else none) = some x0) (d : decode cc pc = .ok (.bastore, 1)) (kk : A = some x0 → Z X w p l e R s m args below meth c cells slots Q n (sA M i x (vp_nar .boolean v)) (pc + 1) lv st) : Z X w p l e R s m args below meth c cells slots Q n M pc lv (.int v :: .int x :: .ref (X.2.2 i) :: st) := by
  intro H locs ls h1 h2 h3
  obtain ⟨g1, g2⟩ := grd he
  refine va_zast S.1.1 S.1.2.1 S.K h1 S.D h2 (i - wlo w) 4 (by rw [OK.rg hi, cel_z hi.2.2]) rfl (by rw [hN]; exact vp_of_ibs g1) d (fun H1 l1 p1 p2 p3 => ?_)
  rw [wd_set hi.1 hi.2.1 (M1 := sA M i x (vp_nar .boolean v)) (by rw [cel_z hi.2.2, sI_cell]) (fun j hj => cel_sI hj)] at p1
  exact kk g2 H1 l1 ls p1 p3 h3
/-- long arrays -/
theorem z_lald (S : SB X w p s m args meth c cc n ret own) {i N : Nat} {x : Int32} {α : Type} {A : Option α} {x0 : α} (hi : OK w i 31) (hN : ln i = N) (he : (if ibs x N = true then A else none) = some x0) (d : decode cc pc = .ok (.laload, 1)) (kk : A = some x0 → Z X w p l e R s m args below meth c cells slots Q n M (pc + 1) lv (.long (gL M i x) :: st)) : Z X w p l e R s m args below meth c cells slots Q n M pc lv (.int x :: .ref (X.2.2 i) :: st) := by
  intro H locs ls h1 h2 h3
  obtain ⟨g1, g2⟩ := grd he
  exact va_lald S.1.1 S.1.2.1 S.K h1 (i - wlo w) 1 (by rw [OK.rg hi, cel_j hi.2.2]) rfl (by rw [hN]; exact vp_of_ibs g1) d (kk g2 H locs ls h1 h2 h3)
theorem sJ_cell {i : Nat} {x : Int32} {v : Int64} : (sL M i x v).2.1 i = vp_updL (M.2.1 i) x.toNatClampNeg v := by
  funext b
  simp only [sL, sJ, up2, vp_updL]
  by_cases hb : b = x.toNatClampNeg <;> simp [hb]
theorem z_last (S : SB X w p s m args meth c cc n ret own) {i N : Nat} {x : Int32} {v : Int64} {α : Type} {A : Option α} {x0 : α} (hi : OK w i 31) (hN : ln i = N) (he : (if ibs x N = true then A else none) = some x0) (d : decode cc pc = .ok (.lastore, 1)) (kk : A = some x0 → Z X w p l e R s m args below meth c cells slots Q n (sL M i x v) (pc + 1) lv st) : Z X w p l e R s m args below meth c cells slots Q n M pc lv (.long v :: .int x :: .ref (X.2.2 i) :: st) := by
  intro H locs ls h1 h2 h3
  obtain ⟨g1, g2⟩ := grd he
  refine va_last S.1.1 S.1.2.1 S.K h1 S.D h2 (i - wlo w) 1 (by rw [OK.rg hi, cel_j hi.2.2]) rfl (by rw [hN]; exact vp_of_ibs g1) d (fun H1 l1 p1 p2 p3 => ?_)
  rw [wd_set hi.1 hi.2.1 (M1 := sL M i x v) (by rw [cel_j hi.2.2, sJ_cell]) (fun j hj => cel_sJ hj)] at p1
  exact kk g2 H1 l1 ls p1 p3 h3
theorem z_alen (S : SB X w p s m args meth c cc n ret own) {i N k t0 : Nat} {v : Int32} {xa : (Nat → Int32) ⊕ (Nat → Int64) ⊕ (Nat → UInt32) ⊕ (Nat → UInt64) ⊕ (Nat → Option Nat)} {t : FieldType} (hi : OK w i k) (hc : cel X M i = .inl (X.2.1 t0, ln i, xa)) (ht : (tysOf X)[t0]? = some (X.2.1 t0, t)) (hN : ln i = N) (hv : Int32.ofNat N = v) (d : decode cc pc = .ok (.arraylength, 1)) (kk : Z X w p l e R s m args below meth c cells slots Q n M (pc + 1) lv (.int v :: st)) : Z X w p l e R s m args below meth c cells slots Q n M pc lv (.ref (X.2.2 i) :: st) := by
  intro H locs ls h1 h2 h3
  exact va_alen S.1.1 S.1.2.1 S.K h1 (i - wlo w) t0 (by rw [OK.rg hi, hc]) ht (by rw [hN]; exact hv) d (kk H locs ls h1 h2 h3)
/-- answers -/
theorem z_iret (S : SB X w p s m args meth c cc n (some .int) own) {v r : Int32} {N : Mm} (h : v = r ∧ M = N) (d : decode cc pc = .ok (.ireturn, 1)) : Z X w p l e R s m args below meth c cells slots (MQ below (QI X w r N s.heap.size) args s cells slots (AA X w s.heap.size)) n M pc lv [.int v] := by
  intro H locs ls h1 h2 h3
  have hlocks := S.2.2.1
  exact W.iret S.1.1 S.1.2.1 S.2.1 (fun t ht hW => ⟨⟨v, M, rfl, h, (by subst ht; exact h1)⟩, h2.F ht⟩) h2.2.2 d
theorem nar_b (b : Bool) : narrow .boolean (.int (bI b)) = .int (bI b) := by cases b <;> rfl
theorem z_zret (S : SB X w p s m args meth c cc n (some .boolean) own) {v r : Bool} {N : Mm} (h : v = r ∧ M = N) (d : decode cc pc = .ok (.ireturn, 1)) : Z X w p l e R s m args below meth c cells slots (MQ below (QI X w (bI r) N s.heap.size) args s cells slots (AA X w s.heap.size)) n M pc lv [.int (bI v)] := by
  intro H locs ls h1 h2 h3
  have hlocks := S.2.2.1
  obtain ⟨rfl, rfl⟩ := h
  exact W.zret S.1.1 S.1.2.1 S.2.1 (nar_b v) (fun t ht hW => ⟨⟨bI v, M, rfl, ⟨rfl, rfl⟩, (by subst ht; exact h1)⟩, h2.F ht⟩) h2.2.2 d
theorem z_lret (S : SB X w p s m args meth c cc n (some .long) own) {v r : Int64} {N : Mm} (h : v = r ∧ M = N) (d : decode cc pc = .ok (.lreturn, 1)) : Z X w p l e R s m args below meth c cells slots (MQ below (QL X w r N s.heap.size) args s cells slots (AA X w s.heap.size)) n M pc lv [.long v] := by
  intro H locs ls h1 h2 h3
  have hlocks := S.2.2.1
  exact W.lret S.1.1 S.1.2.1 S.2.1 (fun t ht hW => ⟨⟨v, M, rfl, h, (by subst ht; exact h1)⟩, h2.F ht⟩) h2.2.2 d
theorem z_vret (S : SB X w p s m args meth c cc n none own) {N : Mm} (h : M = N) (d : decode cc pc = .ok (.return_, 1)) : Z X w p l e R s m args below meth c cells slots (MQ below (QV X w N s.heap.size) args s cells slots (AA X w s.heap.size)) n M pc lv [] := by
  intro H locs ls h1 h2 h3
  have hlocks := S.2.2.1
  exact W.vret S.1.1 S.1.2.1 S.2.1 (fun t ht hW => ⟨⟨M, rfl, h, (by subst ht; exact h1)⟩, h2.F ht⟩) h2.2.2 d
/-- the callee's start, out of the caller's state -/
theorem PW_blind {av : List Value} {sz : Nat} : FrameBlind (va_Pc av (PW X w M sz)) := fun a U g mk q => ⟨q.1, q.2.1, q.2.2.1, q.2.2.2.1, q.2.2.2.2.warm (State.WarmedH.refl U)⟩
theorem PW_pre (S : SB X w p s m args meth c cc n ret own) {av : List Value} {H : Heap} {locs : List Loc} (h1 : WDP X w M H) (h2 : va_S (AA X w s.heap.size) s.heap H locs) : ∀ U : State, U.heap = H → s.WarmedH U.vm → va_Pc av (PW X w M H.size) av.toArray U := by
  intro U hU hW
  refine ⟨rfl, by rw [hU], by rw [hU]; exact h1, S.2.2.2.1, ?_⟩
  rw [hU]
  exact ((S.2.2.2.2.kept h2.2.1).narrow (AA_sub h2.1)).warm hW
theorem PW_recv (S : SB X w p s m args meth c cc n ret own) {H : Heap} {i k : Nat} {q : vw_C} (h1 : WDP X w M H) (hi : OK w i k) (hk : k < 30) (hq : vwCl[k]? = some q) : ∃ cell : Cell, H[X.2.2 i]? = some cell ∧ cell.vm.isStatics = false ∧ s.vm.findClass q.1 = some cell.cls := va_recv S.K h1 hq (by rw [OK.rg hi, cel_o hi.2.2 hk])
theorem TB_good : GoodIn TB TB := fun z hz => ⟨hz, good_of_word (List.mem_filter.mp hz).2⟩
theorem wz_good {y : MethodName} {b : ByteArray} {k : Nat} {r : Option FieldType} (h : Cond.code y b k r ∈ TB) : GoodIn TB (wz y b k r) := by
  intro z hz
  rcases List.mem_cons.mp hz with e | e
  · subst e; exact TB_good _ h
  · exact TB_good z e
/-- what a call of an own method needs of the tables -/
def CV (own C : String) (index : Nat) (y : MethodName) (b : ByteArray) (k a : Nat) (r : Option FieldType) : Prop := Cond.code y b k r ∈ TB ∧ Cond.methodLink own index y ∈ TB ∧ Cond.instanceMethod y ∈ TB ∧ Cond.selects C y y ∈ TB ∧ Cond.initialized y.cls ∈ TB ∧ y.cls = C ∧ y.cls ≠ "java/lang/invoke/MethodHandle" ∧ y.cls ≠ "java/lang/invoke/VarHandle" ∧ (parseMethodDescriptor y.desc).map (fun d => d.parameters.length) = some a
def CS (own : String) (index : Nat) (y : MethodName) (b : ByteArray) (k a : Nat) (r : Option FieldType) : Prop := Cond.code y b k r ∈ TB ∧ Cond.methodLink own index y ∈ TB ∧ Cond.static y ∈ TB ∧ Cond.initialized y.cls ∈ TB ∧ y.cls ≠ "java/lang/invoke/MethodHandle" ∧ y.cls ≠ "java/lang/invoke/VarHandle" ∧ (parseMethodDescriptor y.desc).map (fun d => d.parameters.length) = some a
def CSN (own host : String) (index : Nat) (y : MethodName) (b : ByteArray) (k a : Nat) (r : Option FieldType) : Prop := Cond.code y b k r ∈ TB ∧ Cond.methodLinkNest own index y host ∈ NW ∧ Cond.static y ∈ TB ∧ Cond.initialized y.cls ∈ TB ∧ y.cls ≠ "java/lang/invoke/MethodHandle" ∧ y.cls ≠ "java/lang/invoke/VarHandle" ∧ (parseMethodDescriptor y.desc).map (fun d => d.parameters.length) = some a
theorem CV.cw (S : SB X w p s m args meth c cc n ret own) {C : String} {index : Nat} {y : MethodName} {b : ByteArray} {k a : Nat} {r : Option FieldType} {rm : Room} (h : CV own C index y b k a r) (h0 : rm.cells = 0) (h1 : rm.slots = 0) (hR : rm.frames + 1 ≤ R.frames ∧ 8 + (k + 11) + rm.locals ≤ R.locals) : CallW R s args own C index y b k r (wz y b k r) rm 0 0 a := by
  obtain ⟨g1, g2, g3, g4, g5, g6, g7, g8, g9⟩ := h
  exact ⟨callB_of a S.1.2.2.2.2 (wz_good g1) rfl h0 h1 (S.1.2.2.2.2 _ g5) (S.1.2.2.2.2 _ g2) ⟨g7, g8, g9⟩ hR, S.1.2.2.2.2 _ g3, S.1.2.2.2.2 _ g4⟩
theorem CS.cw (S : SB X w p s m args meth c cc n ret own) {index : Nat} {y : MethodName} {b : ByteArray} {k a : Nat} {r : Option FieldType} {rm : Room} (h : CS own index y b k a r) (h0 : rm.cells = 0) (h1 : rm.slots = 0) (hR : rm.frames + 1 ≤ R.frames ∧ 8 + (k + 11) + rm.locals ≤ R.locals) : CallB R s args own index y b k r (wz y b k r) rm 0 0 a ∧ (Cond.static y).before args s = true := by
  obtain ⟨g1, g2, g3, g4, g5, g6, g7⟩ := h
  exact ⟨callB_of a S.1.2.2.2.2 (wz_good g1) rfl h0 h1 (S.1.2.2.2.2 _ g4) (S.1.2.2.2.2 _ g2) ⟨g5, g6, g7⟩ hR, S.1.2.2.2.2 _ g3⟩
theorem CSN.cw (S : SB X w p s m args meth c cc n ret own) {host : String} {index : Nat} {y : MethodName} {b : ByteArray} {k a : Nat} {r : Option FieldType} {rm : Room} (h : CSN own host index y b k a r) (h0 : rm.cells = 0) (h1 : rm.slots = 0) (hR : rm.frames + 1 ≤ R.frames ∧ 8 + (k + 11) + rm.locals ≤ R.locals) : va_CN R s args own index y host b k r (wz y b k r) rm 0 0 a ∧ (Cond.static y).before args s = true ∧ True := by
  obtain ⟨g1, g2, g3, g4, g5, g6, g7⟩ := h
  exact ⟨va_cnB a S.1.2.2.2.2 (wz_good g1) rfl h0 h1 (S.2.2.2.2.2.1 _ g2) (S.1.2.2.2.2 _ g4) ⟨g5, g6, g7⟩ hR, S.1.2.2.2.2 _ g3, trivial⟩
theorem z_cVI (S : SB X w p s m args meth c cc n ret own) {index k a : Nat} {y : MethodName} {b : ByteArray} {rt : Option FieldType} {rm : Room} {As rest : List Value} {N : Mm} {r : Int32} {C : String} {i k2 : Nat} {q : vw_C} (hc : CV own C index y b k a rt) (hM : KI X w l y (wz y b k rt) rm (.ref (X.2.2 i) :: As) M r N) (hi : OK w i k2) (hk2 : k2 < 30) (hq : vwCl[k2]? = some q) (hqC : q.1 = C) (h0 : rm.cells = 0 ∧ rm.slots = 0) (hR : rm.frames + 1 ≤ R.frames ∧ 8 + (k + 11) + rm.locals ≤ R.locals) (hcs : cells ≤ R.cells ∧ slots ≤ R.slots) (hn : As.length = a) (hst : st = As.reverse ++ .ref (X.2.2 i) :: rest) (hW : (rest.map fun v => v.category).sum ≤ 8) (d : decode cc pc = .ok (.invokevirtual index, 3)) (kk : Z X w p l e R s m args below meth c cells slots Q n N (pc + 3) lv (.int r :: rest)) : Z X w p l e R s m args below meth c cells slots Q n M pc lv st := by
  intro H locs ls h1 h2 h3
  subst hst
  refine va_calli (va_runV (As := As) (rest := rest) S.1 (hM H.size) (CV.cw S hc h0.1 h0.2 hR) ⟨PW_blind, by have := PW_recv S h1 hi hk2 hq; rw [hqC] at this; exact this, PW_pre S h1 h2⟩ rfl hn h3.1 rfl (lv_room hW) d ⟨hcs.1, hcs.2⟩) h2 (fun q _ h => AA_sub h2.1 q h) (AA_sub h2.1) (fun v u t H1 locs1 ht hvm hp hB hz hk hS => ?_)
  obtain ⟨rfl, rfl⟩ := hp
  exact kk H1 locs1 ls (by subst ht; exact hB) hS h3
theorem z_cVL (S : SB X w p s m args meth c cc n ret own) {index k a : Nat} {y : MethodName} {b : ByteArray} {rt : Option FieldType} {rm : Room} {As rest : List Value} {N : Mm} {r : Int64} {C : String} {i k2 : Nat} {q : vw_C} (hc : CV own C index y b k a rt) (hM : KL X w l y (wz y b k rt) rm (.ref (X.2.2 i) :: As) M r N) (hi : OK w i k2) (hk2 : k2 < 30) (hq : vwCl[k2]? = some q) (hqC : q.1 = C) (h0 : rm.cells = 0 ∧ rm.slots = 0) (hR : rm.frames + 1 ≤ R.frames ∧ 8 + (k + 11) + rm.locals ≤ R.locals) (hcs : cells ≤ R.cells ∧ slots ≤ R.slots) (hn : As.length = a) (hst : st = As.reverse ++ .ref (X.2.2 i) :: rest) (hW : (rest.map fun v => v.category).sum ≤ 8) (d : decode cc pc = .ok (.invokevirtual index, 3)) (kk : Z X w p l e R s m args below meth c cells slots Q n N (pc + 3) lv (.long r :: rest)) : Z X w p l e R s m args below meth c cells slots Q n M pc lv st := by
  intro H locs ls h1 h2 h3
  subst hst
  refine va_calll (va_runV (As := As) (rest := rest) S.1 (hM H.size) (CV.cw S hc h0.1 h0.2 hR) ⟨PW_blind, by have := PW_recv S h1 hi hk2 hq; rw [hqC] at this; exact this, PW_pre S h1 h2⟩ rfl hn h3.1 rfl (lv_room hW) d ⟨hcs.1, hcs.2⟩) h2 (fun q _ h => AA_sub h2.1 q h) (AA_sub h2.1) (fun v u t H1 locs1 ht hvm hp hB hz hk hS => ?_)
  obtain ⟨rfl, rfl⟩ := hp
  exact kk H1 locs1 ls (by subst ht; exact hB) hS h3
theorem z_cVV (S : SB X w p s m args meth c cc n ret own) {index k a : Nat} {y : MethodName} {b : ByteArray} {rt : Option FieldType} {rm : Room} {As rest : List Value} {N : Mm} {C : String} {i k2 : Nat} {q : vw_C} (hc : CV own C index y b k a rt) (hM : KV X w l y (wz y b k rt) rm (.ref (X.2.2 i) :: As) M N) (hi : OK w i k2) (hk2 : k2 < 30) (hq : vwCl[k2]? = some q) (hqC : q.1 = C) (h0 : rm.cells = 0 ∧ rm.slots = 0) (hR : rm.frames + 1 ≤ R.frames ∧ 8 + (k + 11) + rm.locals ≤ R.locals) (hcs : cells ≤ R.cells ∧ slots ≤ R.slots) (hn : As.length = a) (hst : st = As.reverse ++ .ref (X.2.2 i) :: rest) (hW : (rest.map fun v => v.category).sum ≤ 8) (d : decode cc pc = .ok (.invokevirtual index, 3)) (kk : Z X w p l e R s m args below meth c cells slots Q n N (pc + 3) lv (rest)) : Z X w p l e R s m args below meth c cells slots Q n M pc lv st := by
  intro H locs ls h1 h2 h3
  subst hst
  refine va_callv (va_runV (As := As) (rest := rest) S.1 (hM H.size) (CV.cw S hc h0.1 h0.2 hR) ⟨PW_blind, by have := PW_recv S h1 hi hk2 hq; rw [hqC] at this; exact this, PW_pre S h1 h2⟩ rfl hn h3.1 rfl (lv_room hW) d ⟨hcs.1, hcs.2⟩) h2 (fun q _ h => AA_sub h2.1 q h) (AA_sub h2.1) (fun u t H1 locs1 ht hvm hp hB hz hk hS => ?_)
  subst hp
  exact kk H1 locs1 ls (by subst ht; exact hB) hS h3
theorem z_cVR (S : SB X w p s m args meth c cc n ret own) {index k a : Nat} {y : MethodName} {b : ByteArray} {rt : Option FieldType} {rm : Room} {As rest : List Value} {N : Mm} {r : Nat} {C : String} {i k2 : Nat} {q : vw_C} (hc : CV own C index y b k a rt) (hM : KR X w l y (wz y b k rt) rm (.ref (X.2.2 i) :: As) M r N) (hi : OK w i k2) (hk2 : k2 < 30) (hq : vwCl[k2]? = some q) (hqC : q.1 = C) (h0 : rm.cells = 0 ∧ rm.slots = 0) (hR : rm.frames + 1 ≤ R.frames ∧ 8 + (k + 11) + rm.locals ≤ R.locals) (hcs : cells ≤ R.cells ∧ slots ≤ R.slots) (hn : As.length = a) (hst : st = As.reverse ++ .ref (X.2.2 i) :: rest) (hW : (rest.map fun v => v.category).sum ≤ 8) (d : decode cc pc = .ok (.invokevirtual index, 3)) (kk : Z X w p l e R s m args below meth c cells slots Q n N (pc + 3) lv (.ref (X.2.2 r) :: rest)) : Z X w p l e R s m args below meth c cells slots Q n M pc lv st := by
  intro H locs ls h1 h2 h3
  subst hst
  refine va_callr (va_runV (As := As) (rest := rest) S.1 (hM H.size) (CV.cw S hc h0.1 h0.2 hR) ⟨PW_blind, by have := PW_recv S h1 hi hk2 hq; rw [hqC] at this; exact this, PW_pre S h1 h2⟩ rfl hn h3.1 rfl (lv_room hW) d ⟨hcs.1, hcs.2⟩) h2 (fun q _ h => AA_sub h2.1 q h) (AA_sub h2.1) (fun u v t H1 locs1 ht hvm hp hB hz hk hS => ?_)
  subst hp
  obtain ⟨rfl, hB⟩ := hB
  exact kk H1 locs1 ls (by subst ht; exact hB) hS h3
theorem z_cSI (S : SB X w p s m args meth c cc n ret own) {index k a : Nat} {y : MethodName} {b : ByteArray} {rt : Option FieldType} {rm : Room} {As rest : List Value} {N : Mm} {r : Int32} (hc : CS own index y b k a rt) (hM : KI X w l y (wz y b k rt) rm As M r N) (h0 : rm.cells = 0 ∧ rm.slots = 0) (hR : rm.frames + 1 ≤ R.frames ∧ 8 + (k + 11) + rm.locals ≤ R.locals) (hcs : cells ≤ R.cells ∧ slots ≤ R.slots) (hn : As.length = a) (hst : st = As.reverse ++ rest) (hW : (rest.map fun v => v.category).sum ≤ 8) (d : decode cc pc = .ok (.invokestatic index, 3)) (kk : Z X w p l e R s m args below meth c cells slots Q n N (pc + 3) lv (.int r :: rest)) : Z X w p l e R s m args below meth c cells slots Q n M pc lv st := by
  intro H locs ls h1 h2 h3
  subst hst
  refine va_calli (va_runS (As := As) (rest := rest) S.1 (hM H.size) (CS.cw S hc h0.1 h0.2 hR) ⟨PW_blind, PW_pre S h1 h2⟩ rfl hn h3.1 rfl (lv_room hW) d ⟨hcs.1, hcs.2⟩) h2 (fun q _ h => AA_sub h2.1 q h) (AA_sub h2.1) (fun v u t H1 locs1 ht hvm hp hB hz hk hS => ?_)
  obtain ⟨rfl, rfl⟩ := hp
  exact kk H1 locs1 ls (by subst ht; exact hB) hS h3
theorem z_cSL (S : SB X w p s m args meth c cc n ret own) {index k a : Nat} {y : MethodName} {b : ByteArray} {rt : Option FieldType} {rm : Room} {As rest : List Value} {N : Mm} {r : Int64} (hc : CS own index y b k a rt) (hM : KL X w l y (wz y b k rt) rm As M r N) (h0 : rm.cells = 0 ∧ rm.slots = 0) (hR : rm.frames + 1 ≤ R.frames ∧ 8 + (k + 11) + rm.locals ≤ R.locals) (hcs : cells ≤ R.cells ∧ slots ≤ R.slots) (hn : As.length = a) (hst : st = As.reverse ++ rest) (hW : (rest.map fun v => v.category).sum ≤ 8) (d : decode cc pc = .ok (.invokestatic index, 3)) (kk : Z X w p l e R s m args below meth c cells slots Q n N (pc + 3) lv (.long r :: rest)) : Z X w p l e R s m args below meth c cells slots Q n M pc lv st := by
  intro H locs ls h1 h2 h3
  subst hst
  refine va_calll (va_runS (As := As) (rest := rest) S.1 (hM H.size) (CS.cw S hc h0.1 h0.2 hR) ⟨PW_blind, PW_pre S h1 h2⟩ rfl hn h3.1 rfl (lv_room hW) d ⟨hcs.1, hcs.2⟩) h2 (fun q _ h => AA_sub h2.1 q h) (AA_sub h2.1) (fun v u t H1 locs1 ht hvm hp hB hz hk hS => ?_)
  obtain ⟨rfl, rfl⟩ := hp
  exact kk H1 locs1 ls (by subst ht; exact hB) hS h3
theorem z_cSV (S : SB X w p s m args meth c cc n ret own) {index k a : Nat} {y : MethodName} {b : ByteArray} {rt : Option FieldType} {rm : Room} {As rest : List Value} {N : Mm} (hc : CS own index y b k a rt) (hM : KV X w l y (wz y b k rt) rm As M N) (h0 : rm.cells = 0 ∧ rm.slots = 0) (hR : rm.frames + 1 ≤ R.frames ∧ 8 + (k + 11) + rm.locals ≤ R.locals) (hcs : cells ≤ R.cells ∧ slots ≤ R.slots) (hn : As.length = a) (hst : st = As.reverse ++ rest) (hW : (rest.map fun v => v.category).sum ≤ 8) (d : decode cc pc = .ok (.invokestatic index, 3)) (kk : Z X w p l e R s m args below meth c cells slots Q n N (pc + 3) lv (rest)) : Z X w p l e R s m args below meth c cells slots Q n M pc lv st := by
  intro H locs ls h1 h2 h3
  subst hst
  refine va_callv (va_runS (As := As) (rest := rest) S.1 (hM H.size) (CS.cw S hc h0.1 h0.2 hR) ⟨PW_blind, PW_pre S h1 h2⟩ rfl hn h3.1 rfl (lv_room hW) d ⟨hcs.1, hcs.2⟩) h2 (fun q _ h => AA_sub h2.1 q h) (AA_sub h2.1) (fun u t H1 locs1 ht hvm hp hB hz hk hS => ?_)
  subst hp
  exact kk H1 locs1 ls (by subst ht; exact hB) hS h3
theorem z_cSR (S : SB X w p s m args meth c cc n ret own) {index k a : Nat} {y : MethodName} {b : ByteArray} {rt : Option FieldType} {rm : Room} {As rest : List Value} {N : Mm} {r : Nat} (hc : CS own index y b k a rt) (hM : KR X w l y (wz y b k rt) rm As M r N) (h0 : rm.cells = 0 ∧ rm.slots = 0) (hR : rm.frames + 1 ≤ R.frames ∧ 8 + (k + 11) + rm.locals ≤ R.locals) (hcs : cells ≤ R.cells ∧ slots ≤ R.slots) (hn : As.length = a) (hst : st = As.reverse ++ rest) (hW : (rest.map fun v => v.category).sum ≤ 8) (d : decode cc pc = .ok (.invokestatic index, 3)) (kk : Z X w p l e R s m args below meth c cells slots Q n N (pc + 3) lv (.ref (X.2.2 r) :: rest)) : Z X w p l e R s m args below meth c cells slots Q n M pc lv st := by
  intro H locs ls h1 h2 h3
  subst hst
  refine va_callr (va_runS (As := As) (rest := rest) S.1 (hM H.size) (CS.cw S hc h0.1 h0.2 hR) ⟨PW_blind, PW_pre S h1 h2⟩ rfl hn h3.1 rfl (lv_room hW) d ⟨hcs.1, hcs.2⟩) h2 (fun q _ h => AA_sub h2.1 q h) (AA_sub h2.1) (fun u v t H1 locs1 ht hvm hp hB hz hk hS => ?_)
  subst hp
  obtain ⟨rfl, hB⟩ := hB
  exact kk H1 locs1 ls (by subst ht; exact hB) hS h3
theorem z_cNI (S : SB X w p s m args meth c cc n ret own) {index k a : Nat} {y : MethodName} {b : ByteArray} {rt : Option FieldType} {rm : Room} {As rest : List Value} {N : Mm} {r : Int32} {host : String} (hc : CSN own host index y b k a rt) (hM : KI X w l y (wz y b k rt) rm As M r N) (h0 : rm.cells = 0 ∧ rm.slots = 0) (hR : rm.frames + 1 ≤ R.frames ∧ 8 + (k + 11) + rm.locals ≤ R.locals) (hcs : cells ≤ R.cells ∧ slots ≤ R.slots) (hn : As.length = a) (hst : st = As.reverse ++ rest) (hW : (rest.map fun v => v.category).sum ≤ 8) (d : decode cc pc = .ok (.invokestatic index, 3)) (kk : Z X w p l e R s m args below meth c cells slots Q n N (pc + 3) lv (.int r :: rest)) : Z X w p l e R s m args below meth c cells slots Q n M pc lv st := by
  intro H locs ls h1 h2 h3
  subst hst
  refine va_calli (va_runSN (As := As) (rest := rest) S.1 (hM H.size) (CSN.cw S hc h0.1 h0.2 hR) ⟨PW_blind, PW_pre S h1 h2⟩ rfl hn h3.1 rfl (lv_room hW) d ⟨hcs.1, hcs.2⟩) h2 (fun q _ h => AA_sub h2.1 q h) (AA_sub h2.1) (fun v u t H1 locs1 ht hvm hp hB hz hk hS => ?_)
  obtain ⟨rfl, rfl⟩ := hp
  exact kk H1 locs1 ls (by subst ht; exact hB) hS h3
theorem z_cNL (S : SB X w p s m args meth c cc n ret own) {index k a : Nat} {y : MethodName} {b : ByteArray} {rt : Option FieldType} {rm : Room} {As rest : List Value} {N : Mm} {r : Int64} {host : String} (hc : CSN own host index y b k a rt) (hM : KL X w l y (wz y b k rt) rm As M r N) (h0 : rm.cells = 0 ∧ rm.slots = 0) (hR : rm.frames + 1 ≤ R.frames ∧ 8 + (k + 11) + rm.locals ≤ R.locals) (hcs : cells ≤ R.cells ∧ slots ≤ R.slots) (hn : As.length = a) (hst : st = As.reverse ++ rest) (hW : (rest.map fun v => v.category).sum ≤ 8) (d : decode cc pc = .ok (.invokestatic index, 3)) (kk : Z X w p l e R s m args below meth c cells slots Q n N (pc + 3) lv (.long r :: rest)) : Z X w p l e R s m args below meth c cells slots Q n M pc lv st := by
  intro H locs ls h1 h2 h3
  subst hst
  refine va_calll (va_runSN (As := As) (rest := rest) S.1 (hM H.size) (CSN.cw S hc h0.1 h0.2 hR) ⟨PW_blind, PW_pre S h1 h2⟩ rfl hn h3.1 rfl (lv_room hW) d ⟨hcs.1, hcs.2⟩) h2 (fun q _ h => AA_sub h2.1 q h) (AA_sub h2.1) (fun v u t H1 locs1 ht hvm hp hB hz hk hS => ?_)
  obtain ⟨rfl, rfl⟩ := hp
  exact kk H1 locs1 ls (by subst ht; exact hB) hS h3
theorem z_cNV (S : SB X w p s m args meth c cc n ret own) {index k a : Nat} {y : MethodName} {b : ByteArray} {rt : Option FieldType} {rm : Room} {As rest : List Value} {N : Mm} {host : String} (hc : CSN own host index y b k a rt) (hM : KV X w l y (wz y b k rt) rm As M N) (h0 : rm.cells = 0 ∧ rm.slots = 0) (hR : rm.frames + 1 ≤ R.frames ∧ 8 + (k + 11) + rm.locals ≤ R.locals) (hcs : cells ≤ R.cells ∧ slots ≤ R.slots) (hn : As.length = a) (hst : st = As.reverse ++ rest) (hW : (rest.map fun v => v.category).sum ≤ 8) (d : decode cc pc = .ok (.invokestatic index, 3)) (kk : Z X w p l e R s m args below meth c cells slots Q n N (pc + 3) lv (rest)) : Z X w p l e R s m args below meth c cells slots Q n M pc lv st := by
  intro H locs ls h1 h2 h3
  subst hst
  refine va_callv (va_runSN (As := As) (rest := rest) S.1 (hM H.size) (CSN.cw S hc h0.1 h0.2 hR) ⟨PW_blind, PW_pre S h1 h2⟩ rfl hn h3.1 rfl (lv_room hW) d ⟨hcs.1, hcs.2⟩) h2 (fun q _ h => AA_sub h2.1 q h) (AA_sub h2.1) (fun u t H1 locs1 ht hvm hp hB hz hk hS => ?_)
  subst hp
  exact kk H1 locs1 ls (by subst ht; exact hB) hS h3
theorem z_cNR (S : SB X w p s m args meth c cc n ret own) {index k a : Nat} {y : MethodName} {b : ByteArray} {rt : Option FieldType} {rm : Room} {As rest : List Value} {N : Mm} {r : Nat} {host : String} (hc : CSN own host index y b k a rt) (hM : KR X w l y (wz y b k rt) rm As M r N) (h0 : rm.cells = 0 ∧ rm.slots = 0) (hR : rm.frames + 1 ≤ R.frames ∧ 8 + (k + 11) + rm.locals ≤ R.locals) (hcs : cells ≤ R.cells ∧ slots ≤ R.slots) (hn : As.length = a) (hst : st = As.reverse ++ rest) (hW : (rest.map fun v => v.category).sum ≤ 8) (d : decode cc pc = .ok (.invokestatic index, 3)) (kk : Z X w p l e R s m args below meth c cells slots Q n N (pc + 3) lv (.ref (X.2.2 r) :: rest)) : Z X w p l e R s m args below meth c cells slots Q n M pc lv st := by
  intro H locs ls h1 h2 h3
  subst hst
  refine va_callr (va_runSN (As := As) (rest := rest) S.1 (hM H.size) (CSN.cw S hc h0.1 h0.2 hR) ⟨PW_blind, PW_pre S h1 h2⟩ rfl hn h3.1 rfl (lv_room hW) d ⟨hcs.1, hcs.2⟩) h2 (fun q _ h => AA_sub h2.1 q h) (AA_sub h2.1) (fun u v t H1 locs1 ht hvm hp hB hz hk hS => ?_)
  subst hp
  obtain ⟨rfl, hB⟩ := hB
  exact kk H1 locs1 ls (by subst ht; exact hB) hS h3
/-- Math.max, Math.min of ints -/
def CM (own : String) (index : Nat) (y : MethodName) (b : ByteArray) : Prop := Cond.methodLink own index y ∈ TB ∧ Cond.static y ∈ TB ∧ Cond.initialized "java/lang/Math" ∈ TB ∧ Cond.code y b 2 (some .int) ∈ TB
def mx (x y : Int32) : Int32 := if x < y then y else x
def mn (x y : Int32) : Int32 := if y < x then y else x
theorem z_mmax (S : SB X w p s m args meth c cc n ret own) {index : Nat} {x y : Int32} (hc : CM own index Lib.Math.max.name Lib.Math.max.code) (hf : 1 ≤ R.frames) (hR : (st.map fun v => v.category).sum + 13 ≤ R.locals) (hcs : cells ≤ R.cells ∧ slots ≤ R.slots) (d : decode cc pc = .ok (.invokestatic index, 3)) (kk : Z X w p l e R s m args below meth c cells slots Q n M (pc + 3) lv (.int (mx x y) :: st)) : Z X w p l e R s m args below meth c cells slots Q n M pc lv (.int y :: .int x :: st) := fun H locs ls h1 h2 h3 =>
  va_mmax S.1.1 S.1.2.1 (S.1.2.2.1.trans h3.1.symm) S.1.2.2.2.1 (S.1.2.2.2.2 _ hc.1) (S.1.2.2.2.2 _ hc.2.1) (S.1.2.2.2.2 _ hc.2.2.1) (S.1.2.2.2.2 _ hc.2.2.2) hf hR hcs.1 hcs.2 d (kk H locs ls h1 h2 h3)
theorem z_mmin (S : SB X w p s m args meth c cc n ret own) {index : Nat} {x y : Int32} (hc : CM own index Lib.Math.min.name Lib.Math.min.code) (hf : 1 ≤ R.frames) (hR : (st.map fun v => v.category).sum + 13 ≤ R.locals) (hcs : cells ≤ R.cells ∧ slots ≤ R.slots) (d : decode cc pc = .ok (.invokestatic index, 3)) (kk : Z X w p l e R s m args below meth c cells slots Q n M (pc + 3) lv (.int (mn x y) :: st)) : Z X w p l e R s m args below meth c cells slots Q n M pc lv (.int y :: .int x :: st) := fun H locs ls h1 h2 h3 =>
  va_mmin S.1.1 S.1.2.1 (S.1.2.2.1.trans h3.1.symm) S.1.2.2.2.1 (S.1.2.2.2.2 _ hc.1) (S.1.2.2.2.2 _ hc.2.1) (S.1.2.2.2.2 _ hc.2.2.1) (S.1.2.2.2.2 _ hc.2.2.2) hf hR hcs.1 hcs.2 d (kk H locs ls h1 h2 h3)
/-- System.arraycopy of all of an int array -/
def CA (own : String) (index : Nat) : Prop := Cond.methodLink own index arraycopyName ∈ TB ∧ Cond.native arraycopyName ∈ TB ∧ Cond.static arraycopyName ∈ TB ∧ Cond.initialized "java/lang/System" ∈ TB
theorem cpA_cell {i j n : Nat} : (cpA M i j n).1 j = va_cpy (M.1 i) (M.1 j) 0 0 n := by
  funext b
  simp [cpA]
theorem cel_cpA {i j n q : Nat} (h : q ≠ j) : cel X (cpA M i j n) q = cel X M q := cel_same (by funext b; simp [cpA, h]) rfl rfl
theorem z_copy (S : SB X w p s m args meth c cc n ret own) {index i j N : Nat} {k : Int32} (hc : CA own index) (hi : OK w i 30) (hj : OK w j 30) (hNi : ln i = N) (hNj : ln j = N) (hk : ¬ k < 0) (hkN : k.toNatClampNeg = N) (hf : 1 ≤ R.frames) (hR : (st.map fun v => v.category).sum + (nativeFrameWords "java/lang/System" "arraycopy" 5 + 11) ≤ R.locals) (d : decode cc pc = .ok (.invokestatic index, 3)) (kk : Z X w p l e R s m args below meth c cells slots Q n (cpA M i j N) (pc + 3) lv st) : Z X w p l e R s m args below meth c cells slots Q n M pc lv (.int k :: .int 0 :: .ref (X.2.2 j) :: .int 0 :: .ref (X.2.2 i) :: st) := by
  intro H locs ls h1 h2 h3
  refine va_copyi S.1.1 S.1.2.1 (S.1.2.2.1.trans h3.1.symm) S.1.2.2.2.1 (S.1.2.2.2.2 _ hc.1) (S.1.2.2.2.2 _ hc.2.1) (S.1.2.2.2.2 _ hc.2.2.1) (S.1.2.2.2.2 _ hc.2.2.2) S.K h1 S.D h2 (i - wlo w) (j - wlo w) 0 0 (by rw [OK.rg hi, cel_i hi.2.2]) (by rw [OK.rg hj, cel_i hj.2.2]) rfl rfl rfl (sp := 0) (dp := 0) (n := k) (by decide) (by decide) hk (by rw [hNi, ← hkN]; exact Nat.le_of_eq (Nat.zero_add _)) (by rw [hNj, ← hkN]; exact Nat.le_of_eq (Nat.zero_add _)) (fun _ _ => rfl) hf hR d (fun H1 l1 p1 p2 p3 => ?_)
  rw [hkN] at p1
  have e := wd_set (X := X) (w := w) (M := M) (M1 := cpA M i j N) hj.1 hj.2.1 (by rw [cel_i hj.2.2, cpA_cell]) (fun q hq => cel_cpA hq)
  exact kk H1 l1 ls (by unfold WDP; rw [← e]; exact p1) p3 h3
/-- a method's contract out of its walk -/
theorem K_of {Qc : Nat → Array Value → State → Outcome → State → Prop} {y : MethodName} {rm : Room} {av : List Value} {lv0 : List (Nat × Value)} (hy : plainName y.cls = true) (hown : y.cls = own) (hav : (lg_sl av).length ≤ n) (hlv : lv_args 0 av = lv0)
    (body : ∀ (p : Program) (e : Env) (s : State) (m : MethodId) (args : Array Value) (below : List Frame) (meth : Method) (c : Code), SB X w p s m args meth c cc n ret own → Z X w p l e rm s m args below meth c 0 0 (MQ below (Qc s.heap.size) args s 0 0 (AA X w s.heap.size)) n M 0 lv0 []) (sz : Nat) : Met l y (wz y cc n ret) rm (va_Pc av (PW X w M sz)) (Qc sz) 0 0 (AA X w sz) := by
  refine Met.ofW (cc := cc) (maxL := n) (ret := ret) hy rfl ?_
  intro p e s m args below meth c s₁ B hml hv
  obtain ⟨rfl, hsz, hP, hX, hE⟩ := hv
  subst hsz
  have hts := atoms_spec (ws := wz y cc n ret) B.pre
  have S : SB X w p s m av.toArray meth c cc n ret own := ⟨⟨B.exec, B.bytes, hml, by rw [← hown]; exact findClass_of_methodNamed B.named, fun z hz => hts z (List.mem_cons_of_mem _ hz)⟩, B.returns, B.notSynchronized, hX, hE⟩
  have hl := lv_entry av (n := n) hav
  rw [lg_entry_eq]
  exact body p e s m _ below meth c S s.heap [] _ hP va_S.rf (hlv ▸ hl)
def loop {σ ρ : Type} : Nat → (σ → Option (σ ⊕ ρ)) → σ → Option ρ
  | 0, _, _ => none
  | k + 1, f, a => (f a).bind (fun x => Sum.elim (fun b => loop k f b) (fun r => some r) x)
theorem loopZ {σ ρ : Type} {f : σ → Option (σ ⊕ ρ)} {Zh : σ → Prop} {r : ρ} (hb : ∀ a x, f a = some x → (∀ b, x = .inl b → Zh b) → (∀ r', x = .inr r' → r' = r) → Zh a) : ∀ k a, loop k f a = some r → Zh a := by
  intro k
  induction k with
  | zero => intro a h; cases h
  | succ k ih =>
    intro a h
    obtain ⟨x, h1, h2⟩ := bnd h
    refine hb a x h1 (fun b hx => ?_) (fun r' hx => ?_)
    · subst hx; exact ih b h2
    · subst hx; exact Option.some.inj h2
theorem bndS {α β τ : Type} {o : Option (α ⊕ β)} {f : α → Option τ} {g : β → Option τ} {x : τ} (h : o.bind (Sum.elim f g) = some x) : ∃ r, o = some r ∧ (∀ v, r = .inl v → f v = some x) ∧ (∀ v, r = .inr v → g v = some x) := by
  obtain ⟨r, h1, h2⟩ := bnd h
  refine ⟨r, h1, fun v hv => ?_, fun v hv => ?_⟩ <;> (subst hv; exact h2)
end ZM
