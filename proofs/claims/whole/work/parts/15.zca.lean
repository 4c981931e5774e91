/-! constructors: worlds as lists; a constructor's contract, its call with the rest of the world beside it -/
theorem RA_uq {U : State} {cA cB : ClassId} {ty : FieldType} (h1 : va_RA U cA ty) (h2 : va_RA U cB ty) : cA = cB := by
  cases ty with
  | object C =>
    obtain ⟨_, _, _, _, _, e1⟩ := h1
    obtain ⟨_, _, _, _, _, e2⟩ := h2
    exact Option.some.inj (e1.symm.trans e2)
  | _ => exact Option.some.inj (Eq.trans (Eq.symm h1) h2)
def EVC (X : Cx) (A : Nat → Prop) (U : State) (H : Heap) : Prop := EV X A U H ∧ va_AO RX8 U ∧ va_AO RX4 U
theorem EVC.warm {X : Cx} {A : Nat → Prop} {s U : State} {H : Heap} (hW : s.WarmedH U.vm) (h : EVC X A s H) : EVC X A U H := ⟨h.1.warm hW, va_AO.moved hW.alike h.2.1, va_AO.moved hW.alike h.2.2⟩
def SC (X : Cx) (A : Nat → Prop) (p : Program) (s : State) (m : MethodId) (args : Array Value) (c : Code) (cc : ByteArray) (n : Nat) (own : String) : Prop := CallFix p m c cc n s args TB own ∧ (∀ q : Nat, s.heap.size ≤ q → A q) ∧ EVC X A s s.heap
def Y (X : Cx) (A : Nat → Prop) (p : Program) (l : Launch) (e : Env) (R : Room) (s : State) (m : MethodId) (args : Array Value) (below : List Frame) (meth : Method) (c : Code) (cells slots : Nat) (Q : State → Prop) (n : Nat) (ws : va_W) (pc : Nat) (lv : List (Nat × Value)) (st : List Value) : Prop :=
  ∀ (H : Heap) (locs : List Loc) (ls : Array Slot), va_P X.1 vwCl ws H → va_D A ws → va_S A s.heap H locs → lv_has ls n lv → W p l e R s m args below meth c H locs cells slots Q (F0 m pc ls st)
def KC {S9 : Type} (X : Cx) (l : Launch) (y : MethodName) (wl : List Cond) (rm : Room) (mc ms ci : Nat) (fs0 : List Value) (Wf : Nat → S9 → va_W) : Prop := ∀ h sz, Met l y wl rm (va_Pc [.ref h] (fun U => U.heap.size = sz ∧ va_P X.1 vwCl [(h, .inr (ci, fs0))] U.heap ∧ EVC X (va_A [(h, .inr (ci, fs0))] sz) U U.heap)) (va_Qv (fun _ : S9 => True) (fun u t => va_P X.1 vwCl (Wf h u) t.heap ∧ va_D (va_A [(h, .inr (ci, fs0))] sz) (Wf h u)) (va_A [(h, .inr (ci, fs0))] sz)) mc ms (va_A [(h, .inr (ci, fs0))] sz)
def CI (own : String) (index : Nat) (y : MethodName) (b : ByteArray) (k : Nat) : Prop := Cond.code y b k none ∈ TB ∧ Cond.methodLink own index y ∈ TB ∧ Cond.instanceMethod y ∈ TB ∧ Cond.initialized y.cls ∈ TB ∧ y.name = "<init>" ∧ y.cls ≠ "java/lang/invoke/MethodHandle" ∧ y.cls ≠ "java/lang/invoke/VarHandle" ∧ (parseMethodDescriptor y.desc).map (fun d => d.parameters.length) = some 0
def CIN (own host : String) (index : Nat) (y : MethodName) (b : ByteArray) (k : Nat) : Prop := Cond.code y b k none ∈ TB ∧ Cond.methodLinkNest own index y host ∈ NW ∧ Cond.instanceMethod y ∈ TB ∧ Cond.initialized y.cls ∈ TB ∧ y.name = "<init>" ∧ y.cls ≠ "java/lang/invoke/MethodHandle" ∧ y.cls ≠ "java/lang/invoke/VarHandle" ∧ (parseMethodDescriptor y.desc).map (fun d => d.parameters.length) = some 0
def NEW (own C : String) (T : u_T) (N ci index : Nat) (ty : Nat → FieldType) (fs : List Value) : Prop := (∀ z ∈ u_ws C T N, z ∈ TB) ∧ (∀ k, k < N → parseFieldDescriptor (T k).2.2.1 = some (ty k)) ∧ Cond.classLink own index C ∈ TB ∧ Cond.instantiable C N ∈ TB ∧ Cond.initialized C ∈ TB ∧ vwCl[ci]? = some (C, T, N) ∧ ∀ j, j < N → defaultValue (ty j) = vp_V fs j
/-- a field that a constructor sets: final (or not) -/
def FPC (fin : Bool) (own C : String) (T : u_T) (N ci index k : Nat) (ty0 : Nat → FieldType) (ty : FieldType) : Prop := (∀ z ∈ u_ws C T N, z ∈ TB) ∧ (∀ k, k < N → parseFieldDescriptor (T k).2.2.1 = some (ty0 k)) ∧ (∀ a, a < N → ∀ b, b < N → a ≠ b → (T a).2.1 ≠ (T b).2.1) ∧ vwCl[ci]? = some (C, T, N) ∧ k < N ∧ Cond.fieldLink own index (T k).1 (T k).2.1 (T k).2.2.1 ∈ TB ∧ (T k).2.2.2 = fin ∧ (T k).1 = own ∧ parseFieldDescriptor (T k).2.2.1 = some ty
theorem D_swap2 {A : Nat → Prop} {x y : Nat × va_E} {T : va_W} (h : va_D A (x :: (T ++ [y]))) : va_D A (x :: y :: T) := va_D.swap (a := [x]) (b := T) (c := [y]) h
theorem P_swap2 {D : va_G} {cl : List vw_C} {x y : Nat × va_E} {T : va_W} {H : Heap} (h : va_P D cl (x :: (T ++ [y])) H) : va_P D cl (x :: y :: T) H := va_P.swap (a := [x]) (b := T) (c := [y]) h
section YR
variable {X : Cx} {A : Nat → Prop} {p : Program} {l : Launch} {e : Env} {R : Room} {s : State} {m : MethodId} {args : Array Value} {below : List Frame} {meth : Method} {c : Code} {cells slots : Nat} {Q : State → Prop} {n : Nat} {ws ws' T : va_W} {pc : Nat} {lv lv' : List (Nat × Value)} {st : List Value} {cc : ByteArray} {own : String}
theorem SC.K (S : SC X A p s m args c cc n own) : va_K X.1 vwCl (tysOf X) s := S.2.2.1.1
theorem y_eq (h : ws = ws') (k : Y X A p l e R s m args below meth c cells slots Q n ws' pc lv st) : Y X A p l e R s m args below meth c cells slots Q n ws pc lv st := by rw [h]; exact k
theorem y_lv {ks : List Nat} (hs : lv_pick lv ks = lv') (k : Y X A p l e R s m args below meth c cells slots Q n ws pc lv' st) : Y X A p l e R s m args below meth c cells slots Q n ws pc lv st := fun H locs ls h1 h2 h3 h4 => k H locs ls h1 h2 h3 (lv_sub h4 ks hs)
theorem y_aload_n (S : SC X A p s m args c cc n own) {j : Fin 4} {i x : Nat} (d : decode cc pc = .ok (.aload_n j, 1)) (hi : (j : Nat) = i) (q : Nat) (hq : lv[q]? = some (i, .ref x)) (k : Y X A p l e R s m args below meth c cells slots Q n ws (pc + 1) lv (.ref x :: st)) : Y X A p l e R s m args below meth c cells slots Q n ws pc lv st := fun H locs ls h1 h2 h3 h4 => lv_aload_n S.1.1 S.1.2.1 d hi (lv_at h4 q hq) (k H locs ls h1 h2 h3 h4)
theorem y_iload_n (S : SC X A p s m args c cc n own) {j : Fin 4} {i : Nat} {x : Int32} (d : decode cc pc = .ok (.iload_n j, 1)) (hi : (j : Nat) = i) (q : Nat) (hq : lv[q]? = some (i, .int x)) (k : Y X A p l e R s m args below meth c cells slots Q n ws (pc + 1) lv (.int x :: st)) : Y X A p l e R s m args below meth c cells slots Q n ws pc lv st := fun H locs ls h1 h2 h3 h4 => lv_iload_n S.1.1 S.1.2.1 d hi (lv_at h4 q hq) (k H locs ls h1 h2 h3 h4)
theorem y_iconst (S : SC X A p s m args c cc n own) {i : Int} {v : Int32} (d : decode cc pc = .ok (.iconst i, 1)) (hv : Int32.ofInt i = v) (k : Y X A p l e R s m args below meth c cells slots Q n ws (pc + 1) lv (.int v :: st)) : Y X A p l e R s m args below meth c cells slots Q n ws pc lv st := fun H locs ls h1 h2 h3 h4 => lv_iconst S.1.1 S.1.2.1 d hv (k H locs ls h1 h2 h3 h4)
theorem y_bipush (S : SC X A p s m args c cc n own) {i : Int} {v : Int32} (d : decode cc pc = .ok (.bipush i, 2)) (hv : (Int8.ofInt i).toInt32 = v) (k : Y X A p l e R s m args below meth c cells slots Q n ws (pc + 2) lv (.int v :: st)) : Y X A p l e R s m args below meth c cells slots Q n ws pc lv st := fun H locs ls h1 h2 h3 h4 => lv_bipush S.1.1 S.1.2.1 d hv (k H locs ls h1 h2 h3 h4)
theorem y_sipush (S : SC X A p s m args c cc n own) {i : Int} {v : Int32} (d : decode cc pc = .ok (.sipush i, 3)) (hv : (Int16.ofInt i).toInt32 = v) (k : Y X A p l e R s m args below meth c cells slots Q n ws (pc + 3) lv (.int v :: st)) : Y X A p l e R s m args below meth c cells slots Q n ws pc lv st := fun H locs ls h1 h2 h3 h4 => lv_sipush S.1.1 S.1.2.1 d hv (k H locs ls h1 h2 h3 h4)
theorem y_dup (S : SC X A p s m args c cc n own) {x : Nat} (d : decode cc pc = .ok (.dup, 1)) (k : Y X A p l e R s m args below meth c cells slots Q n ws (pc + 1) lv (.ref x :: .ref x :: st)) : Y X A p l e R s m args below meth c cells slots Q n ws pc lv (.ref x :: st) := fun H locs ls h1 h2 h3 h4 => lv_dup S.1.1 S.1.2.1 d rfl (k H locs ls h1 h2 h3 h4)
theorem y_goto (S : SC X A p s m args c cc n own) {off : Int} {tgt : Nat} (d : decode cc pc = .ok (.goto off, 3)) (ht : (pc : Int) + off = (tgt : Int)) (k : Y X A p l e R s m args below meth c cells slots Q n ws tgt lv st) : Y X A p l e R s m args below meth c cells slots Q n ws pc lv st := fun H locs ls h1 h2 h3 h4 => lv_goto S.1.1 S.1.2.1 d ht (k H locs ls h1 h2 h3 h4)
theorem y_istore_n (S : SC X A p s m args c cc n own) {j : Fin 4} {i : Nat} {x : Int32} (ks : List Nat) (d : decode cc pc = .ok (.istore_n j, 1)) (hi : (j : Nat) = i) (hn : i < n) (hs : lv_pick ((i, Value.int x) :: lv.filter (fun q => !(q.1 == i) && !(q.1 + 1 == i && q.2.category == 2))) ks = lv') (k : Y X A p l e R s m args below meth c cells slots Q n ws (pc + 1) lv' st) : Y X A p l e R s m args below meth c cells slots Q n ws pc lv (.int x :: st) := fun H locs ls h1 h2 h3 h4 => lv_istore_n S.1.1 S.1.2.1 d hi h4 hn rfl (fun ls2 h5 => k H locs ls2 h1 h2 h3 (lv_sub h5 ks hs))
theorem y_astore_n (S : SC X A p s m args c cc n own) {j : Fin 4} {i : Nat} {x : Nat} (ks : List Nat) (d : decode cc pc = .ok (.astore_n j, 1)) (hi : (j : Nat) = i) (hn : i < n) (hs : lv_pick ((i, Value.ref x) :: lv.filter (fun q => !(q.1 == i) && !(q.1 + 1 == i && q.2.category == 2))) ks = lv') (k : Y X A p l e R s m args below meth c cells slots Q n ws (pc + 1) lv' st) : Y X A p l e R s m args below meth c cells slots Q n ws pc lv (.ref x :: st) := fun H locs ls h1 h2 h3 h4 => lv_astore_n S.1.1 S.1.2.1 d hi h4 hn rfl (fun ls2 h5 => k H locs ls2 h1 h2 h3 (lv_sub h5 ks hs))
theorem y_istore (S : SC X A p s m args c cc n own) {i : Nat} {x : Int32} (ks : List Nat) (d : decode cc pc = .ok (.istore i, 2)) (hn : i < n) (hs : lv_pick ((i, Value.int x) :: lv.filter (fun q => !(q.1 == i) && !(q.1 + 1 == i && q.2.category == 2))) ks = lv') (k : Y X A p l e R s m args below meth c cells slots Q n ws (pc + 2) lv' st) : Y X A p l e R s m args below meth c cells slots Q n ws pc lv (.int x :: st) := fun H locs ls h1 h2 h3 h4 => lv_istore S.1.1 S.1.2.1 d h4 hn rfl (fun ls2 h5 => k H locs ls2 h1 h2 h3 (lv_sub h5 ks hs))
theorem y_iinc (S : SC X A p s m args c cc n own) {i : Nat} {a : Int} {x v : Int32} (ks : List Nat) (q : Nat) (d : decode cc pc = .ok (.iinc i a, 3)) (hq : lv[q]? = some (i, .int x)) (hv : x + Int32.ofInt a = v) (hn : i < n) (hs : lv_pick ((i, Value.int v) :: lv.filter (fun q => !(q.1 == i) && !(q.1 + 1 == i && q.2.category == 2))) ks = lv') (k : Y X A p l e R s m args below meth c cells slots Q n ws (pc + 3) lv' st) : Y X A p l e R s m args below meth c cells slots Q n ws pc lv st := fun H locs ls h1 h2 h3 h4 => lv_iinc S.1.1 S.1.2.1 d h4 hq hv hn rfl (fun ls2 h5 => k H locs ls2 h1 h2 h3 (lv_sub h5 ks hs))
theorem y_icmp_ge (S : SC X A p s m args c cc n own) {x y : Int32} {off : Int} {tgt : Nat} (d : decode cc pc = .ok (.if_icmp .ge off, 3)) (ht : (pc : Int) + off = (tgt : Int)) (kt : y ≤ x → Y X A p l e R s m args below meth c cells slots Q n ws tgt lv st) (kf : ¬ y ≤ x → Y X A p l e R s m args below meth c cells slots Q n ws (pc + 3) lv st) : Y X A p l e R s m args below meth c cells slots Q n ws pc lv (.int y :: .int x :: st) := fun H locs ls h1 h2 h3 h4 => lv_icmp_ge S.1.1 S.1.2.1 d ht (fun q => kt q H locs ls h1 h2 h3 h4) (fun q => kf q H locs ls h1 h2 h3 h4)
theorem y_objInit (S : SC X A p s m args c cc n own) {index a : Nat} (h1 : Cond.methodLink own index Lib.objectInit ∈ TB) (h2 : Cond.instanceMethod Lib.objectInit ∈ TB) (h3 : Cond.code Lib.objectInit ⟨#[0xb1]⟩ 1 none ∈ TB) (d : decode cc pc = .ok (.invokespecial index, 3)) (hf : 1 ≤ R.frames) (hl : (st.map fun v => v.category).sum + 12 ≤ R.locals) (k : Y X A p l e R s m args below meth c cells slots Q n ws (pc + 3) lv st) : Y X A p l e R s m args below meth c cells slots Q n ws pc lv (.ref a :: st) := by
  intro H locs ls g1 g2 g3 g4
  refine W.objInit S.1.1 S.1.2.1 S.1.2.2.2.1 (S.1.2.2.2.2 _ h1) (S.1.2.2.2.2 _ h2) (S.1.2.2.2.2 _ h3) rfl (g4.1.trans S.1.2.2.1.symm) rfl d hf ?_ (W.eq (g2 := F0 m (pc + 3) ls st) rfl (k H locs ls g1 g2 g3 g4))
  show 2 * 0 + _ + 12 ≤ _
  omega
theorem y_new (S : SC X A p s m args c cc n own) {C : String} {T : u_T} {N ci index : Nat} {ty : Nat → FieldType} {fs : List Value} (hf : NEW own C T N ci index ty fs) (hcells : cells + 1 ≤ R.cells) (hslots : slots + N ≤ R.slots) (d : decode cc pc = .ok (.new index, 3)) (kk : ∀ q, Y X A p l e R s m args below meth c (cells + 1) (slots + N) Q n (ws ++ [(q, .inr (ci, fs))]) (pc + 3) lv (.ref q :: st)) : Y X A p l e R s m args below meth c cells slots Q n ws pc lv st := by
  intro H locs ls h1 h2 h3 h4
  obtain ⟨f1, f2, f3, f4, f5, f6, f7⟩ := hf
  exact va_new S.1.1 S.1.2.1 S.1.2.2.2.2 f1 ty f2 S.1.2.2.2.1 (S.1.2.2.2.2 _ f3) (S.1.2.2.2.2 _ f4) (S.1.2.2.2.2 _ f5) S.K h1 h2 h3 S.2.1 f6 f7 hcells hslots d (fun q H1 p1 p2 p3 => kk q H1 locs ls p1 p2 p3 h4)
theorem y_newa (S : SC X A p s m args c cc n own) {atype : ArrayType} {ty : FieldType} (t0 : Nat) (harr : Cond.arrayClass (newarray.typeOf atype) ∈ TB) (hty : newarray.typeOf atype = ty) (ht : (tysOf X)[t0]? = some (X.2.1 t0, ty)) {v : Int32} {N' : Nat} {xa : (Nat → Int32) ⊕ (Nat → Int64) ⊕ (Nat → UInt32) ⊕ (Nat → UInt64) ⊕ (Nat → Option Nat)} (ha : ∀ cA : ClassId, vp_cell cA (N', xa) = arrV cA N' (fun _ => defaultValue ty)) (hn : ¬ v < 0) (hN : v.toNatClampNeg = N') (hbytes : N' * componentBytes ty ≤ 536870912) (hcells : cells + 1 ≤ R.cells) (hslots : slots + N' ≤ R.slots) (d : decode cc pc = .ok (.newarray atype, 2)) (kk : ∀ q, Y X A p l e R s m args below meth c (cells + 1) (slots + N') Q n (ws ++ [(q, .inl (X.2.1 t0, N', xa))]) (pc + 2) lv (.ref q :: st)) : Y X A p l e R s m args below meth c cells slots Q n ws pc lv (.int v :: st) := by
  intro H locs ls h1 h2 h3 h4
  refine va_newa S.1.1 S.1.2.1 (S.1.2.2.2.2 _ harr) hty S.K h1 h2 h3 S.2.1 (a0 := (N', xa)) ha hn hN hbytes hcells hslots d (fun q cA H1 p0 p1 p2 p3 => ?_)
  have hl : (tysOf X ++ [(cA, ty)])[(tysOf X).length]? = some (cA, ty) := by rw [List.getElem?_append_right (Nat.le_refl _), Nat.sub_self]; rfl
  have e1 := (p0.2 _ _ hl).2
  have e2 := (S.K.2 _ _ ht).2
  have e3 : cA = X.2.1 t0 := RA_uq e1 e2
  subst e3
  exact kk q H1 locs ls p1 p2 p3 h4
theorem y_newq (S : SC X A p s m args c cc n own) {C : String} {index : Nat} (t0 : Nat) (hl : Cond.classLink own index C ∈ TB) (ho : va_AO C s) (ht : (tysOf X)[t0]? = some (X.2.1 t0, .object C)) {v : Int32} {N' : Nat} (hn : ¬ v < 0) (hN : v.toNatClampNeg = N') (hbytes : N' * 4 ≤ 536870912) (hcells : cells + 1 ≤ R.cells) (hslots : slots + N' ≤ R.slots) (d : decode cc pc = .ok (.anewarray index, 3)) (kk : ∀ q, Y X A p l e R s m args below meth c (cells + 1) (slots + N') Q n (ws ++ [(q, .inl (X.2.1 t0, N', .inr (.inr (.inr (.inr (fun _ => none))))))]) (pc + 3) lv (.ref q :: st)) : Y X A p l e R s m args below meth c cells slots Q n ws pc lv (.int v :: st) := by
  intro H locs ls h1 h2 h3 h4
  refine va_newq S.1.1 S.1.2.1 S.1.2.2.2.1 (S.1.2.2.2.2 _ hl) ho S.K h1 h2 h3 S.2.1 hn hN hbytes hcells hslots d (fun q cA H1 p0 p1 p2 p3 => ?_)
  have hl : (tysOf X ++ [(cA, .object C)])[(tysOf X).length]? = some (cA, .object C) := by rw [List.getElem?_append_right (Nat.le_refl _), Nat.sub_self]; rfl
  have e1 := (p0.2 _ _ hl).2
  have e2 := (S.K.2 _ _ ht).2
  have e3 : cA = X.2.1 t0 := RA_uq e1 e2
  subst e3
  exact kk q H1 locs ls p1 p2 p3 h4
theorem y_putF (S : SC X A p s m args c cc n own) {C : String} {T0 : u_T} {N ci index k h : Nat} {ty0 : Nat → FieldType} {ty : FieldType} {fs : List Value} {v : Value} (hinit : meth.name = "<init>") (hf : FPC true own C T0 N ci index k ty0 ty) (hn : narrow ty v = v) (hfit : fits ty v = true) (hl : k < fs.length) (d : decode cc pc = .ok (.putfield index, 3)) (kk : Y X A p l e R s m args below meth c cells slots Q n ((h, .inr (ci, fs.set k v)) :: T) (pc + 3) lv st) : Y X A p l e R s m args below meth c cells slots Q n ((h, .inr (ci, fs)) :: T) pc lv (v :: .ref h :: st) := by
  intro H locs ls h1 h2 h3 h4
  obtain ⟨f1, f2, f3, f4, f5, f6, f7, f8, f9⟩ := hf
  exact va_putF S.1.1 S.1.2.1 S.1.2.2.2.2 f1 ty0 f2 f3 S.1.2.2.2.1 S.K h1 h2 h3 0 rfl f4 k f5 (S.1.2.2.2.2 _ f6) (fun _ h => h) f7 hinit f8 f9 hn hfit hl d (fun H1 locs1 p1 p2 p3 => kk H1 locs1 ls p1 p2 p3 h4)
theorem y_putV (S : SC X A p s m args c cc n own) {C : String} {T0 : u_T} {N ci index k h : Nat} {ty0 : Nat → FieldType} {ty : FieldType} {fs : List Value} {v : Value} (hf : FPC false own C T0 N ci index k ty0 ty) (hn : narrow ty v = v) (hfit : fits ty v = true) (hl : k < fs.length) (d : decode cc pc = .ok (.putfield index, 3)) (kk : Y X A p l e R s m args below meth c cells slots Q n ((h, .inr (ci, fs.set k v)) :: T) (pc + 3) lv st) : Y X A p l e R s m args below meth c cells slots Q n ((h, .inr (ci, fs)) :: T) pc lv (v :: .ref h :: st) := by
  intro H locs ls h1 h2 h3 h4
  obtain ⟨f1, f2, f3, f4, f5, f6, f7, f8, f9⟩ := hf
  exact va_put S.1.1 S.1.2.1 S.1.2.2.2.2 f1 ty0 f2 f3 S.1.2.2.2.1 S.K h1 h2 h3 0 rfl f4 k f5 (S.1.2.2.2.2 _ f6) (fun _ h => h) f7 f9 hn hfit hl d (fun H1 locs1 p1 p2 p3 => kk H1 locs1 ls p1 p2 p3 h4)
theorem y_getF (S : SC X A p s m args c cc n own) {fin : Bool} {C : String} {T0 : u_T} {N ci index k h : Nat} {ty0 : Nat → FieldType} {ty : FieldType} {fs : List Value} {v : Value} (hf : FPC fin own C T0 N ci index k ty0 ty) (hv : fs[k]? = some v) (d : decode cc pc = .ok (.getfield index, 3)) (kk : Y X A p l e R s m args below meth c cells slots Q n ((h, .inr (ci, fs)) :: T) (pc + 3) lv (v :: st)) : Y X A p l e R s m args below meth c cells slots Q n ((h, .inr (ci, fs)) :: T) pc lv (.ref h :: st) := by
  intro H locs ls h1 h2 h3 h4
  obtain ⟨f1, f2, f3, f4, f5, f6, f7, f8, f9⟩ := hf
  exact va_get S.1.1 S.1.2.1 S.1.2.2.2.2 f1 S.1.2.2.2.1 S.K h1 0 rfl f4 k f5 (S.1.2.2.2.2 _ f6) (fun _ h => h) hv d (kk H locs ls h1 h2 h3 h4)
theorem y_alen1 (S : SC X A p s m args c cc n own) {x : Nat × va_E} {a t0 N' : Nat} {xa : (Nat → Int32) ⊕ (Nat → Int64) ⊕ (Nat → UInt32) ⊕ (Nat → UInt64) ⊕ (Nat → Option Nat)} {ty : FieldType} {v : Int32} (ht : (tysOf X)[t0]? = some (X.2.1 t0, ty)) (hv : Int32.ofNat N' = v) (d : decode cc pc = .ok (.arraylength, 1)) (kk : Y X A p l e R s m args below meth c cells slots Q n (x :: (a, .inl (X.2.1 t0, N', xa)) :: T) (pc + 1) lv (.int v :: st)) : Y X A p l e R s m args below meth c cells slots Q n (x :: (a, .inl (X.2.1 t0, N', xa)) :: T) pc lv (.ref a :: st) :=
  fun H locs ls h1 h2 h3 h4 => va_alen S.1.1 S.1.2.1 S.K h1 1 t0 (cA := X.2.1 t0) (x := (N', xa)) rfl ht hv d (kk H locs ls h1 h2 h3 h4)
theorem y_iast1 (S : SC X A p s m args c cc n own) {x : Nat × va_E} {a N' : Nat} {f : Nat → Int32} {i v : Int32} (hin : ibs i N' = true) (d : decode cc pc = .ok (.iastore, 1)) (kk : Y X A p l e R s m args below meth c cells slots Q n (x :: (a, .inl (X.2.1 0, N', .inl (upd f i.toNatClampNeg v))) :: T) (pc + 1) lv st) : Y X A p l e R s m args below meth c cells slots Q n (x :: (a, .inl (X.2.1 0, N', .inl f)) :: T) pc lv (.int v :: .int i :: .ref a :: st) :=
  fun H locs ls h1 h2 h3 h4 => va_iast S.1.1 S.1.2.1 S.K h1 h2 h3 1 0 rfl rfl (vp_of_ibs hin) d (fun H1 locs1 p1 p2 p3 => kk H1 locs1 ls p1 p2 p3 h4)
/-- an object that has just come (the first of the last block) into the row at the second place -/
theorem y_mast1 (S : SC X A p s m args c cc n own) {x : Nat × va_E} {a N' q : Nat} {W1 : va_W} {f : Nat → Option Nat} {i : Int32} {vs : List Value} (hW : W1[0]? = some (q, .inr (4, vs))) (hin : ibs i N' = true) (d : decode cc pc = .ok (.aastore, 1)) (kk : Y X A p l e R s m args below meth c cells slots Q n (x :: (a, .inl (X.2.1 2, N', .inr (.inr (.inr (.inr (va_up f i.toNatClampNeg (some q))))))) :: (T ++ W1)) (pc + 1) lv st) : Y X A p l e R s m args below meth c cells slots Q n (x :: (a, .inl (X.2.1 2, N', .inr (.inr (.inr (.inr f))))) :: (T ++ W1)) pc lv (.ref q :: .int i :: .ref a :: st) := by
  intro H locs ls h1 h2 h3 h4
  have hk : (x :: (a, (Sum.inl (X.2.1 2, N', .inr (.inr (.inr (.inr f)))) : va_E)) :: (T ++ W1))[T.length + 2]? = some (q, .inr (4, vs)) := by
    rw [List.getElem?_cons_succ, List.getElem?_cons_succ, List.getElem?_append_right (Nat.le_refl _), Nat.sub_self]
    exact hW
  exact va_astq S.1.1 S.1.2.1 S.K h1 h2 h3 1 2 (T.length + 2) 4 (r := (RX4, TX4, 10)) rfl rfl hk rfl (vp_of_ibs hin) d (fun H1 locs1 p1 p2 p3 => kk H1 locs1 ls p1 p2 p3 h4)
theorem y_cI (S : SC X A p s m args c cc n own) {index k mc ms ci q : Nat} {y : MethodName} {b : ByteArray} {rm : Room} {fs0 : List Value} {S9 : Type} {Wf : Nat → S9 → va_W} (hc : CI own index y b k) (hM : KC X l y (wz y b k none) rm mc ms ci fs0 Wf) (h0 : rm.cells = mc ∧ rm.slots = ms) (hR : rm.frames + 1 ≤ R.frames ∧ 8 + (k + 11) + rm.locals ≤ R.locals) (hcs : cells + mc ≤ R.cells ∧ slots + ms ≤ R.slots) (hW : (st.map fun v => v.category).sum ≤ 8) (d : decode cc pc = .ok (.invokespecial index, 3)) (kk : ∀ u, Y X A p l e R s m args below meth c (cells + mc) (slots + ms) Q n (T ++ Wf q u) (pc + 3) lv st) : Y X A p l e R s m args below meth c cells slots Q n (T ++ [(q, .inr (ci, fs0))]) pc lv (.ref q :: st) := by
  intro H locs ls h1 h2 h3 h4
  obtain ⟨g1, g2, g3, g4, g5, g6, g7, g8⟩ := hc
  have hq : (T ++ [(q, (Sum.inr (ci, fs0) : va_E))])[T.length]? = some (q, .inr (ci, fs0)) := by rw [List.getElem?_append_right (Nat.le_refl _), Nat.sub_self]; rfl
  have hTi : ∀ (j : Nat) (z : Nat × va_E), T[j]? = some z → (T ++ [(q, (Sum.inr (ci, fs0) : va_E))])[j]? = some z := fun j z hj => by
    rw [List.getElem?_append_left (List.getElem?_eq_some_iff.mp hj).1]; exact hj
  have hAq : A q := h2.2 _ _ hq
  have hsub : ∀ a, va_A [(q, .inr (ci, fs0))] H.size a → A a := by
    intro a ha
    rcases ha with ⟨j, ev, hj⟩ | ha
    · cases j with
      | zero => cases hj; exact hAq
      | succ j => cases hj
    · exact S.2.1 a (Nat.le_trans h3.1 ha)
  have hP1 : va_P X.1 vwCl [(q, .inr (ci, fs0))] H := fun j z hj => by
    cases j with
    | zero => cases hj; exact h1 _ _ hq
    | succ j => cases hj
  have hev : EVC X (va_A [(q, .inr (ci, fs0))] H.size) s H := ⟨(S.2.2.1.kept h3.2.1).narrow hsub, S.2.2.2⟩
  refine va_callv (va_runI (As := []) (rest := st) S.1 (hM q H.size) ⟨callB_of 0 S.1.2.2.2.2 (wz_good g1) rfl h0.1 h0.2 (S.1.2.2.2.2 _ g4) (S.1.2.2.2.2 _ g2) ⟨g6, g7, g8⟩ hR, g5, S.1.2.2.2.2 _ g3⟩ ⟨fun a U g mk z => ⟨z.1, z.2.1, z.2.2.1, EVC.warm (State.WarmedH.refl U) z.2.2.2⟩, fun U hU hW2 => ⟨rfl, by rw [hU], by rw [hU]; exact hP1, by rw [hU]; exact hev.warm hW2⟩⟩ rfl rfl h4.1 rfl (lv_room hW) d hcs) h3 (fun a _ h => hsub a h) hsub (fun u t H1 locs1 ht hvm hp hB hz hk hS => ?_)
  subst ht
  obtain ⟨hB1, hB2⟩ := hB
  have hTk : ∀ (j : Nat) (z : Nat × va_E), T[j]? = some z → z.1 < H.size ∧ z.1 ≠ q := fun j z hj => by
    refine ⟨(h1 _ _ (hTi j z hj)).lt, fun he => ?_⟩
    have := h2.1 _ _ _ _ (hTi j z hj) hq he
    have := (List.getElem?_eq_some_iff.mp hj).1
    omega
  have hnA : ∀ (j : Nat) (z : Nat × va_E), T[j]? = some z → ¬ va_A [(q, .inr (ci, fs0))] H.size z.1 := fun j z hj ha => by
    rcases ha with ⟨i, ev, hi⟩ | ha
    · cases i with
      | zero => cases hi; exact (hTk j z hj).2 rfl
      | succ i => cases hi
    · exact absurd (hTk j z hj).1 (Nat.not_lt.mpr ha)
  have hPT : va_P X.1 vwCl T t.heap := fun j z hj => (h1 _ _ (hTi j z hj)).kept (hk _ (hTk j z hj).1 (hnA j z hj))
  have hDT : va_D A T := ⟨fun i j z1 z2 e1 e2 he => h2.1 i j z1 z2 (hTi i z1 e1) (hTi j z2 e2) he, fun j z hj => h2.2 j z (hTi j z hj)⟩
  refine kk u t.heap locs1 ls (hPT.app hB1) (hDT.app (hB2.weaken (fun _ _ _ h => hsub _ h)) (fun i j z1 z2 e1 e2 he => ?_)) hS h4
  exact hnA i z1 e1 (by rw [he]; exact hB2.2 j z2 e2)
theorem y_cN (S : SC X A p s m args c cc n own) {index k mc ms ci q : Nat} {y : MethodName} {host : String} {b : ByteArray} {rm : Room} {fs0 : List Value} {S9 : Type} {Wf : Nat → S9 → va_W} (hc : CIN own host index y b k) (hM : KC X l y (wz y b k none) rm mc ms ci fs0 Wf) (h0 : rm.cells = mc ∧ rm.slots = ms) (hR : rm.frames + 1 ≤ R.frames ∧ 8 + (k + 11) + rm.locals ≤ R.locals) (hcs : cells + mc ≤ R.cells ∧ slots + ms ≤ R.slots) (hW : (st.map fun v => v.category).sum ≤ 8) (d : decode cc pc = .ok (.invokespecial index, 3)) (kk : ∀ u, Y X A p l e R s m args below meth c (cells + mc) (slots + ms) Q n (T ++ Wf q u) (pc + 3) lv st) : Y X A p l e R s m args below meth c cells slots Q n (T ++ [(q, .inr (ci, fs0))]) pc lv (.ref q :: st) := by
  intro H locs ls h1 h2 h3 h4
  obtain ⟨g1, g2, g3, g4, g5, g6, g7, g8⟩ := hc
  have hq : (T ++ [(q, (Sum.inr (ci, fs0) : va_E))])[T.length]? = some (q, .inr (ci, fs0)) := by rw [List.getElem?_append_right (Nat.le_refl _), Nat.sub_self]; rfl
  have hTi : ∀ (j : Nat) (z : Nat × va_E), T[j]? = some z → (T ++ [(q, (Sum.inr (ci, fs0) : va_E))])[j]? = some z := fun j z hj => by
    rw [List.getElem?_append_left (List.getElem?_eq_some_iff.mp hj).1]; exact hj
  have hAq : A q := h2.2 _ _ hq
  have hsub : ∀ a, va_A [(q, .inr (ci, fs0))] H.size a → A a := by
    intro a ha
    rcases ha with ⟨j, ev, hj⟩ | ha
    · cases j with
      | zero => cases hj; exact hAq
      | succ j => cases hj
    · exact S.2.1 a (Nat.le_trans h3.1 ha)
  have hP1 : va_P X.1 vwCl [(q, .inr (ci, fs0))] H := fun j z hj => by
    cases j with
    | zero => cases hj; exact h1 _ _ hq
    | succ j => cases hj
  have hev : EVC X (va_A [(q, .inr (ci, fs0))] H.size) s H := ⟨(S.2.2.1.kept h3.2.1).narrow hsub, S.2.2.2⟩
  refine va_callv (va_runIN (As := []) (rest := st) S.1 (hM q H.size) ⟨va_cnB 0 S.1.2.2.2.2 (wz_good g1) rfl h0.1 h0.2 (S.2.2.1.2.1 _ g2) (S.1.2.2.2.2 _ g4) ⟨g6, g7, g8⟩ hR, g5, S.1.2.2.2.2 _ g3⟩ ⟨fun a U g mk z => ⟨z.1, z.2.1, z.2.2.1, EVC.warm (State.WarmedH.refl U) z.2.2.2⟩, fun U hU hW2 => ⟨rfl, by rw [hU], by rw [hU]; exact hP1, by rw [hU]; exact hev.warm hW2⟩⟩ rfl rfl h4.1 rfl (lv_room hW) d hcs) h3 (fun a _ h => hsub a h) hsub (fun u t H1 locs1 ht hvm hp hB hz hk hS => ?_)
  subst ht
  obtain ⟨hB1, hB2⟩ := hB
  have hTk : ∀ (j : Nat) (z : Nat × va_E), T[j]? = some z → z.1 < H.size ∧ z.1 ≠ q := fun j z hj => by
    refine ⟨(h1 _ _ (hTi j z hj)).lt, fun he => ?_⟩
    have := h2.1 _ _ _ _ (hTi j z hj) hq he
    have := (List.getElem?_eq_some_iff.mp hj).1
    omega
  have hnA : ∀ (j : Nat) (z : Nat × va_E), T[j]? = some z → ¬ va_A [(q, .inr (ci, fs0))] H.size z.1 := fun j z hj ha => by
    rcases ha with ⟨i, ev, hi⟩ | ha
    · cases i with
      | zero => cases hi; exact (hTk j z hj).2 rfl
      | succ i => cases hi
    · exact absurd (hTk j z hj).1 (Nat.not_lt.mpr ha)
  have hPT : va_P X.1 vwCl T t.heap := fun j z hj => (h1 _ _ (hTi j z hj)).kept (hk _ (hTk j z hj).1 (hnA j z hj))
  have hDT : va_D A T := ⟨fun i j z1 z2 e1 e2 he => h2.1 i j z1 z2 (hTi i z1 e1) (hTi j z2 e2) he, fun j z hj => h2.2 j z (hTi j z hj)⟩
  refine kk u t.heap locs1 ls (hPT.app hB1) (hDT.app (hB2.weaken (fun _ _ _ h => hsub _ h)) (fun i j z1 z2 e1 e2 he => ?_)) hS h4
  exact hnA i z1 e1 (by rw [he]; exact hB2.2 j z2 e2)
end YR
theorem KC_of {X : Cx} {l : Launch} {y : MethodName} {b : ByteArray} {k mc ms ci : Nat} {rm : Room} {fs0 : List Value} {S9 : Type} {Wf : Nat → S9 → va_W} {own : String} (hy : plainName y.cls = true) (hown : y.cls = own) (hk : 1 ≤ k) (hn : y.name = "<init>")
    (body : ∀ (A : Nat → Prop) (h : Nat) (p : Program) (e : Env) (s : State) (m : MethodId) (args : Array Value) (below : List Frame) (meth : Method) (c : Code), SC X A p s m args c b k own → meth.name = "<init>" → meth.sig.returnType = none → meth.locks = false → Y X A p l e rm s m args below meth c 0 0 (MQ below (va_Qv (fun _ : S9 => True) (fun u t => va_P X.1 vwCl (Wf h u) t.heap ∧ va_D A (Wf h u)) A) args s mc ms A) k [(h, .inr (ci, fs0))] 0 [(0, .ref h)] []) : KC X l y (wz y b k none) rm mc ms ci fs0 Wf := by
  intro h sz
  refine Met.ofW (cc := b) (maxL := k) (ret := none) hy rfl ?_
  intro p e s m args below meth c s₁ B hml hv
  obtain ⟨rfl, hsz, hP, hE⟩ := hv
  subst hsz
  have hts := atoms_spec (ws := wz y b k none) B.pre
  have S : SC X (va_A [(h, .inr (ci, fs0))] s.heap.size) p s m [Value.ref h].toArray c b k own := ⟨⟨B.exec, B.bytes, hml, by rw [← hown]; exact findClass_of_methodNamed B.named, fun z hz => hts z (List.mem_cons_of_mem _ hz)⟩, fun q hq => Or.inr hq, hE⟩
  have hl := lv_entry [.ref h] (n := k) (show (lg_sl [Value.ref h]).length ≤ k from hk)
  have hD : va_D (va_A [(h, .inr (ci, fs0))] s.heap.size) [(h, .inr (ci, fs0))] := by
    refine ⟨fun i j z1 z2 e1 e2 he => ?_, fun j z hj => va_A.in hj⟩
    have h1 := (List.getElem?_eq_some_iff.mp e1).1
    have h2 := (List.getElem?_eq_some_iff.mp e2).1
    simp at h1 h2
    omega
  rw [lg_entry_eq]
  exact body _ h p e s m _ below meth c S (by rw [(name_of_methodNamed B.named B.method).1]; exact hn) B.returns B.notSynchronized s.heap [] _ hP hD va_S.rf hl
theorem y_vret {X : Cx} {A : Nat → Prop} {p : Program} {l : Launch} {e : Env} {R : Room} {s : State} {m : MethodId} {args : Array Value} {below : List Frame} {meth : Method} {c : Code} {cells slots n pc mc ms h : Nat} {ws : va_W} {lv : List (Nat × Value)} {cc : ByteArray} {own : String} {S9 : Type} {Wf : Nat → S9 → va_W} (S : SC X A p s m args c cc n own) (hr : meth.sig.returnType = none) (hlocks : meth.locks = false) (u : S9) (hw : ws = Wf h u) (hc : cells ≤ mc) (hs : slots ≤ ms) (d : decode cc pc = .ok (.return_, 1)) : Y X A p l e R s m args below meth c cells slots (MQ below (va_Qv (fun _ : S9 => True) (fun u t => va_P X.1 vwCl (Wf h u) t.heap ∧ va_D A (Wf h u)) A) args s mc ms A) n ws pc lv [] := by
  intro H locs ls h1 h2 h3 h4
  subst hw
  exact W.widen hc hs (W.vret S.1.1 S.1.2.1 hr (fun t ht hW => ⟨⟨u, rfl, trivial, (by subst ht; exact h1), h2⟩, h3.F ht⟩) h3.2.2 d)
theorem y_swap2 {X : Cx} {A : Nat → Prop} {p : Program} {l : Launch} {e : Env} {R : Room} {s : State} {m : MethodId} {args : Array Value} {below : List Frame} {meth : Method} {c : Code} {cells slots : Nat} {Q : State → Prop} {n : Nat} {T : va_W} {x y : Nat × va_E} {pc : Nat} {lv : List (Nat × Value)} {st : List Value} (k : Y X A p l e R s m args below meth c cells slots Q n (x :: y :: T) pc lv st) : Y X A p l e R s m args below meth c cells slots Q n ((x :: T) ++ [y]) pc lv st := fun H locs ls h1 h2 h3 h4 => k H locs ls (P_swap2 h1) (D_swap2 h2) h3 h4
theorem y_getsR {X : Cx} {A : Nat → Prop} {p : Program} {l : Launch} {e : Env} {R : Room} {s : State} {m : MethodId} {args : Array Value} {below : List Frame} {meth : Method} {c : Code} {cells slots : Nat} {Q : State → Prop} {n : Nat} {ws : va_W} {pc : Nat} {lv : List (Nat × Value)} {st : List Value} {cc : ByteArray} {own : String} (S : SC X A p s m args c cc n own) {index i j : Nat} {nm : String} (hi : i < 31) (hn : nmW.getD i "" = nm) (hj : 300 + i = j) (hl : Cond.fieldLink own index RX8 nm "LBeltHall$Word;" ∈ TB) (d : decode cc pc = .ok (.getstatic index, 3)) (k : Y X A p l e R s m args below meth c cells slots Q n ws (pc + 3) lv (.ref (X.2.2 j) :: st)) : Y X A p l e R s m args below meth c cells slots Q n ws pc lv st := by
  subst hj
  subst hn
  exact fun H locs ls h1 h2 h3 h4 => va_gets S.1.1 S.1.2.1 ((S.2.2.1.2.2.1.1 i hi).1) h3 S.1.2.2.2.1 (S.1.2.2.2.2 _ hl) (fun _ h => h) d (k H locs ls h1 h2 h3 h4)
section Y9
variable {X : Cx} {A : Nat → Prop} {p : Program} {l : Launch} {e : Env} {R : Room} {s : State} {m : MethodId} {args : Array Value} {below : List Frame} {meth : Method} {c : Code} {cells slots cells' slots' : Nat} {Q : State → Prop} {n : Nat} {T : va_W} {z : Nat × va_E} {pc pc' h : Nat} {lv : List (Nat × Value)} {cc : ByteArray} {own : String}
theorem y9_newF {S9 : Type} (S : SC X A p s m args c cc n own) (hinit : meth.name = "<init>") {idn idc idp NC cC k mc ms NT cT kf : Nat} {C CT host : String} {TC TT : u_T} {tyC ty0 : Nat → FieldType} {ty : FieldType} {fsC fs : List Value} {fs' : Nat → List Value} {y : MethodName} {b : ByteArray} {rm : Room} {Wf : Nat → S9 → va_W} (hn : NEW own C TC NC cC idn tyC fsC) (hc : CIN own host idc y b k) (hM : KC X l y (wz y b k none) rm mc ms cC fsC Wf) (h0 : rm.cells = mc ∧ rm.slots = ms) (hR : rm.frames + 1 ≤ R.frames ∧ 8 + (k + 11) + rm.locals ≤ R.locals) (hf : FPC true own CT TT NT cT idp kf ty0 ty) (hnar : ∀ q, narrow ty (.ref q) = .ref q) (hfit : ∀ q, fits ty (.ref q) = true) (hl : kf < fs.length) (e1 : cells + 1 + mc = cells') (e2 : slots + NC + ms = slots') (hcs : cells' ≤ R.cells ∧ slots' ≤ R.slots) (hp : pc + 11 = pc') (hlv : lv[0]? = some (0, .ref h)) (hfs : ∀ q, fs.set kf (.ref q) = fs' q) (d0 : decode cc pc = .ok (.aload_n 0, 1)) (d1 : decode cc (pc + 1) = .ok (.new idn, 3)) (d2 : decode cc (pc + 4) = .ok (.dup, 1)) (d3 : decode cc (pc + 5) = .ok (.invokespecial idc, 3)) (d4 : decode cc (pc + 8) = .ok (.putfield idp, 3)) (kk : ∀ q u, Y X A p l e R s m args below meth c cells' slots' Q n ((h, .inr (cT, fs' q)) :: (T ++ Wf q u)) pc' lv []) : Y X A p l e R s m args below meth c cells slots Q n ((h, .inr (cT, fs)) :: T) pc lv [] := by
  subst hp e1 e2
  refine y_aload_n S d0 rfl 0 hlv ?_
  refine y_new S hn (by omega) (by omega) d1 (fun q => ?_)
  refine y_dup S d2 ?_
  refine y_cN S hc hM h0 hR hcs (Nat.le_of_ble_eq_true rfl) d3 (fun u => ?_)
  refine y_putF S hinit hf (hnar q) (hfit q) hl d4 ?_
  rw [hfs]
  exact kk q u
theorem y9_newV {S9 : Type} (S : SC X A p s m args c cc n own) (hinit : meth.name = "<init>") {idn idc idp NC cC k mc ms NT cT kf : Nat} {C CT host : String} {TC TT : u_T} {tyC ty0 : Nat → FieldType} {ty : FieldType} {fsC fs : List Value} {fs' : Nat → List Value} {y : MethodName} {b : ByteArray} {rm : Room} {Wf : Nat → S9 → va_W} (hn : NEW own C TC NC cC idn tyC fsC) (hc : CIN own host idc y b k) (hM : KC X l y (wz y b k none) rm mc ms cC fsC Wf) (h0 : rm.cells = mc ∧ rm.slots = ms) (hR : rm.frames + 1 ≤ R.frames ∧ 8 + (k + 11) + rm.locals ≤ R.locals) (hf : FPC false own CT TT NT cT idp kf ty0 ty) (hnar : ∀ q, narrow ty (.ref q) = .ref q) (hfit : ∀ q, fits ty (.ref q) = true) (hl : kf < fs.length) (e1 : cells + 1 + mc = cells') (e2 : slots + NC + ms = slots') (hcs : cells' ≤ R.cells ∧ slots' ≤ R.slots) (hp : pc + 11 = pc') (hlv : lv[0]? = some (0, .ref h)) (hfs : ∀ q, fs.set kf (.ref q) = fs' q) (d0 : decode cc pc = .ok (.aload_n 0, 1)) (d1 : decode cc (pc + 1) = .ok (.new idn, 3)) (d2 : decode cc (pc + 4) = .ok (.dup, 1)) (d3 : decode cc (pc + 5) = .ok (.invokespecial idc, 3)) (d4 : decode cc (pc + 8) = .ok (.putfield idp, 3)) (kk : ∀ q u, Y X A p l e R s m args below meth c cells' slots' Q n ((h, .inr (cT, fs' q)) :: (T ++ Wf q u)) pc' lv []) : Y X A p l e R s m args below meth c cells slots Q n ((h, .inr (cT, fs)) :: T) pc lv [] := by
  subst hp e1 e2
  refine y_aload_n S d0 rfl 0 hlv ?_
  refine y_new S hn (by omega) (by omega) d1 (fun q => ?_)
  refine y_dup S d2 ?_
  refine y_cN S hc hM h0 hR hcs (Nat.le_of_ble_eq_true rfl) d3 (fun u => ?_)
  refine y_putV S hf (hnar q) (hfit q) hl d4 ?_
  rw [hfs]
  exact kk q u
theorem y9_newF2 {S9 : Type} (S : SC X A p s m args c cc n own) (hinit : meth.name = "<init>") {idn idc idp NC cC k mc ms NT cT kf : Nat} {C CT host : String} {TC TT : u_T} {tyC ty0 : Nat → FieldType} {ty : FieldType} {fsC fs : List Value} {fs' : Nat → List Value} {y : MethodName} {b : ByteArray} {rm : Room} {Wf : Nat → S9 → va_W} (hn : NEW own C TC NC cC idn tyC fsC) (hc : CIN own host idc y b k) (hM : KC X l y (wz y b k none) rm mc ms cC fsC Wf) (h0 : rm.cells = mc ∧ rm.slots = ms) (hR : rm.frames + 1 ≤ R.frames ∧ 8 + (k + 11) + rm.locals ≤ R.locals) (hf : FPC true own CT TT NT cT idp kf ty0 ty) (hnar : ∀ q, narrow ty (.ref q) = .ref q) (hfit : ∀ q, fits ty (.ref q) = true) (hl : kf < fs.length) (e1 : cells + 1 + mc = cells') (e2 : slots + NC + ms = slots') (hcs : cells' ≤ R.cells ∧ slots' ≤ R.slots) (hp : pc + 11 = pc') (hlv : lv[0]? = some (0, .ref h)) (hfs : ∀ q, fs.set kf (.ref q) = fs' q) (d0 : decode cc pc = .ok (.aload_n 0, 1)) (d1 : decode cc (pc + 1) = .ok (.new idn, 3)) (d2 : decode cc (pc + 4) = .ok (.dup, 1)) (d3 : decode cc (pc + 5) = .ok (.invokespecial idc, 3)) (d4 : decode cc (pc + 8) = .ok (.putfield idp, 3)) (kk : ∀ q u, Y X A p l e R s m args below meth c cells' slots' Q n ((h, .inr (cT, fs' q)) :: z :: (T ++ Wf q u)) pc' lv []) : Y X A p l e R s m args below meth c cells slots Q n ((h, .inr (cT, fs)) :: z :: T) pc lv [] := by
  subst hp e1 e2
  refine y_aload_n S d0 rfl 0 hlv ?_
  refine y_new S hn (by omega) (by omega) d1 (fun q => ?_)
  refine y_dup S d2 ?_
  refine y_cN S hc hM h0 hR hcs (Nat.le_of_ble_eq_true rfl) d3 (fun u => ?_)
  refine y_putF S hinit hf (hnar q) (hfit q) hl d4 ?_
  rw [hfs]
  exact kk q u
/-- one more Museum into the row at the second place -/
theorem y9_it {S9 : Type} (S : SC X A p s m args c cc n own) {idn idc idp NC k mc ms NT cT kf a N' : Nat} {C CT host : String} {TC TT : u_T} {tyC ty0 : Nat → FieldType} {ty : FieldType} {fsC fs : List Value} {fin : Bool} {y : MethodName} {b : ByteArray} {rm : Room} {Wf : Nat → S9 → va_W} {f : Nat → Option Nat} {i i' M9 : Int32} {vs : Nat → S9 → List Value} (hn : NEW own C TC NC 4 idn tyC fsC) (hc : CIN own host idc y b k) (hM : KC X l y (wz y b k none) rm mc ms 4 fsC Wf) (h0 : rm.cells = mc ∧ rm.slots = ms) (hR : rm.frames + 1 ≤ R.frames ∧ 8 + (k + 11) + rm.locals ≤ R.locals) (hf : FPC fin own CT TT NT cT idp kf ty0 ty) (hfs : fs[kf]? = some (.ref a)) (hW : ∀ q u, (Wf q u)[0]? = some (q, .inr (4, vs q u))) (hN : Int32.ofNat N' = M9) (hi : ¬ M9 ≤ i) (hin : ibs i N' = true) (hi2 : i + 1 = i') (hn1 : 1 < n) (e1 : cells + 1 + mc = cells') (e2 : slots + NC + ms = slots') (hcs : cells' ≤ R.cells ∧ slots' ≤ R.slots)
    (d0 : decode cc pc = .ok (.iload_n 1, 1)) (d1 : decode cc (pc + 1) = .ok (.aload_n 0, 1)) (d2 : decode cc (pc + 2) = .ok (.getfield idp, 3)) (d5 : decode cc (pc + 5) = .ok (.arraylength, 1)) {off off2 : Int} (d6 : decode cc (pc + 6) = .ok (.if_icmp .ge off, 3)) {tgt : Nat} (ht : ((pc + 6 : Nat) : Int) + off = (tgt : Int)) (d9 : decode cc (pc + 9) = .ok (.aload_n 0, 1)) (d10 : decode cc (pc + 10) = .ok (.getfield idp, 3)) (d13 : decode cc (pc + 13) = .ok (.iload_n 1, 1)) (d14 : decode cc (pc + 14) = .ok (.new idn, 3)) (d17 : decode cc (pc + 17) = .ok (.dup, 1)) (d18 : decode cc (pc + 18) = .ok (.invokespecial idc, 3)) (d21 : decode cc (pc + 21) = .ok (.aastore, 1)) (d22 : decode cc (pc + 22) = .ok (.iinc 1 1, 3)) (d25 : decode cc (pc + 25) = .ok (.goto off2, 3)) (ht2 : ((pc + 25 : Nat) : Int) + off2 = (pc : Int))
    (kk : ∀ q u, Y X A p l e R s m args below meth c cells' slots' Q n ((h, .inr (cT, fs)) :: (a, .inl (X.2.1 2, N', .inr (.inr (.inr (.inr (va_up f i.toNatClampNeg (some q))))))) :: (T ++ Wf q u)) pc [(0, .ref h), (1, .int i')] []) : Y X A p l e R s m args below meth c cells slots Q n ((h, .inr (cT, fs)) :: (a, .inl (X.2.1 2, N', .inr (.inr (.inr (.inr f))))) :: T) pc [(0, .ref h), (1, .int i)] [] := by
  subst e1 e2
  refine y_iload_n S d0 rfl 1 rfl ?_
  refine y_aload_n S d1 rfl 0 rfl ?_
  refine y_getF S hf hfs d2 ?_
  refine y_alen1 (t0 := 2) (v := M9) S rfl hN d5 ?_
  refine y_icmp_ge (tgt := tgt) S d6 ht (fun hh => absurd hh hi) (fun _ => ?_)
  refine y_aload_n S d9 rfl 0 rfl ?_
  refine y_getF S hf hfs d10 ?_
  refine y_iload_n S d13 rfl 1 rfl ?_
  refine y_new S hn (by omega) (by omega) d14 (fun q => ?_)
  refine y_dup S d17 ?_
  refine y_cN S hc hM h0 hR hcs (Nat.le_of_ble_eq_true rfl) d18 (fun u => ?_)
  refine y_mast1 S (W1 := Wf q u) (hW q u) hin d21 ?_
  refine y_iinc (v := i') (lv' := [(0, .ref h), (1, .int i')]) S [1, 0] 1 d22 rfl hi2 hn1 rfl ?_
  refine y_goto (tgt := pc) S d25 ht2 ?_
  exact kk q u
end Y9
