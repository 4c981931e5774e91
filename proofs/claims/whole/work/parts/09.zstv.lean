/-! rows: methods that throw, and the calls of such -/
def exName (k : Nat) : String := if k = 1 then "java/lang/IllegalArgumentException" else if k = 2 then "java/lang/IndexOutOfBoundsException" else if k = 3 then "java/lang/UnsupportedOperationException" else "java/util/NoSuchElementException"
def rmx (f k mc ms : Nat) : Room := { frames := f, cells := mc, slots := ms, locals := k }
def nmsX : List String := ["java/lang/RuntimeException", "java/lang/Exception"]
abbrev QXI (X : Cx) (w : Nat) (rx : (Int32 × Mm) ⊕ (Nat × Mm)) (sz : Nat) : Array Value → State → Outcome → State → Prop := va_Qi (fun v N => rx = .inl (v, N)) (fun N t => WDP X w N t.heap) (AA X w sz)
abbrev QXZ (X : Cx) (w : Nat) (rx : (Bool × Mm) ⊕ (Nat × Mm)) (sz : Nat) : Array Value → State → Outcome → State → Prop := va_Qi (fun v N => ∃ b, v = bI b ∧ rx = .inl (b, N)) (fun N t => WDP X w N t.heap) (AA X w sz)
abbrev QXV (X : Cx) (w : Nat) (rx : Mm ⊕ (Nat × Mm)) (sz : Nat) : Array Value → State → Outcome → State → Prop := va_Qv (fun N => rx = .inl N) (fun N t => WDP X w N t.heap) (AA X w sz)
abbrev XCX {α : Type} (X : Cx) (w : Nat) (rx : α ⊕ (Nat × Mm)) (sz : Nat) : String → State → State → Prop := vx_X (fun u : Nat × Mm => rx = .inr u) (fun E u t => E = exName u.1 ∧ WDP X w u.2 t.heap) (AA X w sz)
def KXI (X : Cx) (w : Nat) (l : Launch) (y : MethodName) (ws : List Cond) (rm : Room) (mc ms : Nat) (av : List Value) (M : Mm) (rx : (Int32 × Mm) ⊕ (Nat × Mm)) : Prop := ∀ sz, vx_Met l y ws rm (va_Pc av (PW X w M sz)) (QXI X w rx sz) (XCX X w rx sz) mc ms (AA X w sz)
def KXZ (X : Cx) (w : Nat) (l : Launch) (y : MethodName) (ws : List Cond) (rm : Room) (mc ms : Nat) (av : List Value) (M : Mm) (rx : (Bool × Mm) ⊕ (Nat × Mm)) : Prop := ∀ sz, vx_Met l y ws rm (va_Pc av (PW X w M sz)) (QXZ X w rx sz) (XCX X w rx sz) mc ms (AA X w sz)
def KXV (X : Cx) (w : Nat) (l : Launch) (y : MethodName) (ws : List Cond) (rm : Room) (mc ms : Nat) (av : List Value) (M : Mm) (rx : Mm ⊕ (Nat × Mm)) : Prop := ∀ sz, vx_Met l y ws rm (va_Pc av (PW X w M sz)) (QXV X w rx sz) (XCX X w rx sz) mc ms (AA X w sz)
/-- what making and throwing one asks of the tables -/
def TXF (own cls text : String) (i ik is ic : Nat) : Prop := Bundle.fit cls = true ∧ Cond.classLink own ik cls ∈ TB ∧ Cond.initialized cls ∈ TB ∧ StrL[i]? = some (own, is, text) ∧ (∀ z ∈ vx_atS own ic cls nmsX, z ∈ TB ∨ z ∈ NW) ∧ ∀ z ∈ Cond.classLink own ik cls :: Cond.initialized cls :: vx_atS own ic cls nmsX, vx_ot z = true
theorem NW_use {z : Cond} (hz : z ∈ NW) {U : State} {args : Array Value} (h : va_Nw z U) : z.before args U = true := by
  have h2 := (List.mem_filter.mp hz).2
  cases z <;> first | exact va_Nw.use rfl h | cases h2
theorem nmsX_fit : ∀ n ∈ nmsX, Bundle.fit n = true := by decide +kernel
section ZX
variable {X : Cx} {w : Nat} {p : Program} {l : Launch} {e : Env} {R : Room} {s : State} {m : MethodId} {args : Array Value} {below : List Frame} {meth : Method} {c : Code} {cells slots mc ms : Nat} {Q : State → Prop} {n : Nat} {M : Mm} {pc : Nat} {lv lv' : List (Nat × Value)} {st : List Value} {cc : ByteArray} {ret : Option FieldType} {own : String} {α β : Type} {x0 : β} {XC : String → State → State → Prop} {Qc : Array Value → State → Outcome → State → Prop}
theorem z_widen {k j : Nat} (h1 : cells ≤ k) (h2 : slots ≤ j) (kk : Z X w p l e R s m args below meth c k j Q n M pc lv st) : Z X w p l e R s m args below meth c cells slots Q n M pc lv st := fun H locs ls q1 q2 q3 => W.widen h1 h2 (kk H locs ls q1 q2 q3)
theorem z_xiret (S : SB X w p s m args meth c cc n (some .int) own) {v : Int32} {rx : (Int32 × Mm) ⊕ (Nat × Mm)} (h : .inl (v, M) = rx) (hc : cells ≤ mc) (hs : slots ≤ ms) (d : decode cc pc = .ok (.ireturn, 1)) : Z X w p l e R s m args below meth c cells slots (vx_MQ below (QXI X w rx s.heap.size) XC args s mc ms (AA X w s.heap.size)) n M pc lv [.int v] := by
  intro H locs ls h1 h2 h3
  have hlocks := S.2.2.1
  exact W.widen hc hs (vx_ret (W.iret S.1.1 S.1.2.1 S.2.1 (fun t ht hW => ⟨⟨v, M, rfl, h.symm, (by subst ht; exact h1)⟩, h2.F ht⟩) h2.2.2 d))
theorem z_xzret (S : SB X w p s m args meth c cc n (some .boolean) own) {v : Bool} {rx : (Bool × Mm) ⊕ (Nat × Mm)} (h : .inl (v, M) = rx) (hc : cells ≤ mc) (hs : slots ≤ ms) (d : decode cc pc = .ok (.ireturn, 1)) : Z X w p l e R s m args below meth c cells slots (vx_MQ below (QXZ X w rx s.heap.size) XC args s mc ms (AA X w s.heap.size)) n M pc lv [.int (bI v)] := by
  intro H locs ls h1 h2 h3
  have hlocks := S.2.2.1
  exact W.widen hc hs (vx_ret (W.zret S.1.1 S.1.2.1 S.2.1 (nar_b v) (fun t ht hW => ⟨⟨bI v, M, rfl, ⟨v, rfl, h.symm⟩, (by subst ht; exact h1)⟩, h2.F ht⟩) h2.2.2 d))
theorem z_xzret0 (S : SB X w p s m args meth c cc n (some .boolean) own) {rx : (Bool × Mm) ⊕ (Nat × Mm)} (h : .inl (false, M) = rx) (hc : cells ≤ mc) (hs : slots ≤ ms) (d : decode cc pc = .ok (.ireturn, 1)) : Z X w p l e R s m args below meth c cells slots (vx_MQ below (QXZ X w rx s.heap.size) XC args s mc ms (AA X w s.heap.size)) n M pc lv [.int 0] := z_xzret (v := false) S h hc hs d
theorem z_xzret1 (S : SB X w p s m args meth c cc n (some .boolean) own) {rx : (Bool × Mm) ⊕ (Nat × Mm)} (h : .inl (true, M) = rx) (hc : cells ≤ mc) (hs : slots ≤ ms) (d : decode cc pc = .ok (.ireturn, 1)) : Z X w p l e R s m args below meth c cells slots (vx_MQ below (QXZ X w rx s.heap.size) XC args s mc ms (AA X w s.heap.size)) n M pc lv [.int 1] := z_xzret (v := true) S h hc hs d
theorem z_xzretv (S : SB X w p s m args meth c cc n (some .boolean) own) {v : Int32} {b : Bool} {rx : (Bool × Mm) ⊕ (Nat × Mm)} (hv : v = bI b) (h : .inl (b, M) = rx) (hc : cells ≤ mc) (hs : slots ≤ ms) (d : decode cc pc = .ok (.ireturn, 1)) : Z X w p l e R s m args below meth c cells slots (vx_MQ below (QXZ X w rx s.heap.size) XC args s mc ms (AA X w s.heap.size)) n M pc lv [.int v] := by
  subst hv
  exact z_xzret S h hc hs d
theorem z_xvret (S : SB X w p s m args meth c cc n none own) {rx : Mm ⊕ (Nat × Mm)} (h : .inl M = rx) (hc : cells ≤ mc) (hs : slots ≤ ms) (d : decode cc pc = .ok (.return_, 1)) : Z X w p l e R s m args below meth c cells slots (vx_MQ below (QXV X w rx s.heap.size) XC args s mc ms (AA X w s.heap.size)) n M pc lv [] := by
  intro H locs ls h1 h2 h3
  have hlocks := S.2.2.1
  exact W.widen hc hs (vx_ret (W.vret S.1.1 S.1.2.1 S.2.1 (fun t ht hW => ⟨⟨M, rfl, h.symm, (by subst ht; exact h1)⟩, h2.F ht⟩) h2.2.2 d))
theorem WDP_grow {H H1 : Heap} (h : WDP X w M H) (hq : ∀ q : Nat, q < H.size → H1[q]? = H[q]?) : WDP X w M H1 := va_P.kept h (fun k q hk => hq q.1 (h k q hk).lt)
theorem z_throw (S : SB X w p s m args meth c cc n ret own) (hl : l.stackTraces = false) (T0 : ∀ x ∈ c.exceptionTable.toList, False) {rx : α ⊕ (Nat × Mm)} {cls text : String} {i ik is ic k : Nat} (hf : TXF own cls text i ik is ic) (hk : exName k = cls) (h : .inr (k, M) = rx)
    (d0 : decode cc pc = .ok (.new ik, 3)) (d3 : decode cc (pc + 3) = .ok (.dup, 1)) (d4 : decode cc (pc + 4) = .ok (.ldc is, 2)) (d6 : decode cc (pc + 6) = .ok (.invokespecial ic, 3)) (d9 : decode cc (pc + 9) = .ok (.athrow, 1))
    (hR : 5 < R.frames) (hR2 : (st.map fun v => v.category).sum + 82 ≤ R.locals) (hR3 : cells + 1 ≤ R.cells) (hR4 : slots + 6 ≤ R.slots) (hc : cells + 1 ≤ mc) (hs : slots + 6 ≤ ms) : Z X w p l e R s m args below meth c cells slots (vx_MQ below Qc (XCX X w rx s.heap.size) args s mc ms (AA X w s.heap.size)) n M pc lv st := by
  intro H locs ls h1 h2 h3
  obtain ⟨f1, f2, f3, f4, f5, f6⟩ := hf
  have hat : ∀ z ∈ vx_atS own ic cls nmsX, z.before args s = true := fun z hz => (f5 z hz).elim (fun q => S.1.2.2.2.2 _ q) (fun q => NW_use q (S.2.2.2.2.2.1 _ q))
  refine vx_throwS S.1.1 S.1.2.1 hl S.1.2.2.2.1 f1 nmsX_fit (S.1.2.2.2.2 _ f2) (S.1.2.2.2.2 _ f3) (S.sta.2.2.2.2.1 i _ f4).1 hat f6 S.sta.2.2.2.2.2.2.1 S.sta.2.2.2.2.2.2.2.1 h2 (h3.1.trans S.1.2.2.1.symm) d0 d3 d4 d6 d9 (fun x hx => (T0 x hx).elim) hR hR2 hR3 hR4 S.2.2.1 (fun t hA hz hq => ?_) h2.2.2 hc hs
  exact ⟨(k, M), h.symm, ⟨hk.symm, WDP_grow h1 hq⟩, Nat.le_trans h2.1 hz, fun q hq1 hq2 => by rw [hq q (Nat.lt_of_lt_of_le hq1 h2.1)]; exact h2.2.1 q hq1 hq2⟩
theorem z_throwW (S : SB X w p s m args meth c cc n ret own) (hl : l.stackTraces = false) (T0 : ∀ x ∈ c.exceptionTable.toList, False) {rx : α ⊕ (Nat × Mm)} {cls text : String} {i ik is ic k : Nat} (hf : TXF own cls text i ik is ic) (hk : exName k = cls) (h : .inr (k, M) = rx)
    (d0 : decode cc pc = .ok (.new ik, 3)) (d3 : decode cc (pc + 3) = .ok (.dup, 1)) (d4 : decode cc (pc + 4) = .ok (.ldc_w is, 3)) (d7 : decode cc (pc + 7) = .ok (.invokespecial ic, 3)) (d10 : decode cc (pc + 10) = .ok (.athrow, 1))
    (hR : 5 < R.frames) (hR2 : (st.map fun v => v.category).sum + 82 ≤ R.locals) (hR3 : cells + 1 ≤ R.cells) (hR4 : slots + 6 ≤ R.slots) (hc : cells + 1 ≤ mc) (hs : slots + 6 ≤ ms) : Z X w p l e R s m args below meth c cells slots (vx_MQ below Qc (XCX X w rx s.heap.size) args s mc ms (AA X w s.heap.size)) n M pc lv st := by
  intro H locs ls h1 h2 h3
  obtain ⟨f1, f2, f3, f4, f5, f6⟩ := hf
  have hat : ∀ z ∈ vx_atS own ic cls nmsX, z.before args s = true := fun z hz => (f5 z hz).elim (fun q => S.1.2.2.2.2 _ q) (fun q => NW_use q (S.2.2.2.2.2.1 _ q))
  refine vx_throwSW S.1.1 S.1.2.1 hl S.1.2.2.2.1 f1 nmsX_fit (S.1.2.2.2.2 _ f2) (S.1.2.2.2.2 _ f3) (S.sta.2.2.2.2.1 i _ f4).1 hat f6 S.sta.2.2.2.2.2.2.1 S.sta.2.2.2.2.2.2.2.1 h2 (h3.1.trans S.1.2.2.1.symm) d0 d3 d4 d7 d10 (fun x hx => (T0 x hx).elim) hR hR2 hR3 hR4 S.2.2.1 (fun t hA hz hq => ?_) h2.2.2 hc hs
  exact ⟨(k, M), h.symm, ⟨hk.symm, WDP_grow h1 hq⟩, Nat.le_trans h2.1 hz, fun q hq1 hq2 => by rw [hq q (Nat.lt_of_lt_of_le hq1 h2.1)]; exact h2.2.1 q hq1 hq2⟩
theorem KX_of {Qc : Nat → Array Value → State → Outcome → State → Prop} {XC : Nat → String → State → State → Prop} {y : MethodName} {rm : Room} {av : List Value} {lv0 : List (Nat × Value)} (hy : plainName y.cls = true) (hown : y.cls = own) (hav : (lg_sl av).length ≤ n) (hlv : lv_args 0 av = lv0)
    (body : ∀ (p : Program) (e : Env) (s : State) (m : MethodId) (args : Array Value) (below : List Frame) (meth : Method) (c : Code), SB X w p s m args meth c cc n ret own → (∀ x ∈ c.exceptionTable.toList, False) → Z X w p l e rm s m args below meth c 0 0 (vx_MQ below (Qc s.heap.size) (XC s.heap.size) args s mc ms (AA X w s.heap.size)) n M 0 lv0 []) (sz : Nat) : vx_Met l y (wz y cc n ret) rm (va_Pc av (PW X w M sz)) (Qc sz) (XC sz) mc ms (AA X w sz) := by
  refine vx_ofW (cc := cc) (maxL := n) (ret := ret) hy rfl ?_
  intro p e s m args below meth c s₁ B hml T0 hv
  obtain ⟨rfl, hsz, hP, hX, hE⟩ := hv
  subst hsz
  have hts := atoms_spec (ws := wz y cc n ret) B.pre
  have S : SB X w p s m av.toArray meth c cc n ret own := ⟨⟨B.exec, B.bytes, hml, by rw [← hown]; exact findClass_of_methodNamed B.named, fun z hz => hts z (List.mem_cons_of_mem _ hz)⟩, B.returns, B.notSynchronized, hX, hE⟩
  have hl := lv_entry av (n := n) hav
  rw [lg_entry_eq]
  exact body p e s m _ below meth c S T0 s.heap [] _ hP va_S.rf (hlv ▸ hl)
/-- what was thrown goes on to the caller -/
theorem z_xout (S : SB X w p s m args meth c cc n ret own) (T0 : ∀ x ∈ c.exceptionTable.toList, False) {rx : α ⊕ (Nat × Mm)} {u : Nat × Mm} {E : String} {ce : Cell} {q9 : Addr} {H1 : Heap} {locs1 : List Loc} {ls : Array Slot} {rest : List Value} (hrx : .inr u = rx) (hE : E = exName u.1) (hW : WDP X w u.2 H1) (hS : va_S (AA X w s.heap.size) s.heap H1 locs1) (h1 : H1[q9]? = some ce) (h2 : ce.vm = .none) (h3 : s.vm.findClass E = some ce.cls) (hc : cells ≤ mc) (hs : slots ≤ ms) :
    vx_W p l e R s m args below meth c H1 locs1 cells slots (vx_MQ below Qc (XCX X w rx s.heap.size) args s mc ms (AA X w s.heap.size)) (F0 m pc ls rest) q9 := by
  refine vx_out (fun x hx => (T0 x hx).elim) S.2.2.1 h1 h2 h3 (fun t ht hA => ?_) hS.2.2 hc hs
  exact ⟨u, hrx.symm, ⟨hE, by subst ht; exact hW⟩, hS.F ht⟩
theorem CVX.cw {mk sk : Nat} (S : SB X w p s m args meth c cc n ret own) {C : String} {index : Nat} {y : MethodName} {b : ByteArray} {k a : Nat} {r : Option FieldType} {rm : Room} (h : CV own C index y b k a r) (h0 : rm.cells = mk) (h1 : rm.slots = sk) (hR : rm.frames + 1 ≤ R.frames ∧ 8 + (k + 11) + rm.locals ≤ R.locals) : CallW R s args own C index y b k r (wz y b k r) rm mk sk a := by
  obtain ⟨g1, g2, g3, g4, g5, g6, g7, g8, g9⟩ := h
  exact ⟨callB_of a S.1.2.2.2.2 (wz_good g1) rfl h0 h1 (S.1.2.2.2.2 _ g5) (S.1.2.2.2.2 _ g2) ⟨g7, g8, g9⟩ hR, S.1.2.2.2.2 _ g3, S.1.2.2.2.2 _ g4⟩
theorem CSX.cw {mk sk : Nat} (S : SB X w p s m args meth c cc n ret own) {index : Nat} {y : MethodName} {b : ByteArray} {k a : Nat} {r : Option FieldType} {rm : Room} (h : CS own index y b k a r) (h0 : rm.cells = mk) (h1 : rm.slots = sk) (hR : rm.frames + 1 ≤ R.frames ∧ 8 + (k + 11) + rm.locals ≤ R.locals) : CallB R s args own index y b k r (wz y b k r) rm mk sk a ∧ (Cond.static y).before args s = true := by
  obtain ⟨g1, g2, g3, g4, g5, g6, g7⟩ := h
  exact ⟨callB_of a S.1.2.2.2.2 (wz_good g1) rfl h0 h1 (S.1.2.2.2.2 _ g4) (S.1.2.2.2.2 _ g2) ⟨g5, g6, g7⟩ hR, S.1.2.2.2.2 _ g3⟩
theorem z_xVI {rx : α ⊕ (Nat × Mm)} {rz : (Int32 × Mm) ⊕ (Nat × Mm)} {index k a mk sk : Nat} {y : MethodName} {b : ByteArray} {rt : Option FieldType} {rm : Room} {As rest : List Value} (S : SB X w p s m args meth c cc n ret own) {C : String} {i k2 : Nat} {q : vw_C} (hc : CV own C index y b k a rt) (hM : KXI X w l y (wz y b k rt) rm mk sk (.ref (X.2.2 i) :: As) M rz) (hi : OK w i k2) (hk2 : k2 < 30) (hq : vwCl[k2]? = some q) (hqC : q.1 = C) (h0 : rm.cells = mk ∧ rm.slots = sk) (hR : rm.frames + 1 ≤ R.frames ∧ 8 + (k + 11) + rm.locals ≤ R.locals) (hcs : cells + mk ≤ R.cells ∧ slots + sk ≤ R.slots) (hn : As.length = a) (hst : st = As.reverse ++ .ref (X.2.2 i) :: rest) (hW : (rest.map fun v => v.category).sum ≤ 8) (d : decode cc pc = .ok (.invokevirtual index, 3)) (T0 : ∀ x ∈ c.exceptionTable.toList, False) (hmc : cells + mk ≤ mc) (hms : slots + sk ≤ ms) (hx : ∀ u, rz = .inr u → .inr u = rx) (kk : ∀ E, rz = .inl E → Z X w p l e R s m args below meth c (cells + mk) (slots + sk) (vx_MQ below Qc (XCX X w rx s.heap.size) args s mc ms (AA X w s.heap.size)) n E.2 (pc + 3) lv (.int E.1 :: rest)) : Z X w p l e R s m args below meth c cells slots (vx_MQ below Qc (XCX X w rx s.heap.size) args s mc ms (AA X w s.heap.size)) n M pc lv st := by
  intro H locs ls h1 h2 h3
  subst hst
  refine vx_calli (vx_runV (As := As) (rest := rest) S.1 (hM H.size) (CVX.cw S hc h0.1 h0.2 hR) ⟨PW_blind, by have := PW_recv S h1 hi hk2 hq; rw [hqC] at this; exact this, PW_pre S h1 h2⟩ rfl hn h3.1 rfl (lv_room hW) d ⟨hcs.1, hcs.2⟩) h2 (fun q _ h => AA_sub h2.1 q h) (AA_sub h2.1) (fun q _ h => AA_sub h2.1 q h) (fun E ce q9 u t H1 locs1 ht hvm hp hB hz hk hS g1 g2 g3 => ?_) (fun v u t H1 locs1 ht hvm hp hB hz hk hS => ?_)
  · subst ht
    exact z_xout S T0 (hx u hp) hB.1 hB.2 hS g1 g2 g3 hmc hms
  · subst ht
    exact kk (v, u) hp _ locs1 ls hB hS h3
theorem z_xVZ {rx : α ⊕ (Nat × Mm)} {rz : (Bool × Mm) ⊕ (Nat × Mm)} {index k a mk sk : Nat} {y : MethodName} {b : ByteArray} {rt : Option FieldType} {rm : Room} {As rest : List Value} (S : SB X w p s m args meth c cc n ret own) {C : String} {i k2 : Nat} {q : vw_C} (hc : CV own C index y b k a rt) (hM : KXZ X w l y (wz y b k rt) rm mk sk (.ref (X.2.2 i) :: As) M rz) (hi : OK w i k2) (hk2 : k2 < 30) (hq : vwCl[k2]? = some q) (hqC : q.1 = C) (h0 : rm.cells = mk ∧ rm.slots = sk) (hR : rm.frames + 1 ≤ R.frames ∧ 8 + (k + 11) + rm.locals ≤ R.locals) (hcs : cells + mk ≤ R.cells ∧ slots + sk ≤ R.slots) (hn : As.length = a) (hst : st = As.reverse ++ .ref (X.2.2 i) :: rest) (hW : (rest.map fun v => v.category).sum ≤ 8) (d : decode cc pc = .ok (.invokevirtual index, 3)) (T0 : ∀ x ∈ c.exceptionTable.toList, False) (hmc : cells + mk ≤ mc) (hms : slots + sk ≤ ms) (hx : ∀ u, rz = .inr u → .inr u = rx) (kk : ∀ E, rz = .inl E → Z X w p l e R s m args below meth c (cells + mk) (slots + sk) (vx_MQ below Qc (XCX X w rx s.heap.size) args s mc ms (AA X w s.heap.size)) n E.2 (pc + 3) lv (.int (bI E.1) :: rest)) : Z X w p l e R s m args below meth c cells slots (vx_MQ below Qc (XCX X w rx s.heap.size) args s mc ms (AA X w s.heap.size)) n M pc lv st := by
  intro H locs ls h1 h2 h3
  subst hst
  refine vx_calli (vx_runV (As := As) (rest := rest) S.1 (hM H.size) (CVX.cw S hc h0.1 h0.2 hR) ⟨PW_blind, by have := PW_recv S h1 hi hk2 hq; rw [hqC] at this; exact this, PW_pre S h1 h2⟩ rfl hn h3.1 rfl (lv_room hW) d ⟨hcs.1, hcs.2⟩) h2 (fun q _ h => AA_sub h2.1 q h) (AA_sub h2.1) (fun q _ h => AA_sub h2.1 q h) (fun E ce q9 u t H1 locs1 ht hvm hp hB hz hk hS g1 g2 g3 => ?_) (fun v u t H1 locs1 ht hvm hp hB hz hk hS => ?_)
  · subst ht
    exact z_xout S T0 (hx u hp) hB.1 hB.2 hS g1 g2 g3 hmc hms
  · subst ht
    obtain ⟨b9, rfl, hp⟩ := hp
    exact kk (b9, u) hp _ locs1 ls hB hS h3
theorem z_xVV {rx : α ⊕ (Nat × Mm)} {rz : Mm ⊕ (Nat × Mm)} {index k a mk sk : Nat} {y : MethodName} {b : ByteArray} {rt : Option FieldType} {rm : Room} {As rest : List Value} (S : SB X w p s m args meth c cc n ret own) {C : String} {i k2 : Nat} {q : vw_C} (hc : CV own C index y b k a rt) (hM : KXV X w l y (wz y b k rt) rm mk sk (.ref (X.2.2 i) :: As) M rz) (hi : OK w i k2) (hk2 : k2 < 30) (hq : vwCl[k2]? = some q) (hqC : q.1 = C) (h0 : rm.cells = mk ∧ rm.slots = sk) (hR : rm.frames + 1 ≤ R.frames ∧ 8 + (k + 11) + rm.locals ≤ R.locals) (hcs : cells + mk ≤ R.cells ∧ slots + sk ≤ R.slots) (hn : As.length = a) (hst : st = As.reverse ++ .ref (X.2.2 i) :: rest) (hW : (rest.map fun v => v.category).sum ≤ 8) (d : decode cc pc = .ok (.invokevirtual index, 3)) (T0 : ∀ x ∈ c.exceptionTable.toList, False) (hmc : cells + mk ≤ mc) (hms : slots + sk ≤ ms) (hx : ∀ u, rz = .inr u → .inr u = rx) (kk : ∀ E, rz = .inl E → Z X w p l e R s m args below meth c (cells + mk) (slots + sk) (vx_MQ below Qc (XCX X w rx s.heap.size) args s mc ms (AA X w s.heap.size)) n E (pc + 3) lv (rest)) : Z X w p l e R s m args below meth c cells slots (vx_MQ below Qc (XCX X w rx s.heap.size) args s mc ms (AA X w s.heap.size)) n M pc lv st := by
  intro H locs ls h1 h2 h3
  subst hst
  refine vx_callv (vx_runV (As := As) (rest := rest) S.1 (hM H.size) (CVX.cw S hc h0.1 h0.2 hR) ⟨PW_blind, by have := PW_recv S h1 hi hk2 hq; rw [hqC] at this; exact this, PW_pre S h1 h2⟩ rfl hn h3.1 rfl (lv_room hW) d ⟨hcs.1, hcs.2⟩) h2 (fun q _ h => AA_sub h2.1 q h) (AA_sub h2.1) (fun q _ h => AA_sub h2.1 q h) (fun E ce q9 u t H1 locs1 ht hvm hp hB hz hk hS g1 g2 g3 => ?_) (fun u t H1 locs1 ht hvm hp hB hz hk hS => ?_)
  · subst ht
    exact z_xout S T0 (hx u hp) hB.1 hB.2 hS g1 g2 g3 hmc hms
  · subst ht
    exact kk u hp _ locs1 ls hB hS h3
theorem z_xSI {rx : α ⊕ (Nat × Mm)} {rz : (Int32 × Mm) ⊕ (Nat × Mm)} {index k a mk sk : Nat} {y : MethodName} {b : ByteArray} {rt : Option FieldType} {rm : Room} {As rest : List Value} (S : SB X w p s m args meth c cc n ret own) (hc : CS own index y b k a rt) (hM : KXI X w l y (wz y b k rt) rm mk sk As M rz) (h0 : rm.cells = mk ∧ rm.slots = sk) (hR : rm.frames + 1 ≤ R.frames ∧ 8 + (k + 11) + rm.locals ≤ R.locals) (hcs : cells + mk ≤ R.cells ∧ slots + sk ≤ R.slots) (hn : As.length = a) (hst : st = As.reverse ++ rest) (hW : (rest.map fun v => v.category).sum ≤ 8) (d : decode cc pc = .ok (.invokestatic index, 3)) (T0 : ∀ x ∈ c.exceptionTable.toList, False) (hmc : cells + mk ≤ mc) (hms : slots + sk ≤ ms) (hx : ∀ u, rz = .inr u → .inr u = rx) (kk : ∀ E, rz = .inl E → Z X w p l e R s m args below meth c (cells + mk) (slots + sk) (vx_MQ below Qc (XCX X w rx s.heap.size) args s mc ms (AA X w s.heap.size)) n E.2 (pc + 3) lv (.int E.1 :: rest)) : Z X w p l e R s m args below meth c cells slots (vx_MQ below Qc (XCX X w rx s.heap.size) args s mc ms (AA X w s.heap.size)) n M pc lv st := by
  intro H locs ls h1 h2 h3
  subst hst
  refine vx_calli (vx_runS (As := As) (rest := rest) S.1 (hM H.size) (CSX.cw S hc h0.1 h0.2 hR) ⟨PW_blind, PW_pre S h1 h2⟩ rfl hn h3.1 rfl (lv_room hW) d ⟨hcs.1, hcs.2⟩) h2 (fun q _ h => AA_sub h2.1 q h) (AA_sub h2.1) (fun q _ h => AA_sub h2.1 q h) (fun E ce q9 u t H1 locs1 ht hvm hp hB hz hk hS g1 g2 g3 => ?_) (fun v u t H1 locs1 ht hvm hp hB hz hk hS => ?_)
  · subst ht
    exact z_xout S T0 (hx u hp) hB.1 hB.2 hS g1 g2 g3 hmc hms
  · subst ht
    exact kk (v, u) hp _ locs1 ls hB hS h3
theorem z_xSZ {rx : α ⊕ (Nat × Mm)} {rz : (Bool × Mm) ⊕ (Nat × Mm)} {index k a mk sk : Nat} {y : MethodName} {b : ByteArray} {rt : Option FieldType} {rm : Room} {As rest : List Value} (S : SB X w p s m args meth c cc n ret own) (hc : CS own index y b k a rt) (hM : KXZ X w l y (wz y b k rt) rm mk sk As M rz) (h0 : rm.cells = mk ∧ rm.slots = sk) (hR : rm.frames + 1 ≤ R.frames ∧ 8 + (k + 11) + rm.locals ≤ R.locals) (hcs : cells + mk ≤ R.cells ∧ slots + sk ≤ R.slots) (hn : As.length = a) (hst : st = As.reverse ++ rest) (hW : (rest.map fun v => v.category).sum ≤ 8) (d : decode cc pc = .ok (.invokestatic index, 3)) (T0 : ∀ x ∈ c.exceptionTable.toList, False) (hmc : cells + mk ≤ mc) (hms : slots + sk ≤ ms) (hx : ∀ u, rz = .inr u → .inr u = rx) (kk : ∀ E, rz = .inl E → Z X w p l e R s m args below meth c (cells + mk) (slots + sk) (vx_MQ below Qc (XCX X w rx s.heap.size) args s mc ms (AA X w s.heap.size)) n E.2 (pc + 3) lv (.int (bI E.1) :: rest)) : Z X w p l e R s m args below meth c cells slots (vx_MQ below Qc (XCX X w rx s.heap.size) args s mc ms (AA X w s.heap.size)) n M pc lv st := by
  intro H locs ls h1 h2 h3
  subst hst
  refine vx_calli (vx_runS (As := As) (rest := rest) S.1 (hM H.size) (CSX.cw S hc h0.1 h0.2 hR) ⟨PW_blind, PW_pre S h1 h2⟩ rfl hn h3.1 rfl (lv_room hW) d ⟨hcs.1, hcs.2⟩) h2 (fun q _ h => AA_sub h2.1 q h) (AA_sub h2.1) (fun q _ h => AA_sub h2.1 q h) (fun E ce q9 u t H1 locs1 ht hvm hp hB hz hk hS g1 g2 g3 => ?_) (fun v u t H1 locs1 ht hvm hp hB hz hk hS => ?_)
  · subst ht
    exact z_xout S T0 (hx u hp) hB.1 hB.2 hS g1 g2 g3 hmc hms
  · subst ht
    obtain ⟨b9, rfl, hp⟩ := hp
    exact kk (b9, u) hp _ locs1 ls hB hS h3
theorem z_xSV {rx : α ⊕ (Nat × Mm)} {rz : Mm ⊕ (Nat × Mm)} {index k a mk sk : Nat} {y : MethodName} {b : ByteArray} {rt : Option FieldType} {rm : Room} {As rest : List Value} (S : SB X w p s m args meth c cc n ret own) (hc : CS own index y b k a rt) (hM : KXV X w l y (wz y b k rt) rm mk sk As M rz) (h0 : rm.cells = mk ∧ rm.slots = sk) (hR : rm.frames + 1 ≤ R.frames ∧ 8 + (k + 11) + rm.locals ≤ R.locals) (hcs : cells + mk ≤ R.cells ∧ slots + sk ≤ R.slots) (hn : As.length = a) (hst : st = As.reverse ++ rest) (hW : (rest.map fun v => v.category).sum ≤ 8) (d : decode cc pc = .ok (.invokestatic index, 3)) (T0 : ∀ x ∈ c.exceptionTable.toList, False) (hmc : cells + mk ≤ mc) (hms : slots + sk ≤ ms) (hx : ∀ u, rz = .inr u → .inr u = rx) (kk : ∀ E, rz = .inl E → Z X w p l e R s m args below meth c (cells + mk) (slots + sk) (vx_MQ below Qc (XCX X w rx s.heap.size) args s mc ms (AA X w s.heap.size)) n E (pc + 3) lv (rest)) : Z X w p l e R s m args below meth c cells slots (vx_MQ below Qc (XCX X w rx s.heap.size) args s mc ms (AA X w s.heap.size)) n M pc lv st := by
  intro H locs ls h1 h2 h3
  subst hst
  refine vx_callv (vx_runS (As := As) (rest := rest) S.1 (hM H.size) (CSX.cw S hc h0.1 h0.2 hR) ⟨PW_blind, PW_pre S h1 h2⟩ rfl hn h3.1 rfl (lv_room hW) d ⟨hcs.1, hcs.2⟩) h2 (fun q _ h => AA_sub h2.1 q h) (AA_sub h2.1) (fun q _ h => AA_sub h2.1 q h) (fun E ce q9 u t H1 locs1 ht hvm hp hB hz hk hS g1 g2 g3 => ?_) (fun u t H1 locs1 ht hvm hp hB hz hk hS => ?_)
  · subst ht
    exact z_xout S T0 (hx u hp) hB.1 hB.2 hS g1 g2 g3 hmc hms
  · subst ht
    exact kk u hp _ locs1 ls hB hS h3
end ZX
