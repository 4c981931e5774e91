/-! the law from its entry to its loop (the kit's skeleton's heads first) -/
def R_law : String := "BeltHallLaw"
def lw_P (b : Addr) (xs : List Int32) (args : Array Value) (s : State) : Prop := args = #[.ref b] ∧ s.IntsAt b xs ∧ xs.length ≤ 3072 ∧ (Jvm.Cond.and given_1 narrow_1).before args s = true
def lw_Q (_ : Array Value) (s : State) (o : Outcome) (t : State) : Prop := o = .returned (some (.int 1)) ∧ Framed s o t [] 601024 7293034
def lw_Z (below : List Frame) (a : Array Value) (s : State) : State → Prop := fun t => ∃ o, t.status = .running ∧ Ended t below o ∧ lw_Q a s o t
/-- the law's own end, with 1 on the stack, nothing written that was there before, its room as the claim has it -/
theorem lw_ret {p : Program} {l : Launch} {e : Env} {s : State} {m : MethodId} {below : List Frame} {meth : Method} {c : Code} {b : Nat} (hx : p.tables.exec = Jvm.exec) (hb : c.code = code) (hr : meth.sig.returnType = ret) (hlocks : meth.locks = false) {pc : Nat} {H : Heap} {ls : Array Slot} (hdg : decode code pc = .ok (.ireturn, 1)) : W p l e room_1 s m #[Value.ref b] below meth c H [] 601024 7293034 (lw_Z below #[Value.ref b] s) (F0 m pc ls [.int 1]) := by
  intro T hT X
  obtain ⟨fs, hret, hrun, hended, hW, hframe⟩ := X.leave (v := some (.int 1)) (hlocks := hlocks) (fun h => by rw [hr] at h; cases h)
  have hmeth' : T.vm.method? m = some meth := X.method'
  refine ⟨T.setFrames fs, ?_, .returned (some (.int 1)), hrun, hended, rfl, ⟨_, rfl⟩, hW, hframe⟩
  jvm_step X.here [X.here.top, hx, hb, hdg, hmeth', hr, ret, narrow_b1]
  (try refine ⟨rfl, ?_⟩); (try refine ⟨rfl, ?_⟩)
  first | (intro acts; rw [hret _ acts rfl rfl rfl]) | rw [hret _ _ rfl rfl rfl]
  exact Steps.refl _
/-- what holds at the law's entry: the machine, the code, the tables' words (any of lw_tbl by 'hts w (by decide +kernel)'), the script of L ints xs at the cell b, what the Statement gives of the start (any of its parts by flat_of_before) -/
def lw_At (p : Program) (s : State) (m : MethodId) (meth : Method) (c : Code) (b L : Nat) (xs : Nat → Int32) : Prop :=
  p.tables.exec = Jvm.exec ∧ c.code = code ∧ meth.sig.returnType = ret ∧ c.maxLocals = 7 ∧ s.vm.findClass R_law = some m.cls ∧ (∀ w ∈ lw_tbl, w.before #[Value.ref b] s = true) ∧ va_X b L xs s s.heap ∧ b < s.heap.size ∧ meth.locks = false ∧ (Jvm.Cond.and given_1 narrow_1).before #[Value.ref b] s = true
theorem nf_RL_8 : NEW RL RX9 TX9 17 8 8 tyX9 [.null, .int 0, .int 0, .null, .null, .null, .null, .null, .null, .int 0, .null, .int 0, .null, .null, .null, .null, .null] := ⟨iw_RX9, tyX9_ok, TB_of (mt_1 (i := 29) (by decide +kernel)) (by decide +kernel), TB_of (mt_1 (i := 30) (by decide +kernel)) (by decide +kernel), TB_of (mt_1 (i := 1) (by decide +kernel)) (by decide +kernel), rfl, fun j hj => by
  exact (show ∀ j, j < 17 → defaultValue (tyX9 j) = vp_V [.null, .int 0, .int 0, .null, .null, .null, .null, .null, .null, .int 0, .null, .int 0, .null, .null, .null, .null, .null] j by decide +kernel) j hj⟩
theorem nf_RL_108 : NEW RL RX10 TX10 28 9 108 tyX10 [.int 0, .null, .null, .int 0, .null, .null, .int 0, .null, .int 0, .int 0, .int 0, .int 0, .int 0, .int 0, .null, .int 0, .int 0, .int 0, .null, .null, .null, .null, .null, .null, .null, .null, .null, .null] := ⟨iw_RX10, tyX10_ok, TB_of (mt_6 (i := 115) (by decide +kernel)) (by decide +kernel), TB_of (mt_6 (i := 116) (by decide +kernel)) (by decide +kernel), TB_of (mt_1 (i := 12) (by decide +kernel)) (by decide +kernel), rfl, fun j hj => by
  exact (show ∀ j, j < 28 → defaultValue (tyX10 j) = vp_V [.int 0, .null, .null, .int 0, .null, .null, .int 0, .null, .int 0, .int 0, .int 0, .int 0, .int 0, .int 0, .null, .int 0, .int 0, .int 0, .null, .null, .null, .null, .null, .null, .null, .null, .null, .null] j by decide +kernel) j hj⟩
theorem ci_RL_107 : CI RL 107 yX9_init cX9_init 2 := ⟨TB_of (mt_1 (i := 33) (by decide +kernel)) (by decide +kernel), TB_of (mt_1 (i := 31) (by decide +kernel)) (by decide +kernel), TB_of (mt_1 (i := 32) (by decide +kernel)) (by decide +kernel), TB_of (mt_1 (i := 1) (by decide +kernel)) (by decide +kernel), rfl, by decide, by decide, by decide +kernel⟩
theorem ci_RL_110 : CI RL 110 yX10_init cX10_init 1 := ⟨TB_of (mt_6 (i := 119) (by decide +kernel)) (by decide +kernel), TB_of (mt_6 (i := 117) (by decide +kernel)) (by decide +kernel), TB_of (mt_6 (i := 118) (by decide +kernel)) (by decide +kernel), TB_of (mt_1 (i := 12) (by decide +kernel)) (by decide +kernel), rfl, by decide, by decide, by decide +kernel⟩
set_option maxRecDepth 100000 in
set_option maxHeartbeats 8000000 in
theorem whole_from {p : Program} {e : Env} {s : State} {m : MethodId} {below : List Frame} {meth : Method} {c : Code} (l : Launch) (hflags : l.flags = flags0) {b L : Nat} {xs : Nat → Int32} (hL : L ≤ 3072) (C0 : lw_At p s m meth c b L xs) (R : Nat → Mm → Mm → Prop) (h0 : R 0 M0c M0r) (hmono : ∀ n Mc Mr, R n Mc Mr → R (n + 1) Mc Mr) (hstep : ∀ n Mc Mr, n < 512 → R n Mc Mr → ∀ k, k < 42 → ∀ x1 x2 x3 x4 x5, ∃ Nc Nr, stepOK k x1 x2 x3 x4 x5 Mc Mr Nc Nr ∧ R (n + 1) Nc Nr) : W p l e room_1 s m #[Value.ref b] below meth c s.heap [] 0 0 (lw_Z below #[Value.ref b] s) (entryFrame m ([Value.ref b] : List Value).toArray 7) := by
  obtain ⟨hexec, hcode, hret, hml, hown, hts, hX, hbl, hlk, hg⟩ := C0
  have hl0 : l.stackTraces = false := by
    unfold Launch.stackTraces
    rw [hflags]
    decide
  obtain ⟨X0, hE, hNC⟩ := ev_start hts hg
  have S : SC X0 (fun q => s.heap.size ≤ q) p s m #[Value.ref b] c cL_law_ 7 RL := ⟨⟨hexec, hcode, hml, hown, fun z hz => hts z (List.mem_filter.mp hz).1⟩, fun q h => h, hE⟩
  have K : Y X0 (fun q => s.heap.size ≤ q) p l e room_1 s m #[Value.ref b] below meth c 0 0 (lw_Z below #[Value.ref b] s) 7 [] 0 [(0, .ref b)] [] := by
    refine y_new S nf_RL_8 (Nat.le_of_ble_eq_true rfl) (Nat.le_of_ble_eq_true rfl) dL_law__0 (fun q1 => ?_)
    refine y_dup S dL_law__3 ?_
    refine y_cI S ci_RL_107 (KC_X9_init (X := X0) (l := l)) ⟨rfl, rfl⟩ ⟨Nat.le_of_ble_eq_true rfl, Nat.le_of_ble_eq_true rfl⟩ ⟨Nat.le_of_ble_eq_true rfl, Nat.le_of_ble_eq_true rfl⟩ (Nat.le_of_ble_eq_true rfl) dL_law__4 (fun v => ?_)
    refine y_astore_n (lv' := [(0, .ref b), (1, .ref q1)]) S [1, 0] dL_law__7 rfl (by decide) rfl ?_
    refine y_new S nf_RL_108 (Nat.le_of_ble_eq_true rfl) (Nat.le_of_ble_eq_true rfl) dL_law__8 (fun q2 => ?_)
    refine y_dup S dL_law__11 ?_
    refine y_cI S ci_RL_110 (KC_X10_init (X := X0) (l := l)) ⟨rfl, rfl⟩ ⟨Nat.le_of_ble_eq_true rfl, Nat.le_of_ble_eq_true rfl⟩ ⟨Nat.le_of_ble_eq_true rfl, Nat.le_of_ble_eq_true rfl⟩ (Nat.le_of_ble_eq_true rfl) dL_law__12 (fun u => ?_)
    refine y_astore_n (lv' := [(0, .ref b), (1, .ref q1), (2, .ref q2)]) S [1, 2, 0] dL_law__15 rfl (by decide) rfl ?_
    refine y_iconst (v := 1) S dL_law__16 (by decide) ?_
    refine y_newa S 1 ac_long rfl rfl (N' := 1) (xa := .inr (.inl (fun _ => 0))) (fun cA => rfl) (by decide) (by decide) (by decide) (Nat.le_of_ble_eq_true rfl) (Nat.le_of_ble_eq_true rfl) dL_law__17 (fun q3 => ?_)
    refine y_astore_n (lv' := [(0, .ref b), (1, .ref q1), (2, .ref q2), (3, .ref q3)]) S [1, 2, 3, 0] dL_law__19 rfl (by decide) rfl ?_
    refine y_iconst (v := 0) S dL_law__20 (by decide) ?_
    refine y_istore (lv' := [(0, .ref b), (1, .ref q1), (2, .ref q2), (3, .ref q3), (4, .int 0)]) S [1, 2, 3, 4, 0] dL_law__21 (by decide) rfl ?_
    intro H locs ls h1 h2 h3 h4
    have g1 : va_P X0.1 vwCl (wsA X0 q1 v q2 u q3) H := h1
    have g2 : va_D (fun q => s.heap.size ≤ q) (wsA X0 q1 v q2 u q3) := h2
    have hAA : ∀ q, AA (XA X0 q1 v q2 u q3) 3 s.heap.size q → s.heap.size ≤ q := fun q h => h.elim (fun ⟨i, i1, i2, i3⟩ => by
      simp [wlo, wln] at i1 i2
      rw [i3]
      exact w_A g2 i1 i2) id
    have hEV : EV (XA X0 q1 v q2 u q3) (fun q => s.heap.size ≤ q) s s.heap := ⟨hE.1.1, hE.1.2.1, w_STAT hE.1.2.2⟩
    have S3 : SB (XA X0 q1 v q2 u q3) 3 p s m #[Value.ref b] meth c cL_law_ 7 ret RL := ⟨S.1, hret, hlk, w_CXi g2, hEV.narrow hAA⟩
    have lp := law_loop (X := XA X0 q1 v q2 u q3) (e := e) (below := below) (Q := lw_Z below #[Value.ref b] s) (c0 := 125) (s0 := 18182) hl0 S3 hNC hX hbl (fun h => absurd hbl (Nat.not_lt.mpr (hAA _ h))) hL (Nat.le_of_ble_eq_true rfl) (Nat.le_of_ble_eq_true rfl) R hmono hstep (fun n M hn => by
      refine z_iconst (v := 1) S3 dL_law__2397 (by decide) ?_
      intro H2 locs2 ls2 k1 k2 k3
      exact va_forget (fun q hq => hAA _ (k2.2.2 q hq)) (W.widen (k := 601024) (n := 7293034) (by omega) (by omega) (lw_ret hexec hcode hret hlk dL_law__2398))) 513 0 M0c M0r (fun _ => 0) (by omega) (Or.inr rfl) h0
    refine lp H locs ls (w_all g1) ⟨h3.1, fun q a b => h3.2.1 q a (fun h => b (Or.inr h)), fun z hz => Or.inr (h3.2.2 z hz)⟩ ?_
    rw [show nI (6 * 0) = 0 from nI_0]
    exact h4
  have hl := lv_entry [Value.ref b] (n := 7) (Nat.le_of_ble_eq_true rfl)
  rw [lg_entry_eq]
  exact K s.heap [] _ (fun k q hk => nomatch hk) ⟨(fun i j z1 z2 e1 => nomatch e1), (fun k q hk => nomatch hk)⟩ va_S.rf hl
