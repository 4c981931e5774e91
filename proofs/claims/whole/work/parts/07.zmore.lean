/-! more rows: writes that name the new memory; tables; objects -/
def FU : Nat := 10000
section ZN
variable {X : Cx} {w : Nat} {p : Program} {l : Launch} {e : Env} {R : Room} {s : State} {m : MethodId} {args : Array Value} {below : List Frame} {meth : Method} {c : Code} {cells slots : Nat} {Q : State → Prop} {n : Nat} {M : Mm} {pc : Nat} {lv lv' : List (Nat × Value)} {st : List Value} {cc : ByteArray} {ret : Option FieldType} {own : String} {α β : Type} {f : α → Option β} {x0 : β}
theorem bns {a : α} (h : (some a).bind f = some x0) : f a = some x0 := h
theorem z_putIb {fm : Mm → Option β} (S : SB X w p s m args meth c cc n ret own) {C : String} {T : u_T} {N k index b i : Nat} {ty0 : Nat → FieldType} {t1 : FieldType} {v : Int32} (hf : FOP own C T N k index b ty0 t1) (ht : ty k b = 0) (hi : OK w i k) (hn : narrow t1 (.int v) = .int v) (hfit : fits t1 (.int v) = true) (he : (some (sI M i b v)).bind fm = some x0) (d : decode cc pc = .ok (.putfield index, 3)) (kk : ∀ M1, fm M1 = some x0 → Z X w p l e R s m args below meth c cells slots Q n M1 (pc + 3) lv st) : Z X w p l e R s m args below meth c cells slots Q n M pc lv (.int v :: .ref (X.2.2 i) :: st) := z_putI S hf ht hi hn hfit d (kk _ he)
theorem z_putRb {fm : Mm → Option β} (S : SB X w p s m args meth c cc n ret own) {C C1 : String} {T : u_T} {N k index b i v : Nat} {ty0 : Nat → FieldType} (hf : FOP own C T N k index b ty0 (.object C1)) (ht : ty k b = 1) (hi : OK w i k) (hv : v ≠ 0) (he : (some (sR M i b v)).bind fm = some x0) (d : decode cc pc = .ok (.putfield index, 3)) (kk : ∀ M1, fm M1 = some x0 → Z X w p l e R s m args below meth c cells slots Q n M1 (pc + 3) lv st) : Z X w p l e R s m args below meth c cells slots Q n M pc lv (.ref (X.2.2 v) :: .ref (X.2.2 i) :: st) := z_putR S hf ht hi hv d (kk _ he)
theorem z_getGb (S : SB X w p s m args meth c cc n ret own) {C : String} {T : u_T} {N k k2 index b i : Nat} {A : Nat → Option β} (hf : FOK own C T N k index b) (ht : ty k b = 1) (hi : OK w i k) (h0 : kd 0 ≠ k2) (he : (some (gR M i b)).bind (fun q => if kd q = k2 then A q else none) = some x0) (d : decode cc pc = .ok (.getfield index, 3)) (kk : ∀ q, kd q = k2 → A q = some x0 → Z X w p l e R s m args below meth c cells slots Q n M (pc + 3) lv (.ref (X.2.2 q) :: st)) : Z X w p l e R s m args below meth c cells slots Q n M pc lv (.ref (X.2.2 i) :: st) := z_getG S hf ht hi h0 he d (kk _)
theorem z_iastb {fm : Mm → Option β} (S : SB X w p s m args meth c cc n ret own) {i N : Nat} {x v : Int32} (hi : OK w i 30) (hN : ln i = N) (he : (if ibs x N = true then (some (sA M i x v)).bind fm else none) = some x0) (d : decode cc pc = .ok (.iastore, 1)) (kk : ∀ M1, fm M1 = some x0 → Z X w p l e R s m args below meth c cells slots Q n M1 (pc + 1) lv st) : Z X w p l e R s m args below meth c cells slots Q n M pc lv (.int v :: .int x :: .ref (X.2.2 i) :: st) := z_iast S hi hN he d (fun h => kk _ h)
theorem z_lastb {fm : Mm → Option β} (S : SB X w p s m args meth c cc n ret own) {i N : Nat} {x : Int32} {v : Int64} (hi : OK w i 31) (hN : ln i = N) (he : (if ibs x N = true then (some (sL M i x v)).bind fm else none) = some x0) (d : decode cc pc = .ok (.lastore, 1)) (kk : ∀ M1, fm M1 = some x0 → Z X w p l e R s m args below meth c cells slots Q n M1 (pc + 1) lv st) : Z X w p l e R s m args below meth c cells slots Q n M pc lv (.long v :: .int x :: .ref (X.2.2 i) :: st) := z_last S hi hN he d (fun h => kk _ h)
theorem z_zastb {fm : Mm → Option β} (S : SB X w p s m args meth c cc n ret own) {i N : Nat} {x v : Int32} (hi : OK w i 41) (hN : ln i = N) (he : (if ibs x N = true then (some (sA M i x (vp_nar .boolean v))).bind fm else none) = some x0) (d : decode cc pc = .ok (.bastore, 1)) (kk : ∀ M1, fm M1 = some x0 → Z X w p l e R s m args below meth c cells slots Q n M1 (pc + 1) lv st) : Z X w p l e R s m args below meth c cells slots Q n M pc lv (.int v :: .int x :: .ref (X.2.2 i) :: st) := z_zast S hi hN he d (fun h => kk _ h)
theorem z_copyb {fm : Mm → Option β} (S : SB X w p s m args meth c cc n ret own) {index i j N : Nat} {k : Int32} (hc : CA own index) (hi : OK w i 30) (hj : OK w j 30) (hNi : ln i = N) (hNj : ln j = N) (hk : ¬ k < 0) (hkN : k.toNatClampNeg = N) (hf : 1 ≤ R.frames) (hR : (st.map fun v => v.category).sum + (nativeFrameWords "java/lang/System" "arraycopy" 5 + 11) ≤ R.locals) (he : (some (cpA M i j N)).bind fm = some x0) (d : decode cc pc = .ok (.invokestatic index, 3)) (kk : ∀ M1, fm M1 = some x0 → Z X w p l e R s m args below meth c cells slots Q n M1 (pc + 3) lv st) : Z X w p l e R s m args below meth c cells slots Q n M pc lv (.int k :: .int 0 :: .ref (X.2.2 j) :: .int 0 :: .ref (X.2.2 i) :: st) := z_copy S hc hi hj hNi hNj hk hkN hf hR d (kk _ he)
/-- the rows of Museums -/
theorem z_mald {A : Nat → Option β} (S : SB X w p s m args meth c cc n ret own) {i N : Nat} {x : Int32} (hi : OK w i 32) (hN : ln i = N) (he : (if ibs x N = true then (some (gE M i x)).bind (fun q => if kd q = 4 then A q else none) else none) = some x0) (d : decode cc pc = .ok (.aaload, 1)) (kk : ∀ q, kd q = 4 → A q = some x0 → Z X w p l e R s m args below meth c cells slots Q n M (pc + 1) lv (.ref (X.2.2 q) :: st)) : Z X w p l e R s m args below meth c cells slots Q n M pc lv (.int x :: .ref (X.2.2 i) :: st) := by
  intro H locs ls h1 h2 h3
  obtain ⟨g1, g2⟩ := grd he
  obtain ⟨g3, g4⟩ := grd (bns g2)
  refine va_aldq S.1.1 S.1.2.1 S.K h1 (i - wlo w) 2 (by rw [OK.rg hi, cel_m hi.2.2]) rfl (by rw [hN]; exact vp_of_ibs g1) d ?_
  rw [rf_some (fun e => by rw [show M.2.2 i x.toNatClampNeg = gE M i x from rfl] at e; rw [e] at g3; revert g3; decide)]
  exact kk _ g3 g4 H locs ls h1 h2 h3
theorem sR_cell {i v : Nat} {x : Int32} (h : v ≠ 0) : (fun j => rfo X ((sE M i x v).2.2 i j)) = va_up (fun j => rfo X (M.2.2 i j)) x.toNatClampNeg (some (X.2.2 v)) := by
  funext b
  by_cases hb : b = x.toNatClampNeg
  · subst hb
    simp [sE, sR, up2, va_up, rfo, h]
  · simp [sE, sR, up2, va_up, rfo, hb]
theorem z_mast {fm : Mm → Option β} (S : SB X w p s m args meth c cc n ret own) {i N v : Nat} {x : Int32} (hi : OK w i 32) (hN : ln i = N) (hv : OK w v 4) (he : (if ibs x N = true then (some (sE M i x v)).bind fm else none) = some x0) (d : decode cc pc = .ok (.aastore, 1)) (kk : ∀ M1, fm M1 = some x0 → Z X w p l e R s m args below meth c cells slots Q n M1 (pc + 1) lv st) : Z X w p l e R s m args below meth c cells slots Q n M pc lv (.ref (X.2.2 v) :: .int x :: .ref (X.2.2 i) :: st) := by
  intro H locs ls h1 h2 h3
  obtain ⟨g1, g2⟩ := grd he
  have hv0 : v ≠ 0 := by
    intro e0
    have := hv.2.2
    rw [e0] at this
    revert this
    decide
  refine va_astq S.1.1 S.1.2.1 S.K h1 S.D h2 (i - wlo w) 2 (v - wlo w) 4 (r := (RX4, TX4, 10)) (by rw [OK.rg hi, cel_m hi.2.2]) rfl (by rw [OK.rg hv, cel_o hv.2.2 (by decide)]) rfl (by rw [hN]; exact vp_of_ibs g1) d (fun H1 l1 p1 p2 p3 => ?_)
  rw [wd_set hi.1 hi.2.1 (M1 := sE M i x v) (by rw [cel_m hi.2.2, sR_cell hv0]) (fun j hj => cel_sR hj)] at p1
  exact kk _ (bns g2) H1 l1 ls p1 p3 h3
theorem z_zret0 (S : SB X w p s m args meth c cc n (some .boolean) own) {r : Bool} {N : Mm} (h : false = r ∧ M = N) (d : decode cc pc = .ok (.ireturn, 1)) : Z X w p l e R s m args below meth c cells slots (MQ below (QI X w (bI r) N s.heap.size) args s cells slots (AA X w s.heap.size)) n M pc lv [.int 0] := z_zret (v := false) S h d
theorem z_zret1 (S : SB X w p s m args meth c cc n (some .boolean) own) {r : Bool} {N : Mm} (h : true = r ∧ M = N) (d : decode cc pc = .ok (.ireturn, 1)) : Z X w p l e R s m args below meth c cells slots (MQ below (QI X w (bI r) N s.heap.size) args s cells slots (AA X w s.heap.size)) n M pc lv [.int 1] := z_zret (v := true) S h d
theorem z_sw {A B x : β} {c : Prop} [Decidable c] (h : (if c then A else B) = x) : (c ∧ A = x) ∨ (¬ c ∧ B = x) := by
  by_cases hc : c
  · exact Or.inl ⟨hc, ite_y h hc⟩
  · exact Or.inr ⟨hc, ite_n h hc⟩
theorem z_tabIn (S : SB X w p s m args meth c cc n ret own) {dflt lo hi : Int} {offs : Array Int} {len : Nat} {x v : Int32} {off : Int} {tgt : Nat} (d : decode cc pc = .ok (.tableswitch dflt lo hi offs, len)) (hx : x = v) (h1 : ¬ v.toInt < lo) (h2 : ¬ hi < v.toInt) (ho : offs[(v.toInt - lo).toNat]? = some off) (ht : (pc : Int) + off = (tgt : Int)) (k : Z X w p l e R s m args below meth c cells slots Q n M tgt lv st) : Z X w p l e R s m args below meth c cells slots Q n M pc lv (.int x :: st) := by
  subst hx
  exact fun H locs ls q1 q2 q3 => lv_tableIn S.1.1 S.1.2.1 d h1 h2 ho ht (k H locs ls q1 q2 q3)
theorem z_tabOut (S : SB X w p s m args meth c cc n ret own) {dflt lo hi : Int} {offs : Array Int} {len : Nat} {x : Int32} {tgt : Nat} (d : decode cc pc = .ok (.tableswitch dflt lo hi offs, len)) (h : x.toInt < lo ∨ hi < x.toInt) (ht : (pc : Int) + dflt = (tgt : Int)) (k : Z X w p l e R s m args below meth c cells slots Q n M tgt lv st) : Z X w p l e R s m args below meth c cells slots Q n M pc lv (.int x :: st) :=
  fun H locs ls q1 q2 q3 => lv_tableOut S.1.1 S.1.2.1 d h ht (k H locs ls q1 q2 q3)
end ZN
theorem OK_ne {w i k : Nat} (h : OK w i k) : i ≠ 0 := by
  intro e
  have := h.1
  rw [e] at this
  unfold wlo at this
  split at this <;> omega
def okc (w i k : Nat) : Bool := decide (wlo w ≤ i) && decide (i < wlo w + wln w) && decide (kd i = k)
theorem ok_of {w i k : Nat} (h : okc w i k = true) : OK w i k := by
  simp only [okc, Bool.and_eq_true, decide_eq_true_eq] at h
  exact ⟨h.1.1, h.1.2, h.2⟩
theorem kd_lt {i k : Nat} (h : kd i = k) (hk : k < 99) : i < 126 := by
  rcases Nat.lt_or_ge i 126 with q | q
  · exact q
  · have e : kds[i]? = none := List.getElem?_eq_none (show kds.length ≤ i from q)
    rw [kd, List.getD_eq_getElem?_getD, e, Option.getD_none] at h
    omega
theorem okk4 {i : Nat} (h : kd i = 4) : OK 0 i 4 := by
  have q := kd_lt h (by decide)
  exact ok_of ((show ∀ j, j < 126 → kd j = 4 → okc 0 j 4 = true by decide +kernel) i q h)
theorem okk2 {i : Nat} (h : kd i = 2) : OK 0 i 2 := by
  have q := kd_lt h (by decide)
  exact ok_of ((show ∀ j, j < 126 → kd j = 2 → okc 0 j 2 = true by decide +kernel) i q h)
/-- rooms of methods that call one another, by depth -/
def rmr (a b c d : Nat) : Room := rmz (a + d) (b + c * d)
theorem rr_o {a b c d f lo k : Nat} (h1 : Nat.ble (f + 1) a = true) (h2 : Nat.ble (8 + (k + 11) + lo) b = true) : (rmz f lo).frames + 1 ≤ (rmr a b c d).frames ∧ 8 + (k + 11) + (rmz f lo).locals ≤ (rmr a b c d).locals :=
  ⟨Nat.le_trans (Nat.le_of_ble_eq_true h1) (Nat.le_add_right a d), Nat.le_trans (Nat.le_of_ble_eq_true h2) (Nat.le_add_right b (c * d))⟩
theorem rr_r {a b c d k : Nat} (h : Nat.ble (k + 19) c = true) : (rmr a b c d).frames + 1 ≤ (rmr a b c (d + 1)).frames ∧ 8 + (k + 11) + (rmr a b c d).locals ≤ (rmr a b c (d + 1)).locals := by
  have h1 := Nat.le_of_ble_eq_true h
  refine ⟨Nat.le_refl _, ?_⟩
  show 8 + (k + 11) + (b + c * d) ≤ b + c * (d + 1)
  rw [Nat.mul_add]
  omega
theorem sw_out3 {x : Int32} (h0 : ¬ x = 0) (h1 : ¬ x = 1) (h2 : ¬ x = 2) : x.toInt < 0 ∨ (2 : Int) < x.toInt := by
  have e0 : x.toInt ≠ 0 := fun e => h0 (Int32.toInt_inj.mp (e.trans (by decide)))
  have e1 : x.toInt ≠ 1 := fun e => h1 (Int32.toInt_inj.mp (e.trans (by decide)))
  have e2 : x.toInt ≠ 2 := fun e => h2 (Int32.toInt_inj.mp (e.trans (by decide)))
  omega
theorem sw_out12 {x : Int32} (h0 : ¬ x = 0) (h1 : ¬ x = 1) (h2 : ¬ x = 2) (h3 : ¬ x = 3) (h4 : ¬ x = 4) (h5 : ¬ x = 5) (h6 : ¬ x = 6) (h7 : ¬ x = 7) (h8 : ¬ x = 8) (h9 : ¬ x = 9) (h10 : ¬ x = 10) (h11 : ¬ x = 11) : x.toInt < 0 ∨ (11 : Int) < x.toInt := by
  have e0 : x.toInt ≠ 0 := fun e => h0 (Int32.toInt_inj.mp (e.trans (by decide)))
  have e1 : x.toInt ≠ 1 := fun e => h1 (Int32.toInt_inj.mp (e.trans (by decide)))
  have e2 : x.toInt ≠ 2 := fun e => h2 (Int32.toInt_inj.mp (e.trans (by decide)))
  have e3 : x.toInt ≠ 3 := fun e => h3 (Int32.toInt_inj.mp (e.trans (by decide)))
  have e4 : x.toInt ≠ 4 := fun e => h4 (Int32.toInt_inj.mp (e.trans (by decide)))
  have e5 : x.toInt ≠ 5 := fun e => h5 (Int32.toInt_inj.mp (e.trans (by decide)))
  have e6 : x.toInt ≠ 6 := fun e => h6 (Int32.toInt_inj.mp (e.trans (by decide)))
  have e7 : x.toInt ≠ 7 := fun e => h7 (Int32.toInt_inj.mp (e.trans (by decide)))
  have e8 : x.toInt ≠ 8 := fun e => h8 (Int32.toInt_inj.mp (e.trans (by decide)))
  have e9 : x.toInt ≠ 9 := fun e => h9 (Int32.toInt_inj.mp (e.trans (by decide)))
  have e10 : x.toInt ≠ 10 := fun e => h10 (Int32.toInt_inj.mp (e.trans (by decide)))
  have e11 : x.toInt ≠ 11 := fun e => h11 (Int32.toInt_inj.mp (e.trans (by decide)))
  omega
