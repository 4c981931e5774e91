/-! rows: the constants of Word, their table, texts -/
def isW (q : Nat) : Bool := decide (300 ≤ q) && decide (q < 331)
def isT (q : Nat) : Bool := decide (400 ≤ q) && decide (q < 475)
def isB (q : Nat) : Bool := decide (600 ≤ q) && decide (q < 675)
theorem isW_of {q : Nat} (h : isW q = true) : ∃ i, i < 31 ∧ q = 300 + i := by
  simp only [isW, Bool.and_eq_true, decide_eq_true_eq] at h
  exact ⟨q - 300, by omega, by omega⟩
theorem isT_of {q : Nat} (h : isT q = true) : ∃ i, i < 75 ∧ q = 400 + i := by
  simp only [isT, Bool.and_eq_true, decide_eq_true_eq] at h
  exact ⟨q - 400, by omega, by omega⟩
theorem isB_of {q : Nat} (h : isB q = true) : ∃ i, i < 75 ∧ q = 600 + i := by
  simp only [isB, Bool.and_eq_true, decide_eq_true_eq] at h
  exact ⟨q - 600, by omega, by omega⟩
theorem isW_add {i : Nat} (h : i < 31) : isW (300 + i) = true := by simp only [isW, Bool.and_eq_true, decide_eq_true_eq]; omega
theorem isT_add {i : Nat} (h : i < 75) : isT (400 + i) = true := by simp only [isT, Bool.and_eq_true, decide_eq_true_eq]; omega
theorem isT_B {q : Nat} (h : isT q = true) : isB (q + 200) = true := by
  simp only [isT, Bool.and_eq_true, decide_eq_true_eq] at h
  simp only [isB, Bool.and_eq_true, decide_eq_true_eq]; omega
theorem isW_x {x : Int32} (h : ibs x 31 = true) : isW (300 + x.toNatClampNeg) = true := isW_add (by
  have := vp_of_ibs h
  unfold vp_in at this
  omega)
theorem isW_ne {q : Nat} (h : isW q = true) : q ≠ 0 := fun e => by rw [e] at h; revert h; decide
/-- the place of a Word's text -/
def spq (q : Nat) : Nat := 400 + spW.getD (q - 300) 0
def ptq (q : Nat) : Int32 := ptW.getD (q - 300) 0
theorem isT_spq {q : Nat} (h : isW q = true) : isT (spq q) = true := by
  obtain ⟨i, hi, rfl⟩ := isW_of h
  unfold spq
  rw [Nat.add_sub_cancel_left]
  exact (show ∀ j, j < 31 → isT (400 + spW.getD j 0) = true by decide +kernel) i hi
def bq (q : Nat) : List Int32 := StrB.getD (q - 600) []
def i2c (x : Int32) : Int32 := (x.toUInt32 % 65536).toInt32
theorem nar_c {v : Int32} (h : i2c v = v) : narrow .char (.int v) = .int v := by rw [← h]; exact pk_nc v
section ZS
variable {X : Cx} {w : Nat} {p : Program} {l : Launch} {e : Env} {R : Room} {s : State} {m : MethodId} {args : Array Value} {below : List Frame} {meth : Method} {c : Code} {cells slots : Nat} {Q : State → Prop} {n : Nat} {M : Mm} {pc : Nat} {lv lv' : List (Nat × Value)} {st : List Value} {cc : ByteArray} {ret : Option FieldType} {own : String} {α β : Type} {x0 : β}
theorem SB.sta (S : SB X w p s m args meth c cc n ret own) : STAT X (AA X w s.heap.size) s s.heap := S.2.2.2.2.2.2
theorem z_l2i (S : SB X w p s m args meth c cc n ret own) {x : Int64} (d : decode cc pc = .ok (.l2i, 1)) (k : Z X w p l e R s m args below meth c cells slots Q n M (pc + 1) lv (.int x.toInt32 :: st)) : Z X w p l e R s m args below meth c cells slots Q n M pc lv (.long x :: st) := fun H locs ls h1 h2 h3 => lv_l2i S.1.1 S.1.2.1 d rfl (k H locs ls h1 h2 h3)
theorem z_i2c (S : SB X w p s m args meth c cc n ret own) {x : Int32} (d : decode cc pc = .ok (.i2c, 1)) (k : Z X w p l e R s m args below meth c cells slots Q n M (pc + 1) lv (.int (i2c x) :: st)) : Z X w p l e R s m args below meth c cells slots Q n M pc lv (.int x :: st) := fun H locs ls h1 h2 h3 => lv_i2c S.1.1 S.1.2.1 d rfl (k H locs ls h1 h2 h3)
/-- a constant of Word -/
theorem z_getW (S : SB X w p s m args meth c cc n ret own) {index i j : Nat} {nm : String} (hi : i < 31) (hn : nmW.getD i "" = nm) (hj : 300 + i = j) (hl : Cond.fieldLink own index RX8 nm "LBeltHall$Word;" ∈ TB) (d : decode cc pc = .ok (.getstatic index, 3)) (k : Z X w p l e R s m args below meth c cells slots Q n M (pc + 3) lv (.ref (X.2.2 j) :: st)) : Z X w p l e R s m args below meth c cells slots Q n M pc lv st := by
  subst hj
  subst hn
  exact fun H locs ls h1 h2 h3 => va_gets S.1.1 S.1.2.1 ((S.sta.1.1 i hi).1) h2 S.1.2.2.2.1 (S.1.2.2.2.2 _ hl) (fun _ h => h) d (k H locs ls h1 h2 h3)
theorem z_words (S : SB X w p s m args meth c cc n ret own) {index : Nat} {host : String} (hl : Cond.fieldLinkNest own index RX9 "WORDS" "[LBeltHall$Word;" host ∈ NW) (d : decode cc pc = .ok (.getstatic index, 3)) (k : Z X w p l e R s m args below meth c cells slots Q n M (pc + 3) lv (.ref (X.2.2 299) :: st)) : Z X w p l e R s m args below meth c cells slots Q n M pc lv st :=
  fun H locs ls h1 h2 h3 => va_getsN S.1.1 S.1.2.1 S.sta.2.2.1 h2 S.1.2.2.2.1 (va_Nw.use rfl (S.2.2.2.2.2.1 _ hl)) (fun _ h => h) d (k H locs ls h1 h2 h3)
theorem z_wlen (S : SB X w p s m args meth c cc n ret own) (d : decode cc pc = .ok (.arraylength, 1)) (k : Z X w p l e R s m args below meth c cells slots Q n M (pc + 1) lv (.int 31 :: st)) : Z X w p l e R s m args below meth c cells slots Q n M pc lv (.ref (X.2.2 299) :: st) :=
  fun H locs ls h1 h2 h3 => va_tlen S.1.1 S.1.2.1 S.sta.2.2.2.1 h2 rfl d (k H locs ls h1 h2 h3)
theorem va_tr {t N : Nat} {f : Nat → Value} {A : Nat → Prop} {H : Heap} {locs : List Loc} {ls : Array Slot} {rest : List Value} (hexec : p.tables.exec = Jvm.exec) (hb : c.code = cc) {C : String} (hT : va_T (.object C) t N f A s s.heap) (hS : va_S A s.heap H locs) {i : Int32} (hin : vp_in i N) {v : Value} (hv : f i.toNatClampNeg = v) (hdg : decode cc pc = .ok (.aaload, 1))
    (kk : W p l e R s m args below meth c H locs cells slots Q (F0 m (pc + 1) ls (v :: rest))) : W p l e R s m args below meth c H locs cells slots Q (F0 m pc ls (.int i :: .ref t :: rest)) := by
  obtain ⟨cell, h1, h2, h3, h4, h5, h6, h7⟩ := hT
  have hlt : i.toNatClampNeg < N := Nat.not_le.mp fun q => hin (Or.inr q)
  have hin' : ¬ (i < 0 ∨ cell.slots.size ≤ i.toNatClampNeg) := by
    intro q
    rcases q with q | q
    · exact hin (Or.inl q)
    · omega
  exact W.aald (ty := .object C) hexec hb (by rw [hS.2.1 t (Array.getElem?_eq_some_iff.mp h1).1 h7]; exact h1) h2 rfl h3 hin' (by rw [h6 _ hlt, hv]) rfl rfl hdg kk
theorem z_wald {A : Option β} (S : SB X w p s m args meth c cc n ret own) {x : Int32} (he : (if ibs x 31 = true then A else none) = some x0) (d : decode cc pc = .ok (.aaload, 1)) (k : ibs x 31 = true → A = some x0 → Z X w p l e R s m args below meth c cells slots Q n M (pc + 1) lv (.ref (X.2.2 (300 + x.toNatClampNeg)) :: st)) : Z X w p l e R s m args below meth c cells slots Q n M pc lv (.int x :: .ref (X.2.2 299) :: st) := by
  obtain ⟨g1, g2⟩ := grd he
  exact fun H locs ls h1 h2 h3 => va_tr S.1.1 S.1.2.1 S.sta.2.2.2.1 h2 (vp_of_ibs g1) rfl d (k g1 g2 H locs ls h1 h2 h3)
theorem z_spel (S : SB X w p s m args meth c cc n ret own) {index q : Nat} (hq : isW q = true) (hl : Cond.fieldLink own index RX8 "spelling" "Ljava/lang/String;" ∈ TB) (d : decode cc pc = .ok (.getfield index, 3)) (k : Z X w p l e R s m args below meth c cells slots Q n M (pc + 3) lv (.ref (X.2.2 (spq q)) :: st)) : Z X w p l e R s m args below meth c cells slots Q n M pc lv (.ref (X.2.2 q) :: st) := by
  obtain ⟨i, hi, rfl⟩ := isW_of hq
  unfold spq at k
  rw [Nat.add_sub_cancel_left] at k
  exact fun H locs ls h1 h2 h3 => va_getX (ad := fun i => X.2.2 (300 + i)) S.1.1 S.1.2.1 S.sta.2.1 hi h2 S.1.2.2.2.1 (S.1.2.2.2.2 _ hl) (fun _ h => h) d (k H locs ls h1 h2 h3)
theorem z_part (S : SB X w p s m args meth c cc n ret own) {index q : Nat} (hq : isW q = true) (hl : Cond.fieldLink own index RX8 "part" "I" ∈ TB) (d : decode cc pc = .ok (.getfield index, 3)) (k : Z X w p l e R s m args below meth c cells slots Q n M (pc + 3) lv (.int (ptq q) :: st)) : Z X w p l e R s m args below meth c cells slots Q n M pc lv (.ref (X.2.2 q) :: st) := by
  obtain ⟨i, hi, rfl⟩ := isW_of hq
  unfold ptq at k
  rw [Nat.add_sub_cancel_left] at k
  exact fun H locs ls h1 h2 h3 => va_getE (ad := fun i => X.2.2 (300 + i)) S.1.1 S.1.2.1 S.sta.1 hi h2 S.1.2.2.2.1 List.mem_cons_self (S.1.2.2.2.2 _ hl) (fun _ h => h) d (k H locs ls h1 h2 h3)
theorem W_inj (S : SB X w p s m args meth c cc n ret own) {a b : Nat} (ha : isW a = true) (hb : isW b = true) : X.2.2 a = X.2.2 b ↔ a = b := by
  obtain ⟨i, hi, rfl⟩ := isW_of ha
  obtain ⟨j, hj, rfl⟩ := isW_of hb
  refine ⟨fun h => ?_, fun h => by rw [h]⟩
  rw [S.sta.1.2 i j hi hj h]
theorem z_acmp_eq {A B : β} (S : SB X w p s m args meth c cc n ret own) {x y : Nat} {off : Int} {tgt : Nat} (hx : isW x = true) (hy : isW y = true) (he : (if x = y then A else B) = x0) (d : decode cc pc = .ok (.if_acmp .eq off, 3)) (ht : (pc : Int) + off = (tgt : Int)) (kt : A = x0 → Z X w p l e R s m args below meth c cells slots Q n M tgt lv st) (kf : B = x0 → Z X w p l e R s m args below meth c cells slots Q n M (pc + 3) lv st) : Z X w p l e R s m args below meth c cells slots Q n M pc lv (.ref (X.2.2 y) :: .ref (X.2.2 x) :: st) :=
  fun H locs ls h1 h2 h3 => lv_acmp_eq (rx := some (X.2.2 x)) (ry := some (X.2.2 y)) S.1.1 S.1.2.1 d ht (fun q => kt (ite_y he ((W_inj S hx hy).mp (Option.some.inj q))) H locs ls h1 h2 h3) (fun q => kf (ite_n he (fun h => q (by rw [h]))) H locs ls h1 h2 h3)
theorem z_acmp_ne {A B : β} (S : SB X w p s m args meth c cc n ret own) {x y : Nat} {off : Int} {tgt : Nat} (hx : isW x = true) (hy : isW y = true) (he : (if x = y then A else B) = x0) (d : decode cc pc = .ok (.if_acmp .ne off, 3)) (ht : (pc : Int) + off = (tgt : Int)) (kt : B = x0 → Z X w p l e R s m args below meth c cells slots Q n M tgt lv st) (kf : A = x0 → Z X w p l e R s m args below meth c cells slots Q n M (pc + 3) lv st) : Z X w p l e R s m args below meth c cells slots Q n M pc lv (.ref (X.2.2 y) :: .ref (X.2.2 x) :: st) :=
  fun H locs ls h1 h2 h3 => lv_acmp_ne (rx := some (X.2.2 x)) (ry := some (X.2.2 y)) S.1.1 S.1.2.1 d ht (fun q => kt (ite_n he (fun h => q (by rw [h]))) H locs ls h1 h2 h3) (fun q => kf (ite_y he ((W_inj S hx hy).mp (Option.some.inj q))) H locs ls h1 h2 h3)
/-- a field that holds a Word -/
theorem z_getWd {A : Nat → Option β} (S : SB X w p s m args meth c cc n ret own) {C : String} {T : u_T} {N k index b i : Nat} (hf : FOK own C T N k index b) (ht : ty k b = 1) (hi : OK w i k) (he : (some (gR M i b)).bind (fun q => if isW q = true then A q else none) = some x0) (d : decode cc pc = .ok (.getfield index, 3)) (kk : ∀ q, isW q = true → A q = some x0 → Z X w p l e R s m args below meth c cells slots Q n M (pc + 3) lv (.ref (X.2.2 q) :: st)) : Z X w p l e R s m args below meth c cells slots Q n M pc lv (.ref (X.2.2 i) :: st) := by
  obtain ⟨g1, g2⟩ := grd (bns he)
  refine z_getR S hf ht hi d ?_
  rw [rf_some (fun e => by rw [e] at g1; revert g1; decide)]
  exact kk _ g1 g2
theorem z_putN {fm : Mm → Option β} (S : SB X w p s m args meth c cc n ret own) {C C1 : String} {T : u_T} {N k index b i v : Nat} {ty0 : Nat → FieldType} (hf : FOP own C T N k index b ty0 (.object C1)) (ht : ty k b = 1) (hi : OK w i k) (he : (some (sR M i b v)).bind fm = some x0) (d : decode cc pc = .ok (.putfield index, 3)) (kk : ∀ M1, fm M1 = some x0 → Z X w p l e R s m args below meth c cells slots Q n M1 (pc + 3) lv st) : Z X w p l e R s m args below meth c cells slots Q n M pc lv (va_rf (rfo X v) :: .ref (X.2.2 i) :: st) := by
  intro H locs ls h1 h2 h3
  obtain ⟨⟨q1, q2, q3, q4, q5, q6⟩, r1, r2, r3, r4⟩ := hf
  have hn : narrow (.object C1) (va_rf (rfo X v)) = va_rf (rfo X v) ∧ fits (.object C1) (va_rf (rfo X v)) = true := by cases rfo X v <;> exact ⟨rfl, rfl⟩
  refine va_put S.1.1 S.1.2.1 S.1.2.2.2.2 q5 ty0 r1 r2 S.1.2.2.2.1 S.K h1 S.D h2 (i - wlo w) (fs := flds X M k i) (by rw [OK.rg hi, cel_o hi.2.2 q4]) q1 b q2 (S.1.2.2.2.2 _ q6) (fun _ h => h) r3 r4 hn.1 hn.2 (by rw [flds_len]; omega) d (fun H1 l1 p1 p2 p3 => ?_)
  rw [flds_sR (by omega) ht, wd_set hi.1 hi.2.1 (cel_o hi.2.2 q4) (fun j hj => cel_sR hj)] at p1
  exact kk _ (bns he) H1 l1 ls p1 p3 h3
theorem z_aldN {A : Option β} (S : SB X w p s m args meth c cc n ret own) {i N : Nat} {x : Int32} (hi : OK w i 33) (hN : ln i = N) (he : (if ibs x N = true then A else none) = some x0) (d : decode cc pc = .ok (.aaload, 1)) (kk : A = some x0 → Z X w p l e R s m args below meth c cells slots Q n M (pc + 1) lv (va_rf (rfo X (gE M i x)) :: st)) : Z X w p l e R s m args below meth c cells slots Q n M pc lv (.int x :: .ref (X.2.2 i) :: st) := by
  obtain ⟨g1, g2⟩ := grd he
  exact fun H locs ls h1 h2 h3 => va_aldq S.1.1 S.1.2.1 S.K h1 (i - wlo w) 3 (by rw [OK.rg hi, cel_w hi.2.2]) rfl (by rw [hN]; exact vp_of_ibs g1) d (kk g2 H locs ls h1 h2 h3)
theorem z_ifnull {A B : β} (S : SB X w p s m args meth c cc n ret own) {q : Nat} {off : Int} {tgt : Nat} (he : (if q = 0 then A else B) = x0) (d : decode cc pc = .ok (.ifnull off, 3)) (ht : (pc : Int) + off = (tgt : Int)) (kt : A = x0 → Z X w p l e R s m args below meth c cells slots Q n M tgt lv st) (kf : B = x0 → Z X w p l e R s m args below meth c cells slots Q n M (pc + 3) lv st) : Z X w p l e R s m args below meth c cells slots Q n M pc lv (va_rf (rfo X q) :: st) := by
  intro H locs ls h1 h2 h3
  by_cases hq : q = 0
  · rw [rfo, if_pos hq]
    exact lv_ifnullN S.1.1 S.1.2.1 d ht (kt (ite_y he hq) H locs ls h1 h2 h3)
  · rw [rf_some hq]
    exact lv_ifnull S.1.1 S.1.2.1 d (kf (ite_n he hq) H locs ls h1 h2 h3)
theorem W_any (S : SB X w p s m args meth c cc n ret own) {q : Nat} {H : Heap} {locs : List Loc} (hq : isW q = true) (hS : va_S (AA X w s.heap.size) s.heap H locs) : va_Any RX8 s H (X.2.2 q) := by
  obtain ⟨i, hi, rfl⟩ := isW_of hq
  obtain ⟨cell, h1, h2, h3, h4⟩ := (S.sta.1.1 i hi).2.1.kept hS.2.1
  have hlt : cell.cls < s.vm.classes.size := by
    have h5 := h3
    unfold Vm.findClass at h5
    obtain ⟨h6, _⟩ := Array.findIdx?_eq_some_iff_getElem.mp h5
    exact h6
  exact ⟨cell, h1, h2, ⟨_, Array.getElem?_eq_getElem hlt⟩, fun comp hc => by
    rw [h3] at hc
    cases hc
    show s.vm.assignableAux (255 + 1) _ _ = true
    rw [Vm.assignableAux]
    simp only [beq_self_eq_true, Bool.true_or]⟩
theorem T_at (S : SB X w p s m args meth c cc n ret own) {i : Nat} (hi : i < 75) : ∃ q, StrL[i]? = some q ∧ STR1 X i q.1 q.2.1 q.2.2 (StrB.getD i []) (AA X w s.heap.size) s s.heap := by
  have hl : i < StrL.length := by
    rw [show StrL.length = 75 from rfl]
    exact hi
  exact ⟨_, List.getElem?_eq_getElem hl, S.sta.2.2.2.2.1 i _ (List.getElem?_eq_getElem hl)⟩
theorem z_tval (S : SB X w p s m args meth c cc n ret own) {index q : Nat} (hq : isT q = true) (hl : Cond.fieldLink own index "java/lang/String" "value" "[B" ∈ TB) (d : decode cc pc = .ok (.getfield index, 3)) (k : Z X w p l e R s m args below meth c cells slots Q n M (pc + 3) lv (.ref (X.2.2 (q + 200)) :: st)) : Z X w p l e R s m args below meth c cells slots Q n M pc lv (.ref (X.2.2 q) :: st) := by
  obtain ⟨i, hi, rfl⟩ := isT_of hq
  obtain ⟨r, -, h⟩ := T_at S hi
  rw [show 400 + i + 200 = 600 + i by omega] at k
  exact fun H locs ls h1 h2 h3 => vk_getf S.1.1 S.1.2.1 h.2.2.2.1 h2 S.1.2.2.2.1 (S.1.2.2.2.2 _ hl) (fun _ h => h) d (k H locs ls h1 h2 h3)
theorem z_tcod (S : SB X w p s m args meth c cc n ret own) {index q : Nat} (hq : isT q = true) (hl : Cond.fieldLink own index "java/lang/String" "coder" "B" ∈ TB) (d : decode cc pc = .ok (.getfield index, 3)) (k : Z X w p l e R s m args below meth c cells slots Q n M (pc + 3) lv (.int 0 :: st)) : Z X w p l e R s m args below meth c cells slots Q n M pc lv (.ref (X.2.2 q) :: st) := by
  obtain ⟨i, hi, rfl⟩ := isT_of hq
  obtain ⟨r, -, h⟩ := T_at S hi
  exact fun H locs ls h1 h2 h3 => vk_getf S.1.1 S.1.2.1 h.2.2.1 h2 S.1.2.2.2.1 (S.1.2.2.2.2 _ hl) (fun _ h => h) d (k H locs ls h1 h2 h3)
theorem z_comp (S : SB X w p s m args meth c cc n ret own) {index : Nat} (hl : Cond.fieldLink own index "java/lang/String" "COMPACT_STRINGS" "Z" ∈ TB) (d : decode cc pc = .ok (.getstatic index, 3)) (k : Z X w p l e R s m args below meth c cells slots Q n M (pc + 3) lv (.int 1 :: st)) : Z X w p l e R s m args below meth c cells slots Q n M pc lv st :=
  fun H locs ls h1 h2 h3 => va_gets S.1.1 S.1.2.1 S.sta.2.2.2.2.2.1 h2 S.1.2.2.2.1 (S.1.2.2.2.2 _ hl) (fun _ h => h) d (k H locs ls h1 h2 h3)
theorem bq_at {i : Nat} : bq (600 + i) = StrB.getD i [] := by unfold bq; rw [Nat.add_sub_cancel_left]
theorem z_blen (S : SB X w p s m args meth c cc n ret own) {q : Nat} (hq : isB q = true) (d : decode cc pc = .ok (.arraylength, 1)) (k : Z X w p l e R s m args below meth c cells slots Q n M (pc + 1) lv (.int (Int32.ofNat (bq q).length) :: st)) : Z X w p l e R s m args below meth c cells slots Q n M pc lv (.ref (X.2.2 q) :: st) := by
  obtain ⟨i, hi, rfl⟩ := isB_of hq
  obtain ⟨r, -, h⟩ := T_at S hi
  rw [bq_at] at k
  exact fun H locs ls h1 h2 h3 => va_tlen S.1.1 S.1.2.1 h.2.2.2.2 h2 rfl d (k H locs ls h1 h2 h3)
theorem z_bald {A : Option β} (S : SB X w p s m args meth c cc n ret own) {q : Nat} {x : Int32} (hq : isB q = true) (he : (if ibs x (bq q).length = true then A else none) = some x0) (d : decode cc pc = .ok (.baload, 1)) (k : A = some x0 → Z X w p l e R s m args below meth c cells slots Q n M (pc + 1) lv (.int ((bq q).getD x.toNatClampNeg 0) :: st)) : Z X w p l e R s m args below meth c cells slots Q n M pc lv (.int x :: .ref (X.2.2 q) :: st) := by
  obtain ⟨g1, g2⟩ := grd he
  obtain ⟨i, hi, rfl⟩ := isB_of hq
  obtain ⟨r, -, h⟩ := T_at S hi
  rw [bq_at] at k g1
  exact fun H locs ls h1 h2 h3 => va_tb S.1.1 S.1.2.1 h.2.2.2.2 h2 (vp_of_ibs g1) rfl d (k g2 H locs ls h1 h2 h3)
theorem z_ldcS (S : SB X w p s m args meth c cc n ret own) {index i j : Nat} {tx : String} (hi : StrL[i]? = some (own, index, tx)) (hj : 400 + i = j) (d : decode cc pc = .ok (.ldc index, 2)) (k : Z X w p l e R s m args below meth c cells slots Q n M (pc + 2) lv (.ref (X.2.2 j) :: st)) : Z X w p l e R s m args below meth c cells slots Q n M pc lv st := by
  subst hj
  have h := S.sta.2.2.2.2.1 i _ hi
  exact fun H locs ls h1 h2 h3 => va_ldcS S.1.1 S.1.2.1 S.1.2.2.2.1 h.1 d (k H locs ls h1 h2 h3)
theorem T_recv (S : SB X w p s m args meth c cc n ret own) {q : Nat} {H : Heap} {locs : List Loc} (hq : isT q = true) (hS : va_S (AA X w s.heap.size) s.heap H locs) : ∃ cell : Cell, H[X.2.2 q]? = some cell ∧ cell.vm.isStatics = false ∧ s.vm.findClass "java/lang/String" = some cell.cls := by
  obtain ⟨i, hi, rfl⟩ := isT_of hq
  obtain ⟨r, -, h⟩ := T_at S hi
  obtain ⟨cell, h1, h2, h3, h4⟩ := h.2.1.kept hS.2.1
  exact ⟨cell, h1, h2, h3⟩
/-- a call on a text, on a Word -/
theorem z_cTI (S : SB X w p s m args meth c cc n ret own) {index k a : Nat} {y : MethodName} {b : ByteArray} {rt : Option FieldType} {rm : Room} {As rest : List Value} {N : Mm} {r : Int32} {i : Nat} (hc : CV own "java/lang/String" index y b k a rt) (hM : KI X w l y (wz y b k rt) rm (.ref (X.2.2 i) :: As) M r N) (hi : isT i = true) (h0 : rm.cells = 0 ∧ rm.slots = 0) (hR : rm.frames + 1 ≤ R.frames ∧ 8 + (k + 11) + rm.locals ≤ R.locals) (hcs : cells ≤ R.cells ∧ slots ≤ R.slots) (hn : As.length = a) (hst : st = As.reverse ++ .ref (X.2.2 i) :: rest) (hW : (rest.map fun v => v.category).sum ≤ 8) (d : decode cc pc = .ok (.invokevirtual index, 3)) (kk : Z X w p l e R s m args below meth c cells slots Q n N (pc + 3) lv (.int r :: rest)) : Z X w p l e R s m args below meth c cells slots Q n M pc lv st := by
  intro H locs ls h1 h2 h3
  subst hst
  refine va_calli (va_runV (As := As) (rest := rest) S.1 (hM H.size) (CV.cw S hc h0.1 h0.2 hR) ⟨PW_blind, T_recv S hi h2, PW_pre S h1 h2⟩ rfl hn h3.1 rfl (lv_room hW) d ⟨hcs.1, hcs.2⟩) h2 (fun q _ h => AA_sub h2.1 q h) (AA_sub h2.1) (fun v u t H1 locs1 ht hvm hp hB hz hk hS => ?_)
  obtain ⟨rfl, rfl⟩ := hp
  exact kk H1 locs1 ls (by subst ht; exact hB) hS h3
/-- a Word into a row of Words -/
theorem z_wast {fm : Mm → Option β} (S : SB X w p s m args meth c cc n ret own) {i N v : Nat} {x : Int32} (hi : OK w i 33) (hN : ln i = N) (hv : isW v = true) (he : (if ibs x N = true then (some (sE M i x v)).bind fm else none) = some x0) (d : decode cc pc = .ok (.aastore, 1)) (kk : ∀ M1, fm M1 = some x0 → Z X w p l e R s m args below meth c cells slots Q n M1 (pc + 1) lv st) : Z X w p l e R s m args below meth c cells slots Q n M pc lv (.ref (X.2.2 v) :: .int x :: .ref (X.2.2 i) :: st) := by
  intro H locs ls h1 h2 h3
  obtain ⟨g1, g2⟩ := grd he
  have hv0 : v ≠ 0 := fun e0 => by rw [e0] at hv; revert hv; decide
  refine va_astqM S.1.1 S.1.2.1 S.K h1 S.D h2 (i - wlo w) 3 (by rw [OK.rg hi, cel_w hi.2.2]) rfl (W_any S hv h2) (by rw [hN]; exact vp_of_ibs g1) d (fun H1 l1 p1 p2 p3 => ?_)
  rw [wd_set hi.1 hi.2.1 (M1 := sE M i x v) (by rw [cel_w hi.2.2, sR_cell hv0]) (fun j hj => cel_sR hj)] at p1
  exact kk _ (bns g2) H1 l1 ls p1 p3 h3
theorem z_aret (S : SB X w p s m args meth c cc n (some (.object RX8)) own) {v r : Nat} {N : Mm} (h : v = r ∧ M = N) (d : decode cc pc = .ok (.areturn, 1)) : Z X w p l e R s m args below meth c cells slots (MQ below (QR X w r N s.heap.size) args s cells slots (AA X w s.heap.size)) n M pc lv [.ref (X.2.2 v)] := by
  intro H locs ls h1 h2 h3
  have hlocks := S.2.2.1
  obtain ⟨rfl, rfl⟩ := h
  exact W.aret S.1.1 S.1.2.1 S.2.1 (Or.inl ⟨_, rfl⟩) (Or.inr ⟨_, rfl⟩) (fun t ht hW => ⟨⟨M, _, rfl, rfl, rfl, (by subst ht; exact h1)⟩, h2.F ht⟩) h2.2.2 d
theorem z_zretv (S : SB X w p s m args meth c cc n (some .boolean) own) {v : Int32} {b r : Bool} {N : Mm} (hv : v = bI b) (h : b = r ∧ M = N) (d : decode cc pc = .ok (.ireturn, 1)) : Z X w p l e R s m args below meth c cells slots (MQ below (QI X w (bI r) N s.heap.size) args s cells slots (AA X w s.heap.size)) n M pc lv [.int v] := by
  subst hv
  exact z_zret S h d
theorem z_nret (S : SB X w p s m args meth c cc n ret own) {v r : Int32} {N : Mm} {t : FieldType} (hr : ret = some t) (hn : narrow t (.int v) = .int v) (h : v = r ∧ M = N) (d : decode cc pc = .ok (.ireturn, 1)) : Z X w p l e R s m args below meth c cells slots (MQ below (QI X w r N s.heap.size) args s cells slots (AA X w s.heap.size)) n M pc lv [.int v] := by
  intro H locs ls h1 h2 h3
  have hlocks := S.2.2.1
  exact W.zret S.1.1 S.1.2.1 (S.2.1.trans hr) hn (fun t ht hW => ⟨⟨v, M, rfl, h, (by subst ht; exact h1)⟩, h2.F ht⟩) h2.2.2 d
end ZS
