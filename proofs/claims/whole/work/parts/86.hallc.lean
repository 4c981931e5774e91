/-! a text of the hall: what it says; the class reads it -/
section HALLC
variable {M N : Mm} {e p r i j k n q B l : Nat} {tx : Nat → Int32} {x y v b lo hi : Int32} {w : Nat} {m m2 : Nat → Int32}
def TT (tx : Nat → Int32) (e : Nat) : Prop := e ≤ 400 ∧ ∀ i, i < e → isN (tx i) 255
def nm (tx : Nat → Int32) (e : Nat) (lo hi : Int32) (i : Nat) : Bool := decide (wdT tx e i = 328) && (decide (¬ vl tx e i < lo) && decide (¬ hi < vl tx e i))
theorem nm_iff : (nm tx e lo hi i = true) ↔ wdT tx e i = 328 ∧ ¬ vl tx e i < lo ∧ ¬ hi < vl tx e i := by
  unfold nm
  rw [Bool.and_eq_true, Bool.and_eq_true]
  exact ⟨fun h => ⟨of_decide_eq_true h.1, of_decide_eq_true h.2.1, of_decide_eq_true h.2.2⟩, fun h => ⟨decide_eq_true h.1, decide_eq_true h.2.1, decide_eq_true h.2.2⟩⟩
theorem vl_num (ht : TT tx e) (h : wdT tx e i = 328) : ∃ z, vl tx e i = nI z ∧ z ≤ 1000 := by
  have he := ht.1
  have hb := bg_le (tx := tx) he i
  rcases wd_cases (tx := tx) he (bg tx e i) with ⟨c1, c2, c3, c4, c5⟩ | ⟨c1, c2, c3, c4, c5, c6⟩ | ⟨c1, c2, c3, c4, c5, c6, c7⟩ | ⟨c1, c2, c3, c4, c5, c6, c7⟩
  · rw [show wdT tx e i = wdP tx e (bg tx e i) from rfl, c2] at h; omega
  · rw [show wdT tx e i = wdP tx e (bg tx e i) from rfl, c4] at h; exact absurd h (spl_n328 c3).1
  · refine ⟨_, c5, ?_⟩
    obtain ⟨r1, r2, r3⟩ := dg_run (tx := tx) he (bg tx e i)
    have rle := run_le dgQ_e (dg_run (tx := tx) he (bg tx e i)) hb
    have hn := nuN_lt (tx := tx) (p := bg tx e i) (r := dgE tx e (bg tx e i)) (fun k h1 h2 => by
      have h3 := r2 k h1 h2
      simp only [dgQ, Bool.and_eq_true] at h3
      have := dg_nat (ht.2 k (by omega)) h3.2
      omega)
    unfold nuV
    by_cases c : dgE tx e (bg tx e i) - bg tx e i ≤ 3
    · rw [if_pos c]
      have h1 := hn (dgE tx e (bg tx e i) - bg tx e i) (by omega)
      have h2 : 10 ^ (dgE tx e (bg tx e i) - bg tx e i) ≤ 10 ^ 3 := Nat.pow_le_pow_right (by decide) c
      have h2 : 10 ^ (dgE tx e (bg tx e i) - bg tx e i) ≤ 1000 := h2
      omega
    · rw [if_neg c]; exact Nat.le_refl _
  · rw [show wdT tx e i = wdP tx e (bg tx e i) from rfl, c4] at h; exact absurd h (spl_n328 (by omega)).1
theorem nm_val (ht : TT tx e) (hl : l < 2 ^ 31) (hh : n < 2 ^ 31) (h : nm tx e (nI l) (nI n) i = true) : ∃ z, vl tx e i = nI z ∧ l ≤ z ∧ z ≤ n := by
  obtain ⟨h1, h2, h3⟩ := nm_iff.mp h
  obtain ⟨z, z1, z2⟩ := vl_num ht h1
  rw [z1, nI_ltI (by omega) hl] at h2
  rw [z1, nI_ltI hh (by omega)] at h3
  exact ⟨z, z1, by omega, by omega⟩
theorem nm_ne1 (h : nm tx e (nI l) hi i = true) (hl : l < 2 ^ 31) : vl tx e i ≠ -1 := fun e1 => by
  have h2 := (nm_iff.mp h).2.1
  rw [e1, Int32.lt_iff_toInt_lt, nI_toInt hl] at h2
  have : ((-1 : Int32)).toInt = -1 := rfl
  omega
/-- a word, and a number behind it: the first that is wrong -/
def named (tx : Nat → Int32) (e : Nat) (w : Nat) (lo hi : Int32) (i : Nat) : Option Nat := if wdT tx e i = w then (if nm tx e lo hi (i + 1) = true then none else some (i + 1)) else some i
theorem namedC (he : e ≤ 400) (h : RdS M 98 tx e i) (hl : l < 2 ^ 31) : Tr (f_X1_readNamed M w (nI l) hi) (fun r => Fr [97, 98] M r.2 ∧ match named tx e w (nI l) hi i with | none => r.1 = true ∧ RdS r.2 98 tx e (i + 2) ∧ r.2.1 97 1 = vl tx e (i + 1) ∧ r.2.1 98 8 = M.1 98 8 | some b => r.1 = false ∧ r.2.1 98 8 = nI (bg tx e b)) := by
  have hr : rOK 98 := Or.inl rfl
  unfold f_X1_readNamed named
  rcases skipC hr he h w with ⟨c1, x, x1, x2, x3, x4, x5⟩ | ⟨c1, x1⟩
  · rw [if_pos c1, x1, Option.bind_some, x2, if_pos rfl, numWC x3, Option.bind_some, Option.bind_some]
    by_cases c2 : nm tx e (nI l) hi (i + 1) = true
    · have hv := nm_ne1 c2 hl
      rw [if_pos (nm_iff.mp c2), if_pos c2]
      have hR : RdS (sI x.2 97 1 (vl tx e (i + 1))) 98 tx e (i + 1) := x3.fr (fun j h1 h2 => ⟨sI_fn (by omega), rfl⟩)
      rw [show gI (sI x.2 97 1 (vl tx e (i + 1))) 97 1 = vl tx e (i + 1) from by show (sI x.2 97 1 _).1 97 1 = _; rw [sI_at, if_pos ⟨rfl, rfl⟩], if_neg hv]
      refine Tr.bind (nextC hr he hR) (fun N hN => ?_)
      obtain ⟨n1, n2, n3⟩ := hN
      refine Tr.some ⟨((x4.mono (by simp)).tr (Fr.sI (by simp))).tr (n2.mono (by simp)), rfl, n1, ?_, ?_⟩
      · rw [(n2 97 (by simp)).1, sI_at, if_pos ⟨rfl, rfl⟩]
      · show N.1 98 8 = _
        rw [n3, sI_fn (by decide), x5]
    · rw [if_neg (fun hh => c2 (nm_iff.mpr hh)), if_neg c2]
      have hR : RdS (sI x.2 97 1 (-1)) 98 tx e (i + 1) := x3.fr (fun j h1 h2 => ⟨sI_fn (by omega), rfl⟩)
      rw [show gI (sI x.2 97 1 (-1)) 97 1 = -1 from by show (sI x.2 97 1 _).1 97 1 = _; rw [sI_at, if_pos ⟨rfl, rfl⟩], if_pos rfl, refuseC hR, Option.bind_some]
      refine Tr.some ⟨((x4.mono (by simp)).tr (Fr.sI (by simp))).tr (Fr.sI (by simp)), rfl, ?_⟩
      show (sI _ 98 8 _).1 98 8 = _
      rw [sI_at, if_pos ⟨rfl, rfl⟩]
  · rw [if_neg c1, x1, Option.bind_some, if_neg (show ¬ false = true by decide), refuseC h, Option.bind_some]
    refine Tr.some ⟨Fr.sI (by simp), rfl, ?_⟩
    show (sI _ 98 8 _).1 98 8 = _
    rw [sI_at, if_pos ⟨rfl, rfl⟩]
/-! the rows that a text changes -/
theorem MR.us {s k : Nat} (hk : kd q = 4) (h : MR M q m) (hs : (s = 3 ∧ k = 3) ∨ (s = 4 ∧ k = 4) ∨ (s = 5 ∧ k = 0) ∨ (s = 6 ∧ k = 5)) : MR (sI M q s x) q (uk m k x) := by
  obtain ⟨h1, h2, h3, h4, h5, h6, h7, h8, h9, h10⟩ := h
  have eh : hN (uk m k x) = hN m := by unfold hN; rw [uk_ne (by omega)]
  refine ⟨fun c hc => ?_, fun c hc => ?_, ?_, ?_, ?_, ?_, ?_, ?_, ?_, fun a c ha hc => ?_⟩
  · rw [sI_fn (by omega), uk_ne (by omega)]; exact h1 c hc
  · rw [sI_fn (by omega), uk_ne (by omega)]; exact h2 c hc
  · rw [sI_at]
    by_cases c : s = 3
    · have : k = 3 := by omega
      subst c; subst this
      rw [if_pos ⟨rfl, rfl⟩, uk_eq]
    · rw [if_neg (by omega), uk_ne (by omega)]; exact h3
  · rw [sI_at]
    by_cases c : s = 4
    · have : k = 4 := by omega
      subst c; subst this
      rw [if_pos ⟨rfl, rfl⟩, uk_eq]
    · rw [if_neg (by omega), uk_ne (by omega)]; exact h4
  · rw [sI_at]
    by_cases c : s = 5
    · have : k = 0 := by omega
      subst c; subst this
      rw [if_pos ⟨rfl, rfl⟩, uk_eq]
    · rw [if_neg (by omega), uk_ne (by omega)]; exact h5
  · rw [sI_at]
    by_cases c : s = 6
    · have : k = 5 := by omega
      subst c; subst this
      rw [if_pos ⟨rfl, rfl⟩, uk_eq]
    · rw [if_neg (by omega), uk_ne (by omega)]; exact h6
  · rw [sI_at, if_neg (by omega), uk_ne (by omega)]; exact h7
  · rw [sI_at, if_neg (by omega), uk_ne (by omega)]; exact h8
  · rw [sI_at, if_neg (by omega), uk_ne (by omega)]; exact h9
  · rw [eh] at ha ⊢
    rw [sI_fn (by omega), uk_ne (by omega)]; exact h10 a c ha hc
def addT (m : Nat → Int32) (c h r : Int32) : Nat → Int32 := uk (uk (uk (uk (uk (uk m 3 (nI (tN m + 1))) (12 + 5 * tN m + 0) c) (12 + 5 * tN m + 1) h) (12 + 5 * tN m + 2) r) (12 + 5 * tN m + 3) 1) (12 + 5 * tN m + 4) 0
def addV (m : Nat → Int32) (a c g w k : Int32) : Nat → Int32 := uk (uk (uk (uk (uk (uk m 4 (nI (vN m + 1))) (57 + 5 * vN m + 0) a) (57 + 5 * vN m + 1) c) (57 + 5 * vN m + 2) g) (57 + 5 * vN m + 3) w) (57 + 5 * vN m + 4) k
theorem MR.setT {t c : Nat} (hk : kd q = 4) (h : MR M q m) (ht : t < 9) (hc : c < 5) : MR (f_X4_setThing M q (nI t) (nI c) x) q (uk m (12 + 5 * t + c) x) := by
  rw [setThingC hk ht hc, show 12 + 5 * t + c = 12 + (t * 5 + c) by omega]
  exact h.ukT hk (by omega)
theorem MR.setV {t c : Nat} (hk : kd q = 4) (h : MR M q m) (ht : t < 10) (hc : c < 5) : MR (f_X4_setVisitor M q (nI t) (nI c) x) q (uk m (57 + 5 * t + c) x) := by
  rw [setVisitorC hk ht hc, show 57 + 5 * t + c = 57 + (t * 5 + c) by omega]
  exact h.ukV hk (by omega)
theorem frT {t c : Nat} (hk : kd q = 4) (ht : t < 9) (hc : c < 5) : Fr [q + 1] M (f_X4_setThing M q (nI t) (nI c) x) := by
  rw [setThingC hk ht hc]; exact Fr.sI (by simp)
theorem frV {t c : Nat} (hk : kd q = 4) (ht : t < 10) (hc : c < 5) : Fr [q + 2] M (f_X4_setVisitor M q (nI t) (nI c) x) := by
  rw [setVisitorC hk ht hc]; exact Fr.sI (by simp)
theorem addThC (hk : kd q = 4) (h : MR M q m) (hI : Inv m B) (hT : tN m < 9) : Tr (f_X4_addThing M q x y v) (fun N => MR N q (addT m x y v) ∧ Fr [q, q + 1] M N) := by
  have g3 : gI M q 3 = nI (tN m) := h.2.2.1.trans hI.t.1
  unfold f_X4_addThing
  rw [g3, l_1, nI_add, Option.bind_some, Option.bind_some, Option.bind_some, Option.bind_some, Option.bind_some, Option.bind_some]
  refine Tr.some ⟨?_, ?_⟩
  · exact MR.setT (c := 4) hk (MR.setT (c := 3) hk (MR.setT (c := 2) hk (MR.setT (c := 1) hk (MR.setT (c := 0) hk (h.us hk (Or.inl ⟨rfl, rfl⟩)) hT (by decide)) hT (by decide)) hT (by decide)) hT (by decide)) hT (by decide)
  · exact (((((Fr.sI (by simp)).tr ((frT (c := 0) hk hT (by decide)).mono (by simp))).tr ((frT (c := 1) hk hT (by decide)).mono (by simp))).tr ((frT (c := 2) hk hT (by decide)).mono (by simp))).tr ((frT (c := 3) hk hT (by decide)).mono (by simp))).tr ((frT (c := 4) hk hT (by decide)).mono (by simp))
/-- a line of things -/
def hTh (tx : Nat → Int32) (e : Nat) (m : Nat → Int32) (i : Nat) : Nat ⊕ ((Nat → Int32) × Nat) :=
  if wdT tx e (i + 1) = 301 then (if nm tx e 0 19 (i + 2) = true then (if (atCell m (vl tx e (i + 2))).isSome = true then .inl (i + 2) else match named tx e 302 0 99 (i + 3) with | some b => .inl b | none => match named tx e 303 1 3 (i + 5) with | some b => .inl b | none => .inr (addT m (vl tx e (i + 2)) (vl tx e (i + 4)) (vl tx e (i + 6)), i + 7)) else .inl (i + 2)) else .inl (i + 1)
def hVi (tx : Nat → Int32) (e : Nat) (m : Nat → Int32) (i : Nat) : Nat ⊕ ((Nat → Int32) × Nat) := match named tx e 316 0 99 (i + 1) with | some b => .inl b | none => match named tx e 317 0 9 (i + 3) with | some b => .inl b | none => match named tx e 318 0 9 (i + 5) with | some b => .inl b | none => match named tx e 305 0 100 (i + 7) with | some b => .inl b | none => if wdT tx e (i + 9) = 306 then (if wdT tx e (i + 10) = 329 ∧ vl tx e (i + 10) ≠ -1 then .inr (addV m (vl tx e (i + 2)) (vl tx e (i + 4)) (vl tx e (i + 6)) (vl tx e (i + 8)) (vl tx e (i + 10)), i + 11) else .inl (i + 10)) else .inr (addV m (vl tx e (i + 2)) (vl tx e (i + 4)) (vl tx e (i + 6)) (vl tx e (i + 8)) 0, i + 9)
def hL (tx : Nat → Int32) (e : Nat) (m : Nat → Int32) (i : Nat) : Nat ⊕ ((Nat → Int32) × Nat) :=
  if wdT tx e i = 300 ∧ tN m < 9 then hTh tx e m i else if wdT tx e i = 304 ∧ vN m < 10 then hVi tx e m i else
  if wdT tx e i = 307 then (match named tx e 307 1 9 i with | some b => .inl b | none => .inr (uk m 5 (vl tx e (i + 1)), i + 2)) else
  if wdT tx e i = 308 then (match named tx e 308 0 (nI (tN m) - 1) i with | some b => .inl b | none => .inr (uk m (12 + 5 * (vl tx e (i + 1)).toNatClampNeg + 3) 0, i + 2)) else .inl i
/-- how the class's memory stands behind a piece of it -/
def HoC (tx : Nat → Int32) (e q : Nat) (M : Mm) (o : Nat ⊕ ((Nat → Int32) × Nat)) (r : Bool × Mm) : Prop := Fr [q, q + 1, q + 2, 97, 98] M r.2 ∧ match o with | .inl b => r.1 = false ∧ r.2.1 98 8 = nI (bg tx e b) | .inr (m2, j) => r.1 = true ∧ RdS r.2 98 tx e j ∧ MR r.2 q m2 ∧ r.2.1 98 8 = M.1 98 8
theorem MR.fr2 (hk : kd q = 4) (h : MR M q m) (hF : Fr [97, 98] M N) : MR N q m := h.fr (fun j h1 h2 => (hF j (by have := md4 hk; simp; omega)).1)
theorem thingC (ht : TT tx e) (hk : kd q = 4) (h : MR M q m) (hI : Inv m B) (hT : tN m < 9) (hR : RdS M 98 tx e i) : Tr (f_X1_readThing M q) (HoC tx e q M (hTh tx e m i)) := by
  have he := ht.1
  have hq := md4 hk
  have hr : rOK 98 := Or.inl rfl
  unfold f_X1_readThing hTh
  refine Tr.bind (nextC hr he hR) (fun M1 h1 => ?_)
  obtain ⟨a1, a2, a3⟩ := h1
  have b1 : MR M1 q m := h.fr2 hk (a2.mono (by simp))
  unfold f_X1_readCell f_X1_readCell_J55
  rcases skipC hr he a1 301 with ⟨c1, x, x1, x2, x3, x4, x5⟩ | ⟨c1, x1⟩
  · rw [if_pos c1, x1, Option.bind_some, x2, if_pos rfl, numWC x3, Option.bind_some, Option.bind_some]
    have F2 : Fr [97, 98] M x.2 := (a2.mono (by simp)).tr (x4.mono (by simp))
    by_cases c2 : nm tx e 0 19 (i + 2) = true
    · have hv := nm_ne1 (l := 0) c2 (by decide)
      rw [if_pos (nm_iff.mp c2), if_pos c2]
      generalize hz : vl tx e (i + 2) = z at hv
      have hR2 : RdS (sI x.2 97 1 z) 98 tx e (i + 2) := x3.fr (fun j h1 h2 => ⟨sI_fn (by omega), rfl⟩)
      have F3 : Fr [97, 98] M (sI x.2 97 1 z) := F2.tr (Fr.sI (by simp))
      have b3 : MR (sI x.2 97 1 z) q m := h.fr2 hk F3
      rw [show gI (sI x.2 97 1 z) 97 1 = z from by show (sI x.2 97 1 _).1 97 1 = _; rw [sI_at, if_pos ⟨rfl, rfl⟩], if_neg hv, atCellC hk b3 hI, Option.bind_some]
      have s8 : (sI x.2 97 1 z).1 98 8 = M.1 98 8 := by rw [sI_fn (by decide), x5, a3]
      cases hc : atCell m z with
      | some t =>
        have htt := (fnd_ok hc).1
        rw [if_neg (show ¬ oI (some t) = -1 from by rw [oI, nI_ne_m1 (by have := hI.t; omega)]; exact not_false), refuseC hR2, Option.bind_some, Option.bind_some, if_neg (show ¬ false = true by decide), if_pos (show (some t).isSome = true from rfl)]
        refine Tr.some ⟨(F3.tr (Fr.sI (by simp))).mono (by simp), rfl, ?_⟩
        show (sI _ 98 8 _).1 98 8 = _
        rw [sI_at, if_pos ⟨rfl, rfl⟩]
      | none =>
        rw [if_pos (show oI none = -1 from rfl), if_neg (show ¬ (none : Option Nat).isSome = true by decide)]
        obtain ⟨M4, m41, m42, m43, m44⟩ := nextC hr he hR2
        rw [m41, Option.bind_some, Option.bind_some, if_pos rfl]
        have F4 : Fr [97, 98] M M4 := F3.tr (m43.mono (by simp))
        have v4 : gI M4 97 1 = z := by show M4.1 97 1 = _; rw [(m43 97 (by simp)).1, sI_at, if_pos ⟨rfl, rfl⟩]
        obtain ⟨y, y1, y2, y3⟩ := namedC (w := 302) (hi := 99) (l := 0) he m42 (by decide)
        rw [show f_X1_readNamed M4 302 0 99 = some y from y1, Option.bind_some]
        have F5 : Fr [97, 98] M y.2 := F4.tr y2
        show Tr _ (HoC tx e q M (match named tx e 302 (nI 0) 99 (i + 3) with | some b => .inl b | none => match named tx e 303 1 3 (i + 5) with | some b => .inl b | none => .inr (addT m z (vl tx e (i + 4)) (vl tx e (i + 6)), i + 7)))
        have y3 : match named tx e 302 (nI 0) 99 (i + 3) with | none => y.1 = true ∧ RdS y.2 98 tx e (i + 3 + 2) ∧ y.2.1 97 1 = vl tx e (i + 3 + 1) ∧ y.2.1 98 8 = M4.1 98 8 | some b => y.1 = false ∧ y.2.1 98 8 = nI (bg tx e b) := y3
        cases hn : named tx e 302 (nI 0) 99 (i + 3) with
        | some b =>
          rw [hn] at y3
          obtain ⟨y3, y4⟩ : y.1 = false ∧ y.2.1 98 8 = nI (bg tx e b) := y3
          rw [y3, if_neg (by decide)]
          exact Tr.some ⟨F5.mono (by simp), rfl, y4⟩
        | none =>
          rw [hn] at y3
          obtain ⟨y3, y4, y5, y6⟩ : y.1 = true ∧ RdS y.2 98 tx e (i + 5) ∧ y.2.1 97 1 = vl tx e (i + 4) ∧ y.2.1 98 8 = M4.1 98 8 := y3
          rw [y3, if_pos rfl]
          obtain ⟨u, u1, u2, u3⟩ := namedC (w := 303) (hi := 3) (l := 1) he y4 (by decide)
          rw [show f_X1_readNamed y.2 303 1 3 = some u from u1, Option.bind_some]
          have F6 : Fr [97, 98] M u.2 := F5.tr u2
          show Tr _ (HoC tx e q M (match named tx e 303 (nI 1) 3 (i + 5) with | some b => .inl b | none => .inr (addT m z (vl tx e (i + 4)) (vl tx e (i + 6)), i + 7)))
          cases hn2 : named tx e 303 (nI 1) 3 (i + 5) with
          | some b =>
            rw [hn2] at u3
            obtain ⟨u3, u4⟩ : u.1 = false ∧ u.2.1 98 8 = nI (bg tx e b) := u3
            rw [u3, if_neg (by decide)]
            exact Tr.some ⟨F6.mono (by simp), rfl, u4⟩
          | none =>
            rw [hn2] at u3
            obtain ⟨u3, u4, u5, u6⟩ : u.1 = true ∧ RdS u.2 98 tx e (i + 7) ∧ u.2.1 97 1 = vl tx e (i + 6) ∧ u.2.1 98 8 = y.2.1 98 8 := u3
            rw [u3, if_pos rfl, v4, show gI y.2 97 1 = vl tx e (i + 4) from y5, show gI u.2 97 1 = vl tx e (i + 6) from u5]
            obtain ⟨N, n1, n2, n3⟩ := addThC (x := z) (y := vl tx e (i + 4)) (v := vl tx e (i + 6)) hk (h.fr2 hk F6) hI hT
            rw [n1, Option.bind_some]
            refine Tr.some ⟨(F6.mono (by simp)).tr (n3.mono (by simp)), rfl, u4.fr (fun j h1 h2 => ⟨(n3 j (by simp; omega)).1, (n3 j (by simp; omega)).2.2⟩), n2, ?_⟩
            show N.1 98 8 = _
            rw [(n3 98 (by simp; omega)).1, u6, y6, m44, s8]
    · rw [if_neg (fun hh => c2 (nm_iff.mpr hh)), if_neg c2]
      have hR2 : RdS (sI x.2 97 1 (-1)) 98 tx e (i + 2) := x3.fr (fun j h1 h2 => ⟨sI_fn (by omega), rfl⟩)
      rw [show gI (sI x.2 97 1 (-1)) 97 1 = -1 from by show (sI x.2 97 1 _).1 97 1 = _; rw [sI_at, if_pos ⟨rfl, rfl⟩], if_pos rfl, refuseC hR2, Option.bind_some, Option.bind_some, if_neg (show ¬ false = true by decide)]
      refine Tr.some ⟨((F2.tr (Fr.sI (by simp))).tr (Fr.sI (by simp))).mono (by simp), rfl, ?_⟩
      show (sI _ 98 8 _).1 98 8 = _
      rw [sI_at, if_pos ⟨rfl, rfl⟩]
  · rw [if_neg c1, x1, Option.bind_some, if_neg (show ¬ false = true by decide), refuseC a1, Option.bind_some, Option.bind_some, if_neg (show ¬ false = true by decide)]
    refine Tr.some ⟨((a2.mono (by simp)).tr (Fr.sI (by simp)) : Fr [97, 98] M _).mono (by simp), rfl, ?_⟩
    show (sI _ 98 8 _).1 98 8 = _
    rw [sI_at, if_pos ⟨rfl, rfl⟩]
end HALLC
