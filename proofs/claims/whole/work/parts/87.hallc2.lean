/-! the class reads a text of the hall -/
section HALLC2
variable {M N : Mm} {e p r i j k n q B l : Nat} {tx : Nat → Int32} {x y v b lo hi : Int32} {w : Nat} {m m2 : Nat → Int32}
theorem eta2 {o : Option (Bool × Mm)} : (o.bind fun rr => some (rr.1, rr.2)) = o := by cases o <;> rfl
def cw (c : Nat) : Nat := if c = 0 then 316 else if c = 1 then 317 else if c = 2 then 318 else 305
def chN (c : Nat) : Nat := if c = 0 then 99 else if c = 1 then 9 else if c = 2 then 9 else 100
theorem colC {c : Nat} (hc : c < 4) : f_X1_readColumn M (nI c) = f_X1_readNamed M (cw c) (nI 0) (nI (chN c)) := by
  have h : c = 0 ∨ c = 1 ∨ c = 2 ∨ c = 3 := by omega
  unfold f_X1_readColumn
  rcases h with rfl | rfl | rfl | rfl
  · rw [if_pos (show nI 0 = 0 from rfl)]; exact eta2
  · rw [if_neg (by decide), if_pos (show nI 1 = 1 from rfl)]; exact eta2
  · rw [if_neg (by decide), if_neg (by decide), if_pos (show nI 2 = 2 from rfl)]; exact eta2
  · rw [if_neg (by decide), if_neg (by decide), if_neg (by decide)]; exact eta2
def rvV (tx : Nat → Int32) (e : Nat) (m : Nat → Int32) (i c : Nat) : Nat → Int32 := iter (fun c s => uk s (57 + 5 * vN m + c) (vl tx e (i + 2 + 2 * c))) c (uk m 4 (nI (vN m + 1)))
def nmd (tx : Nat → Int32) (e i c : Nat) : Option Nat := named tx e (cw c) 0 (nI (chN c)) (i + 1 + 2 * c)
theorem hVi_some {c b : Nat} (hc : c < 4) (h : ∀ d, d < c → nmd tx e i d = none) (hb : nmd tx e i c = some b) : hVi tx e m i = .inl b := by
  have h4 : c = 0 ∨ c = 1 ∨ c = 2 ∨ c = 3 := by omega
  have n0 : nmd tx e i 0 = named tx e 316 0 99 (i + 1) := rfl
  have n1 : nmd tx e i 1 = named tx e 317 0 9 (i + 3) := rfl
  have n2 : nmd tx e i 2 = named tx e 318 0 9 (i + 5) := rfl
  have n3 : nmd tx e i 3 = named tx e 305 0 100 (i + 7) := rfl
  unfold hVi
  rw [← n0, ← n1, ← n2, ← n3]
  rcases h4 with rfl | rfl | rfl | rfl
  · rw [hb]
  · rw [h 0 (by omega), hb]
  · rw [h 0 (by omega), h 1 (by omega), hb]
  · rw [h 0 (by omega), h 1 (by omega), h 2 (by omega), hb]
theorem hVi_none (h : ∀ d, d < 4 → nmd tx e i d = none) : hVi tx e m i = if wdT tx e (i + 9) = 306 then (if wdT tx e (i + 10) = 329 ∧ vl tx e (i + 10) ≠ -1 then .inr (uk (rvV tx e m i 4) (57 + 5 * vN m + 4) (vl tx e (i + 10)), i + 11) else .inl (i + 10)) else .inr (uk (rvV tx e m i 4) (57 + 5 * vN m + 4) 0, i + 9) := by
  have n0 : nmd tx e i 0 = named tx e 316 0 99 (i + 1) := rfl
  have n1 : nmd tx e i 1 = named tx e 317 0 9 (i + 3) := rfl
  have n2 : nmd tx e i 2 = named tx e 318 0 9 (i + 5) := rfl
  have n3 : nmd tx e i 3 = named tx e 305 0 100 (i + 7) := rfl
  unfold hVi
  rw [← n0, ← n1, ← n2, ← n3, h 0 (by omega), h 1 (by omega), h 2 (by omega), h 3 (by omega)]
  rfl
theorem visitorC (ht : TT tx e) (hk : kd q = 4) (h : MR M q m) (hI : Inv m B) (hV : vN m < 10) (hR : RdS M 98 tx e i) : Tr (f_X1_readVisitor M q) (HoC tx e q M (hVi tx e m i)) := by
  have he := ht.1
  have hq := md4 hk
  have hr : rOK 98 := Or.inl rfl
  have g4 : gI M q 4 = nI (vN m) := h.2.2.2.1.trans hI.v.1
  unfold f_X1_readVisitor
  rw [g4, l_1, nI_add, Option.bind_some]
  have R1 : RdS (sI M q 4 (nI (vN m + 1))) 98 tx e i := hR.fr (fun j h1 h2 => ⟨sI_fn (by omega), rfl⟩)
  have M1 := h.us (x := nI (vN m + 1)) hk (Or.inr (Or.inl ⟨rfl, rfl⟩))
  obtain ⟨N2, a1, a2, a3, a4⟩ := nextC hr he R1
  rw [a1, Option.bind_some]
  have F2 : Fr [q, q + 1, q + 2, 97, 98] M N2 := (Fr.sI (by simp)).tr (a3.mono (by simp))
  have s82 : N2.1 98 8 = M.1 98 8 := by rw [a4, sI_fn (by omega)]
  refine Tr.bind (Q := fun x => (∃ N c b, x = .inl (false, N) ∧ c < 4 ∧ (∀ d, d < c → nmd tx e i d = none) ∧ nmd tx e i c = some b ∧ N.1 98 8 = nI (bg tx e b) ∧ Fr [q, q + 1, q + 2, 97, 98] M N) ∨ (∃ N, x = .inr N ∧ (∀ d, d < 4 → nmd tx e i d = none) ∧ RdS N 98 tx e (i + 9) ∧ MR N q (rvV tx e m i 4) ∧ N.1 98 8 = M.1 98 8 ∧ Fr [q, q + 1, q + 2, 97, 98] M N)) ?_ (fun x hx => ?_)
  · refine lp0 (fun c (N : Mm) => (N, nI c)) 4 (fun c N => (∀ d, d < c → nmd tx e i d = none) ∧ RdS N 98 tx e (i + 1 + 2 * c) ∧ MR N q (rvV tx e m i c) ∧ N.1 98 8 = M.1 98 8 ∧ Fr [q, q + 1, q + 2, 97, 98] M N) (by decide) N2 rfl ⟨fun d hd => absurd hd (Nat.not_lt_zero d), a2, M1.fr2 hk (a3.mono (by simp)), s82, F2⟩ (fun c N hc hP => ?_) (fun N hP => ?_)
    · obtain ⟨p1, p2, p3, p4, p5⟩ := hP
      show Tr (f_X1_readVisitor_L24 N q (nI (vN m)) (nI c)) _
      obtain ⟨y, y1, y2, y3⟩ := namedC (w := cw c) (hi := nI (chN c)) (l := 0) he p2 (by decide)
      unfold f_X1_readVisitor_L24
      rw [if_neg (show ¬ (3 : Int32) < nI c by rw [l_3, nI_ltI (by omega) (by omega)]; omega), colC hc, y1, Option.bind_some]
      have F3 : Fr [q, q + 1, q + 2, 97, 98] M y.2 := p5.tr (y2.mono (by simp))
      have y3 : match nmd tx e i c with | none => y.1 = true ∧ RdS y.2 98 tx e (i + 1 + 2 * c + 2) ∧ y.2.1 97 1 = vl tx e (i + 1 + 2 * c + 1) ∧ y.2.1 98 8 = N.1 98 8 | some b => y.1 = false ∧ y.2.1 98 8 = nI (bg tx e b) := y3
      cases hn : nmd tx e i c with
      | some b =>
        rw [hn] at y3
        obtain ⟨y3, y4⟩ : y.1 = false ∧ y.2.1 98 8 = nI (bg tx e b) := y3
        rw [y3, if_neg (by decide)]
        exact Tr.some (Or.inr ⟨_, rfl, Or.inl ⟨y.2, c, b, rfl, hc, p1, hn, y4, F3⟩⟩)
      | none =>
        rw [hn] at y3
        obtain ⟨y3, y4, y5, y6⟩ : y.1 = true ∧ RdS y.2 98 tx e (i + 1 + 2 * c + 2) ∧ y.2.1 97 1 = vl tx e (i + 1 + 2 * c + 1) ∧ y.2.1 98 8 = N.1 98 8 := y3
        rw [y3, if_pos rfl, show gI y.2 97 1 = vl tx e (i + 1 + 2 * c + 1) from y5, Option.bind_some, l_1, nI_add]
        have hvf := frV (M := y.2) (x := vl tx e (i + 1 + 2 * c + 1)) (t := vN m) (c := c) hk hV (by omega)
        refine Tr.some (Or.inl ⟨_, rfl, fun d hd => ?_, ?_, ?_, ?_, F3.tr (hvf.mono (by simp))⟩)
        · by_cases ed : d = c
          · rw [ed]; exact hn
          · exact p1 d (by omega)
        · rw [show i + 1 + 2 * (c + 1) = i + 1 + 2 * c + 2 by omega]
          exact y4.fr (fun j h1 h2 => ⟨(hvf j (by simp; omega)).1, (hvf j (by simp; omega)).2.2⟩)
        · have := MR.setV (x := vl tx e (i + 1 + 2 * c + 1)) (t := vN m) (c := c) hk (p3.fr2 hk y2) hV (by omega)
          rw [show i + 1 + 2 * c + 1 = i + 2 + 2 * c by omega] at this ⊢
          exact this
        · rw [(hvf 98 (by simp; omega)).1, y6]; exact p4
    · obtain ⟨p1, p2, p3, p4, p5⟩ := hP
      show Tr (f_X1_readVisitor_L24 N q (nI (vN m)) (nI 4)) _
      unfold f_X1_readVisitor_L24
      rw [if_pos (by decide)]
      exact Tr.some ⟨_, rfl, Or.inr ⟨N, rfl, p1, p2, p3, p4, p5⟩⟩
  · rcases hx with ⟨N, c, b, rfl, x1, x2, x3, x4, x5⟩ | ⟨N, rfl, x1, x2, x3, x4, x5⟩
    · rw [Sum.elim_inl, hVi_some x1 x2 x3]
      exact Tr.some ⟨x5, rfl, x4⟩
    · rw [Sum.elim_inr, Option.bind_some, hVi_none x1]
      have hvf := frV (M := N) (x := 0) (t := vN m) (c := 4) hk hV (by decide)
      have M7 := MR.setV (x := 0) (t := vN m) (c := 4) hk x3 hV (by decide)
      have R7 : RdS (f_X4_setVisitor N q (nI (vN m)) (nI 4) 0) 98 tx e (i + 9) := x2.fr (fun j h1 h2 => ⟨(hvf j (by simp; omega)).1, (hvf j (by simp; omega)).2.2⟩)
      have F7 : Fr [q, q + 1, q + 2, 97, 98] M (f_X4_setVisitor N q (nI (vN m)) (nI 4) 0) := x5.tr (hvf.mono (by simp))
      have s87 : (f_X4_setVisitor N q (nI (vN m)) (nI 4) 0).1 98 8 = M.1 98 8 := by rw [(hvf 98 (by simp; omega)).1]; exact x4
      show Tr ((f_X7_skip (f_X4_setVisitor N q (nI (vN m)) (nI 4) 0) 98 306).bind _) _
      generalize f_X4_setVisitor N q (nI (vN m)) (nI 4) 0 = N7 at M7 R7 F7 s87
      rcases skipC hr he R7 306 with ⟨c1, z, z1, z2, z3, z4, z5⟩ | ⟨c1, z1⟩
      · rw [if_pos c1, z1, Option.bind_some, z2, if_pos rfl]
        unfold f_X1_readMarks f_X1_readVisitor_J84
        rw [marksHC z3, Option.bind_some]
        have F8 : Fr [q, q + 1, q + 2, 97, 98] M z.2 := F7.tr (z4.mono (by simp))
        by_cases d : wdT tx e (i + 10) = 329 ∧ vl tx e (i + 10) ≠ -1
        · rw [if_pos d, if_pos (show wdT tx e (i + 9 + 1) = 329 from d.1), if_neg (show ¬ vl tx e (i + 9 + 1) = -1 from d.2), Option.bind_some]
          have hvf2 := frV (M := z.2) (x := vl tx e (i + 9 + 1)) (t := vN m) (c := 4) hk hV (by decide)
          have M9 := MR.setV (x := vl tx e (i + 9 + 1)) (t := vN m) (c := 4) hk (M7.fr2 hk (z4.mono (by simp))) hV (by decide)
          rw [uk_uk] at M9
          have R9 : RdS (f_X4_setVisitor z.2 q (nI (vN m)) (nI 4) (vl tx e (i + 9 + 1))) 98 tx e (i + 10) := z3.fr (fun j h1 h2 => ⟨(hvf2 j (by simp; omega)).1, (hvf2 j (by simp; omega)).2.2⟩)
          have F9 : Fr [q, q + 1, q + 2, 97, 98] M (f_X4_setVisitor z.2 q (nI (vN m)) (nI 4) (vl tx e (i + 9 + 1))) := F8.tr (hvf2.mono (by simp))
          have s89 : (f_X4_setVisitor z.2 q (nI (vN m)) (nI 4) (vl tx e (i + 9 + 1))).1 98 8 = M.1 98 8 := by rw [(hvf2 98 (by simp; omega)).1, z5]; exact s87
          show Tr ((((f_X7_next (f_X4_setVisitor z.2 q (nI (vN m)) (nI 4) (vl tx e (i + 9 + 1))) 98).bind _)).bind _) _
          generalize f_X4_setVisitor z.2 q (nI (vN m)) (nI 4) (vl tx e (i + 9 + 1)) = N9 at M9 R9 F9 s89
          obtain ⟨K, k1, k2, k3, k4⟩ := nextC hr he R9
          rw [k1, Option.bind_some, Option.bind_some, if_pos rfl]
          exact Tr.some ⟨F9.tr (k3.mono (by simp)), rfl, k2, M9.fr2 hk (k3.mono (by simp)), k4.trans s89⟩
        · rw [if_neg d]
          have hm1 : (if wdT tx e (i + 9 + 1) = 329 then vl tx e (i + 9 + 1) else -1) = -1 := by
            by_cases f : wdT tx e (i + 9 + 1) = 329
            · rw [if_pos f]
              refine Classical.byContradiction (fun hc => d ⟨f, hc⟩)
            · rw [if_neg f]
          rw [hm1, if_pos rfl, refuseC z3, Option.bind_some, Option.bind_some, if_neg (show ¬ false = true by decide)]
          refine Tr.some ⟨F8.tr (Fr.sI (by simp)), rfl, ?_⟩
          show (sI _ 98 8 _).1 98 8 = _
          rw [sI_at, if_pos ⟨rfl, rfl⟩]
      · rw [if_neg c1, z1, Option.bind_some, if_neg (show ¬ false = true by decide)]
        unfold f_X1_readVisitor_J84
        exact Tr.some ⟨F7, rfl, R7, M7, s87⟩
theorem lineC (ht : TT tx e) (hk : kd q = 4) (h : MR M q m) (hI : Inv m B) (hR : RdS M 98 tx e i) : Tr (f_X1_readLine M q) (HoC tx e q M (hL tx e m i)) := by
  have he := ht.1
  have hq := md4 hk
  have g5 := hR.wd.1
  have g3 : gI M q 3 = nI (tN m) := h.2.2.1.trans hI.t.1
  have g4 : gI M q 4 = nI (vN m) := h.2.2.2.1.trans hI.v.1
  have hT := hI.t
  have hV := hI.v
  have J56 : ¬ (wdT tx e i = 300 ∧ tN m < 9) → ¬ (wdT tx e i = 304 ∧ vN m < 10) → Tr (f_X1_readLine_J56 M q) (HoC tx e q M (hL tx e m i)) := fun n1 n2 => by
    unfold f_X1_readLine_J56 hL
    rw [if_neg n1, if_neg n2, Option.bind_some, g5, if_pos isW_wd]
    by_cases c1 : wdT tx e i = 307
    · rw [if_pos c1, if_pos c1]
      unfold f_X1_readSpeed
      rw [eta2]
      obtain ⟨y, y1, y2, y3⟩ := namedC (w := 307) (hi := 9) (l := 1) he hR (by decide)
      rw [show f_X1_readNamed M 307 1 9 = some y from y1, Option.bind_some]
      show Tr _ (HoC tx e q M (match named tx e 307 (nI 1) 9 i with | some b => .inl b | none => .inr (uk m 5 (vl tx e (i + 1)), i + 2)))
      cases hn : named tx e 307 (nI 1) 9 i with
      | some b =>
        rw [hn] at y3
        obtain ⟨y3, y4⟩ : y.1 = false ∧ y.2.1 98 8 = nI (bg tx e b) := y3
        rw [y3, if_neg (by decide)]
        exact Tr.some ⟨y2.mono (by simp), rfl, y4⟩
      | none =>
        rw [hn] at y3
        obtain ⟨y3, y4, y5, y6⟩ : y.1 = true ∧ RdS y.2 98 tx e (i + 2) ∧ y.2.1 97 1 = vl tx e (i + 1) ∧ y.2.1 98 8 = M.1 98 8 := y3
        rw [y3, if_pos rfl, show gI y.2 97 1 = vl tx e (i + 1) from y5, Option.bind_some]
        refine Tr.some ⟨(y2.mono (by simp)).tr (Fr.sI (by simp)), rfl, y4.fr (fun j h1 h2 => ⟨sI_fn (by omega), rfl⟩), (h.fr2 hk y2).us hk (Or.inr (Or.inr (Or.inr ⟨rfl, rfl⟩))), ?_⟩
        show (sI y.2 q 6 _).1 98 8 = _
        rw [sI_fn (by omega)]; exact y6
    · rw [if_neg c1, if_neg c1, Option.bind_some, if_pos isW_wd]
      by_cases c2 : wdT tx e i = 308
      · rw [if_pos c2, if_pos c2]
        unfold f_X1_readCellar
        rw [eta2, g3]
        obtain ⟨y, y1, y2, y3⟩ := namedC (w := 308) (hi := nI (tN m) - 1) (l := 0) he hR (by decide)
        rw [show f_X1_readNamed M 308 0 (nI (tN m) - 1) = some y from y1, Option.bind_some]
        show Tr _ (HoC tx e q M (match named tx e 308 (nI 0) (nI (tN m) - 1) i with | some b => .inl b | none => .inr (uk m (12 + 5 * (vl tx e (i + 1)).toNatClampNeg + 3) 0, i + 2)))
        cases hn : named tx e 308 (nI 0) (nI (tN m) - 1) i with
        | some b =>
          rw [hn] at y3
          obtain ⟨y3, y4⟩ : y.1 = false ∧ y.2.1 98 8 = nI (bg tx e b) := y3
          rw [y3, if_neg (by decide)]
          exact Tr.some ⟨y2.mono (by simp), rfl, y4⟩
        | none =>
          rw [hn] at y3
          obtain ⟨y3, y4, y5, y6⟩ : y.1 = true ∧ RdS y.2 98 tx e (i + 2) ∧ y.2.1 97 1 = vl tx e (i + 1) ∧ y.2.1 98 8 = M.1 98 8 := y3
          have hnm : nm tx e (nI 0) (nI (tN m) - 1) (i + 1) = true := by
            unfold named at hn
            rw [if_pos c2] at hn
            by_cases f : nm tx e (nI 0) (nI (tN m) - 1) (i + 1) = true
            · exact f
            · rw [if_neg f] at hn; cases hn
          obtain ⟨z1, z2, z3⟩ := nm_iff.mp hnm
          obtain ⟨z, z4, z5⟩ := vl_num ht z1
          have zT : z < tN m := by
            rw [z4] at z3
            by_cases f : tN m = 0
            · exfalso
              refine z3 ?_
              rw [f, Int32.lt_iff_toInt_lt, nI_toInt (by omega)]
              have : (nI 0 - 1 : Int32).toInt = -1 := rfl
              omega
            · rw [l_1, nI_subI (by omega), nI_ltI (by omega) (by omega)] at z3
              omega
          rw [y3, if_pos rfl, show gI y.2 97 1 = vl tx e (i + 1) from y5, z4, Option.bind_some, nI_clamp (by omega)]
          have hvf := frT (M := y.2) (x := 0) (t := z) (c := 3) hk (by omega) (by decide)
          refine Tr.some ⟨(y2.mono (by simp)).tr (hvf.mono (by simp)), rfl, y4.fr (fun j h1 h2 => ⟨(hvf j (by simp; omega)).1, (hvf j (by simp; omega)).2.2⟩), MR.setT (c := 3) hk (h.fr2 hk y2) (by omega) (by decide), ?_⟩
          show (f_X4_setThing y.2 q (nI z) (nI 3) 0).1 98 8 = _
          rw [(hvf 98 (by simp; omega)).1]; exact y6
      · rw [if_neg c2, if_neg c2, refuseC hR, Option.bind_some]
        refine Tr.some ⟨Fr.sI (by simp), rfl, ?_⟩
        show (sI M 98 8 _).1 98 8 = _
        rw [sI_at, if_pos ⟨rfl, rfl⟩]
  have J28 : ¬ (wdT tx e i = 300 ∧ tN m < 9) → Tr (f_X1_readLine_J28 M q) (HoC tx e q M (hL tx e m i)) := fun n1 => by
    unfold f_X1_readLine_J28
    rw [Option.bind_some, g5, if_pos isW_wd]
    by_cases c1 : wdT tx e i = 304
    · rw [if_pos c1, g4]
      by_cases c2 : vN m < 10
      · rw [if_neg (show ¬ (10 : Int32) ≤ nI (vN m) by rw [l_10, nI_leI (by omega) (by omega)]; omega), eta2]
        have : hL tx e m i = hVi tx e m i := by unfold hL; rw [if_neg n1, if_pos ⟨c1, c2⟩]
        rw [this]
        exact visitorC ht hk h hI c2 hR
      · rw [if_pos (show (10 : Int32) ≤ nI (vN m) by rw [l_10, nI_leI (by omega) (by omega)]; omega)]
        exact J56 n1 (fun hh => c2 hh.2)
    · rw [if_neg c1]
      exact J56 n1 (fun hh => c1 hh.1)
  unfold f_X1_readLine
  rw [Option.bind_some, g5, if_pos isW_wd]
  by_cases c1 : wdT tx e i = 300
  · rw [if_pos c1, g3]
    by_cases c2 : tN m < 9
    · rw [if_neg (show ¬ (9 : Int32) ≤ nI (tN m) by rw [l_9, nI_leI (by omega) (by omega)]; omega), eta2]
      have : hL tx e m i = hTh tx e m i := by unfold hL; rw [if_pos ⟨c1, c2⟩]
      rw [this]
      exact thingC ht hk h hI c2 hR
    · rw [if_pos (show (9 : Int32) ≤ nI (tN m) by rw [l_9, nI_leI (by omega) (by omega)]; omega)]
      exact J28 (fun hh => c2 hh.2)
  · rw [if_neg c1]
    exact J28 (fun hh => c1 hh.1)
end HALLC2
