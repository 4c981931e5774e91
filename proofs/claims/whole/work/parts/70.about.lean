/-! about -/
section ABOUT
variable {LR : Mm → Nat → (Nat → Int32) → Prop} {LK : (Nat → Int32) → Nat → Nat → Int32 → Int32} {n : Nat} {M N K Mc Mr Nc Nr : Mm} {q L B v t a b : Nat} {m m0 : Nat → Int32} {x y z x1 x2 x3 x4 x5 : Int32} {dr : Bool}
/-- the row with other marks -/
def mkM (m : Nat → Int32) (v : Nat) (x : Int32) : Nat → Int32 := uk m (57 + 5 * v + 4) x
theorem mkM_ne {k : Nat} (h : k ≠ 57 + 5 * v + 4) : mkM m v x k = m k := uk_ne h
theorem mkM_n : tN (mkM m v x) = tN m ∧ vN (mkM m v x) = vN m := by
  unfold tN vN
  rw [mkM_ne (by omega), mkM_ne (by omega)]
  exact ⟨rfl, rfl⟩
theorem mkM_L (hv : v < 10) : eqL m (mkM m v x) := ⟨mkM_ne (by omega), mkM_ne (by omega), fun k h1 h2 => mkM_ne (by omega)⟩
theorem mkM_inv (hI : Inv m B) (hv : v < 10) {z : Nat} (hz : z ≤ 63) : Inv (mkM m v (nI z)) B := hI.ukV (c := 4) hv (by decide) (Or.inr (Or.inr (Or.inr (Or.inr ⟨rfl, isN_nI hz (by decide)⟩))))
/-- who rings for him with these marks -/
def abS (LK : (Nat → Int32) → Nat → Nat → Int32 → Int32) (m : Nat → Int32) (v : Nat) (x : Int32) : Int32 := bset (fun t => rgs m t (LK m t v x)) (tN m)
theorem mkM_ab (HL : LSpec LR LK) (hv : v < 10) (ht9 : tN m ≤ 9) : bset (fun t => rgs (mkM m v x) t (lkv LK (mkM m v x) t v)) (tN (mkM m v x)) = abS LK m v x := by
  unfold abS
  rw [mkM_n.1]
  refine bset_eq (by omega) (by omega) (fun t ht => ?_)
  by_cases h : t < tN m
  · have e1 : lkv LK (mkM m v x) t v = LK m t v x := by
      unfold lkv
      rw [show mkM m v x (57 + 5 * v + 4) = x from uk_eq]
      exact HL.2.2.1 _ _ _ _ _ (mkM_L hv) (mkM_ne (by omega)) (fun c hc => mkM_ne (by omega)) (mkM_ne (by omega)) (mkM_ne (by omega))
    rw [e1]
    unfold rgs
    rw [mkM_ne (by omega), mkM_ne (by omega), mkM_ne (by omega)]
  · simp [h]
/-- how many, in all, in any -/
def abF (f : Nat → Int32) (w : Int32) (n : Nat) : Nat × Int32 × Int32 := iter (fun i s => if f i = w then (s.1 + 1, s.2.1 &&& nI i, s.2.2 ||| nI i) else s) n (0, 63, 0)
theorem abF_succ {f : Nat → Int32} {w : Int32} {i : Nat} : abF f w (i + 1) = if f i = w then ((abF f w i).1 + 1, (abF f w i).2.1 &&& nI i, (abF f w i).2.2 ||| nI i) else abF f w i := rfl
theorem aboutC (HL : LSpec LR LK) (h : RR LR n Mc Mr) (hv : v < vN (Mr.1 110)) (h0 : MR M (Mc.2.2 1 4) (Mr.1 110)) (hF0 : Fr [Mc.2.2 1 4, Mc.2.2 1 4 + 1, Mc.2.2 1 4 + 2, Mc.2.2 1 4 + 3, Mc.2.2 1 5 + 5, 83, 84, 85, 86] Mc M) (y w : Int32) : Tr (loop FU (fun a_12 => f_X9_about_L64 a_12.1 (nI v) y w a_12.2.1 a_12.2.2.1 a_12.2.2.2.1 a_12.2.2.2.2) (M, 0, 63, 0, 0)) (fun r => r.2 = (nI (abF (fun i => abS LK (Mr.1 110) v (nI i)) w 64).1, (abF (fun i => abS LK (Mr.1 110) v (nI i)) w 64).2.1, (abF (fun i => abS LK (Mr.1 110) v (nI i)) w 64).2.2) ∧ Fr [Mc.2.2 1 4, Mc.2.2 1 4 + 1, Mc.2.2 1 4 + 2, Mc.2.2 1 4 + 3, Mc.2.2 1 5 + 5, 83, 84, 85, 86] Mc r.1) := by
  obtain ⟨hk, hkL, hMM, hI, hR⟩ := h.cur
  have k2 := h.1.2.1
  have m2 := md4 k2
  have l1 := (lnL hkL).2.2.2.2.2
  have hT := hI.t
  have hV := hI.v
  generalize hf : (fun i => abS LK (Mr.1 110) v (nI i)) = f
  refine lp0 (fun i (N : Mm) => (N, nI (abF f w i).1, (abF f w i).2.1, (abF f w i).2.2, nI i)) 64 (fun i N => (∃ x, MR N (Mc.2.2 1 4) (mkM (Mr.1 110) v x)) ∧ Fr [Mc.2.2 1 4, Mc.2.2 1 4 + 1, Mc.2.2 1 4 + 2, Mc.2.2 1 4 + 3, Mc.2.2 1 5 + 5, 83, 84, 85, 86] Mc N) (by omega) M rfl ⟨⟨(Mr.1 110) (57 + 5 * v + 4), by unfold mkM; rw [uk_self rfl]; exact h0⟩, hF0⟩ (fun i N hi hP => ?_) (fun N hP => ?_)
  · obtain ⟨⟨x, hN⟩, hF⟩ := hP
    show Tr (f_X9_about_L64 N (nI v) y w (nI (abF f w i).1) (abF f w i).2.1 (abF f w i).2.2 (nI i)) _
    have g : ∀ N, Fr [Mc.2.2 1 4, Mc.2.2 1 4 + 1, Mc.2.2 1 4 + 2, Mc.2.2 1 4 + 3, Mc.2.2 1 5 + 5, 83, 84, 85, 86] Mc N → N.2.2 1 = Mc.2.2 1 := fun N hF => (hF 1 (by simp; omega)).2.2
    have u2 : MR (sI N (Mc.2.2 1 4 + 2) (v * 5 + 4) (nI i)) (Mc.2.2 1 4) (mkM (Mr.1 110) v (nI i)) := by
      have := hN.ukV (x := nI i) k2 (show v * 5 + 4 < 50 by omega)
      rw [show 57 + (v * 5 + 4) = 57 + 5 * v + 4 by omega] at this
      unfold mkM at this ⊢
      rw [uk_uk] at this
      exact this
    have F1 : Fr [Mc.2.2 1 4, Mc.2.2 1 4 + 1, Mc.2.2 1 4 + 2, Mc.2.2 1 4 + 3, Mc.2.2 1 5 + 5, 83, 84, 85, 86] Mc (sI N (Mc.2.2 1 4 + 2) (v * 5 + 4) (nI i)) := hF.tr (Fr.sI (by simp))
    have hI2 : Inv (mkM (Mr.1 110) v (nI i)) (500 * n) := mkM_inv hI (by omega) (by omega)
    have L1 : LR (sI N (Mc.2.2 1 4 + 2) (v * 5 + 4) (nI i)) (Mc.2.2 1 5) (mkM (Mr.1 110) v (nI i)) := HL.2.1 _ _ _ _ (HL.1 _ _ _ _ hR (fun j a b => (F1 j (by simp; omega)).1)) (mkM_L (by omega))
    have en := mkM_n (m := Mr.1 110) (v := v) (x := nI i)
    obtain ⟨r, w1, w2, w3⟩ := ringingC HL k2 hkL (show (sI N (Mc.2.2 1 4 + 2) (v * 5 + 4) (nI i)).2.2 1 5 = Mc.2.2 1 5 by rw [g _ F1]) u2 hI2 L1 (v := v) (by rw [en.2]; exact hv)
    rw [mkM_ab HL (by omega) hT.2] at w2
    have w2 : r.1 = f i := by rw [w2, ← hf]
    have F2 := F1.tr (w3.mono (S2 := [Mc.2.2 1 4, Mc.2.2 1 4 + 1, Mc.2.2 1 4 + 2, Mc.2.2 1 4 + 3, Mc.2.2 1 5 + 5, 83, 84, 85, 86]) (by simp))
    have M2 : MR r.2 (Mc.2.2 1 4) (mkM (Mr.1 110) v (nI i)) := u2.fr (fun j h1 h2 => (w3 j (by simp; omega)).1)
    unfold f_X9_about_L64
    rw [if_neg (show ¬ (64 : Int32) ≤ nI i by rw [l_64, nI_leI (by omega) (by omega)]; omega), Option.bind_some, show gR N 1 4 = Mc.2.2 1 4 from by show N.2.2 1 4 = _; rw [g N hF], if_pos k2, show f_X4_setVisitor N (Mc.2.2 1 4) (nI v) 4 (nI i) = _ from setVisitorC (c := 4) k2 (by omega) (by decide), Option.bind_some, Option.bind_some, show gR (sI N (Mc.2.2 1 4 + 2) (v * 5 + 4) (nI i)) 1 4 = Mc.2.2 1 4 from by show (sI N (Mc.2.2 1 4 + 2) (v * 5 + 4) (nI i)).2.2 1 4 = _; rw [g _ F1], if_pos k2, w1, Option.bind_some, w2, abF_succ, show nI i + 1 = nI (i + 1) from by rw [l_1, nI_add]]
    by_cases c : f i = w
    · rw [if_pos c, if_pos c]
      exact Tr.some (Or.inl ⟨r.2, by rw [l_1, nI_add], ⟨_, M2⟩, F2⟩)
    · rw [if_neg c, if_neg c]
      exact Tr.some (Or.inl ⟨r.2, rfl, ⟨_, M2⟩, F2⟩)
  · show Tr (f_X9_about_L64 N (nI v) y w (nI (abF f w 64).1) (abF f w 64).2.1 (abF f w 64).2.2 (nI 64)) _
    unfold f_X9_about_L64
    rw [if_pos (by decide)]
    exact Tr.some ⟨_, rfl, rfl, hP.2⟩
theorem aboutR (HL : LSpec LR LK) (hI : Inv m B) (hR : LR Mc L m) (h0 : M.1 110 = m) (hv : v < vN m) (y w : Int32) : Tr (loop FU (fun a_9 => f_X10_about_L66 a_9.1 (nI v) y w a_9.2.1 a_9.2.2.1 a_9.2.2.2.1 a_9.2.2.2.2) (M, 0, 63, 0, 0)) (fun r => r.2 = (nI (abF (fun i => abS LK m v (nI i)) w 64).1, (abF (fun i => abS LK m v (nI i)) w 64).2.1, (abF (fun i => abS LK m v (nI i)) w 64).2.2) ∧ FrQ [109, 115] M r.1) := by
  obtain ⟨e3, hT⟩ := hI.t
  have hV := hI.v
  have i3 : ibs (3 : Int32) 807 = true := by decide
  generalize hf : (fun i => abS LK m v (nI i)) = f
  refine lp0 (fun i (N : Mm) => (N, nI (abF f w i).1, (abF f w i).2.1, (abF f w i).2.2, nI i)) 64 (fun i N => FrQ [109, 115] M N) (by omega) M rfl FrQ.rf (fun i N hi hF => ?_) (fun N hF => ?_)
  · show Tr (f_X10_about_L66 N (nI v) y w (nI (abF f w i).1) (abF f w i).2.1 (abF f w i).2.2 (nI i)) _
    have hin : ∀ y5 y6 y7 : Int32, Tr (loop FU (fun a_8 => f_X10_about_L79 a_8.1 (nI v) y w y5 y6 y7 (nI i) a_8.2.1 a_8.2.2) (N, 0, 0)) (fun r => r.2 = f i ∧ FrQ [109, 115] M r.1) := fun y5 y6 y7 => by
      rw [← hf]
      refine lp0 (fun t (N : Mm) => (N, bset (fun t => rgs m t (LK m t v (nI i))) t, nI t)) (tN m) (fun t N => FrQ [109, 115] M N) (by omega) N rfl hF (fun t N ht hF => ?_) (fun N hF => ?_)
      · show Tr (f_X10_about_L79 N (nI v) y w y5 y6 y7 (nI i) (bset (fun t => rgs m t (LK m t v (nI i))) t) (nI t)) _
        have hN : N.1 110 = m := by rw [(hF.1 110 (by simp)).1]; exact h0
        unfold f_X10_about_L79
        rw [if_pos i3, show gA N 110 3 = nI (tN m) from by show N.1 110 3 = _; rw [hN]; exact e3, if_neg (by rw [nI_leI (by omega) (by omega)]; omega)]
        have hl := HL.2.2.2.2.1 N t v (nI i) B Mc L (by rw [hN]; exact hI) (by rw [hN]; exact hR) (by rw [hN]; exact ht) (by rw [hN]; exact hv)
        refine Tr.bind hl (fun r hr => ?_)
        obtain ⟨r1, r2⟩ := hr
        rw [hN] at r1
        have r2 : FrQ [109, 115] N r.2 := r2
        have hN2 : r.2.1 110 = m := by rw [(r2.1 110 (by simp)).1]; exact hN
        rw [ringsR (by omega), Option.bind_some, hN2, r1, show nI t + 1 = nI (t + 1) from by rw [l_1, nI_add]]
        by_cases c : rgs m t (LK m t v (nI i)) = true
        · rw [if_pos c, Option.bind_some]
          refine Tr.some (Or.inl ⟨r.2, ?_, hF.tr r2⟩)
          show _ = Sum.inl (r.2, (if rgs m t (LK m t v (nI i)) = true then bset (fun t => rgs m t (LK m t v (nI i))) t ||| b1 t else bset (fun t => rgs m t (LK m t v (nI i))) t), nI (t + 1))
          rw [if_pos c]; rfl
        · rw [if_neg c]
          refine Tr.some (Or.inl ⟨r.2, ?_, hF.tr r2⟩)
          show _ = Sum.inl (r.2, (if rgs m t (LK m t v (nI i)) = true then bset (fun t => rgs m t (LK m t v (nI i))) t ||| b1 t else bset (fun t => rgs m t (LK m t v (nI i))) t), nI (t + 1))
          rw [if_neg c, Int32.or_zero]
      · show Tr (f_X10_about_L79 N (nI v) y w y5 y6 y7 (nI i) (bset (fun t => rgs m t (LK m t v (nI i))) (tN m)) (nI (tN m))) _
        have hN : N.1 110 = m := by rw [(hF.1 110 (by simp)).1]; exact h0
        unfold f_X10_about_L79
        rw [if_pos i3, show gA N 110 3 = nI (tN m) from by show N.1 110 3 = _; rw [hN]; exact e3, if_pos (by rw [nI_leI (by omega) (by omega)]; omega)]
        exact Tr.some ⟨_, rfl, rfl, hF⟩
    unfold f_X10_about_L66
    rw [if_neg (show ¬ (64 : Int32) ≤ nI i by rw [l_64, nI_leI (by omega) (by omega)]; omega)]
    refine Tr.bind (hin _ _ _) (fun r hr => ?_)
    obtain ⟨r1, r2⟩ := hr
    rw [r1, abF_succ, show nI i + 1 = nI (i + 1) from by rw [l_1, nI_add]]
    by_cases c : f i = w
    · rw [if_pos c, if_pos c]
      exact Tr.some (Or.inl ⟨r.1, by rw [l_1, nI_add], r2⟩)
    · rw [if_neg c, if_neg c]
      exact Tr.some (Or.inl ⟨r.1, rfl, r2⟩)
  · show Tr (f_X10_about_L66 N (nI v) y w (nI (abF f w 64).1) (abF f w 64).2.1 (abF f w 64).2.2 (nI 64)) _
    unfold f_X10_about_L66
    rw [if_pos (by decide)]
    exact Tr.some ⟨_, rfl, rfl, hF⟩
theorem abF_le {f : Nat → Int32} {w : Int32} : ∀ i, (abF f w i).1 ≤ i := by
  intro i
  induction i with
  | zero => exact Nat.le_refl _
  | succ i ih =>
    rw [abF_succ]
    by_cases c : f i = w
    · rw [if_pos c]; show (abF f w i).1 + 1 ≤ i + 1; omega
    · rw [if_neg c]; omega
theorem s_28 (HL : LSpec LR LK) (h : RR LR n Mc Mr) : ∃ Nc Nr, so_28 x1 x2 x3 x4 x5 Mc Mr Nc Nr ∧ RR LR (n + 1) Nc Nr := by
  have bad : ∀ (z : Nat) (w : Int32), f_X9_about Mc x1 x2 x3 = some (.inr (z, Mc)) → f_X10_about Mr x1 x2 x3 = f_X10_about_J27 Mr x1 x2 x3 w → [(2, (1 : Int32)), (4, 2)].lookup z = some w → 0 < w → ∃ Nc Nr, so_28 x1 x2 x3 x4 x5 Mc Mr Nc Nr ∧ RR LR (n + 1) Nc Nr := fun z w h1 h2 h3 h4 => by
    refine ⟨Mc, sI Mr 109 0 w, ⟨_, 0, h1, ?_, Or.inr ⟨z, rfl, by rw [t0]; exact h3, by rw [t0]; exact fun e => by rw [e] at h4; exact absurd h4 (by decide)⟩⟩, RR_q HL h KpC.rf ⟨rfl, rfl⟩ KpR.t⟩
    rw [h2]
    unfold f_X10_about_J27
    rw [Option.bind_some, t0, if_neg (by rw [Int32.not_le]; exact h4)]
  rcases needV h x1 with ⟨v, v1, rfl, u1, u2⟩ | ⟨u1, u2⟩
  · rcases rngI (M := Mr) 2 (by decide) x3 with ⟨c, c1, rfl, c2, c3, c4⟩ | ⟨c1, c2⟩
    · obtain ⟨hk, hkL, hMM, hI, hR⟩ := h.cur
      obtain ⟨e3, hT⟩ := hI.t
      have hV := hI.v
      obtain ⟨k2, k3, N, d1, d2, d3, d4⟩ := drC HL h
      have i3 : ibs (3 : Int32) 807 = true := by decide
      have gT : gI Mc (Mc.2.2 1 3) 3 = nI (tN (Mr.1 110)) := hMM.2.2.1.trans e3
      have gTr : gA (sI Mr 109 0 0) 110 3 = nI (tN (Mr.1 110)) := e3
      generalize hw : x2 &&& ((1 <<< (nI (tN (Mr.1 110)) &&& 31)) - 1) = w
      obtain ⟨p, p1, p2, p3⟩ := aboutC HL h v1 d2 (d3.mono (by simp)) (nI c) w
      obtain ⟨g, g1, g2, g3⟩ := aboutR (M := sI Mr 109 0 0) HL hI hR (sI_fn (by decide)) v1 (nI c) w
      have g3' : FrQ [109, 115] (sI Mr 109 0 0) g.1 := g3
      have kp : KpR Mr g.1 := KpR.t.tr (KpR.of2 g3' (g3'.1 110 (by simp)).1 (by simp) (by simp) (by simp))
      have z0 : gI g.1 109 0 = 0 := (g3'.2 0 (by simp)).trans t0
      have h64 := abF_le (f := fun i => abS LK (Mr.1 110) v (nI i)) (w := w) 64
      generalize hS : abF (fun i => abS LK (Mr.1 110) v (nI i)) w 64 = S at p2 g2 h64
      refine ⟨p.1, g.1, ⟨_, if nI c = 0 then nI S.1 else if nI S.1 = 0 then 0 else if nI c = 1 then S.2.1 else S.2.2, ?_, ?_, Or.inl ⟨rfl, z0⟩⟩, RR_dr HL h p3 kp⟩
      · unfold f_X9_about
        rw [u1, Option.bind_some, Sum.elim_inl, if_neg c2, if_pos (show nI c ≤ 2 from c3), Option.bind_some, show gR Mc 1 3 = Mc.2.2 1 3 from rfl, if_pos hk, Option.bind_some, gT, hw, Option.bind_some, show gR Mc 1 4 = Mc.2.2 1 4 from rfl, if_pos k2, Option.bind_some, if_pos hk, d1, Option.bind_some, p1, Option.bind_some, p2]
        by_cases f1 : nI c = 0
        · rw [if_pos f1, if_pos f1]
        · rw [if_neg f1, if_neg f1]
          by_cases f2 : nI S.1 = 0
          · rw [if_pos f2, if_pos f2, f2]
          · rw [if_neg f2, if_neg f2]
            by_cases f3 : nI c = 1
            · rw [if_pos f3, if_pos f3]
            · rw [if_neg f3, if_neg f3]
      · unfold f_X10_about f_X10_about_J27
        rw [u2, Option.bind_some, if_pos rfl, show f_X10_isIn Mr (nI c) 0 2 = true from c4, if_pos rfl, Option.bind_some, t0, if_pos (by decide), if_pos i3, gTr, hw, Option.bind_some, g1, Option.bind_some, g2]
        by_cases f1 : nI c = 0
        · rw [if_pos f1, if_pos f1]
        · rw [if_neg f1, if_neg f1]
          by_cases f2 : nI S.1 = 0
          · rw [if_pos f2, if_pos f2]
          · rw [if_neg f2, if_neg f2]
            by_cases f3 : nI c = 1
            · rw [if_pos f3, if_pos f3]
            · rw [if_neg f3, if_neg f3]
    · refine bad 4 2 ?_ ?_ rfl (by decide)
      · unfold f_X9_about f_X9_about_J14
        rw [u1, Option.bind_some, Sum.elim_inl]
        rcases c1 with c1 | ⟨c1, c3⟩
        · rw [if_pos c1]
        · rw [if_neg c1, if_neg (show ¬ x3 ≤ 2 from c3)]
      · unfold f_X10_about
        rw [u2, Option.bind_some, if_pos rfl, show f_X10_isIn Mr x3 0 2 = false from c2, if_neg (by decide)]
  · refine bad 2 1 ?_ ?_ rfl (by decide)
    · unfold f_X9_about
      rw [u1, Option.bind_some, Sum.elim_inr]
    · unfold f_X10_about
      rw [u2, Option.bind_some, if_neg (by decide)]
end ABOUT
