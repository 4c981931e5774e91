/-! visitor, group -/
section VISITOR
variable {LR : Mm → Nat → (Nat → Int32) → Prop} {LK : (Nat → Int32) → Nat → Nat → Int32 → Int32} {n : Nat} {M N Mc Mr Nc Nr : Mm} {q L B a b c : Nat} {m m2 : Nat → Int32} {x x1 x2 x3 x4 x5 : Int32}
theorem ringingC (HL : LSpec LR LK) (hk : kd q = 4) (hkL : kd L = 2) (hL : M.2.2 1 5 = L) (h : MR M q m) (hI : Inv m B) (hR : LR M L m) {v : Nat} (hv : v < vN m) : Tr (f_X9_ringing M q (nI v)) (fun r => r.1 = bset (fun t => rgs m t (lkv LK m t v)) (tN m) ∧ Fr [L + 5] M r.2) := by
  obtain ⟨e3, hT⟩ := hI.t
  have hq := md4 hk
  have hl := (lnL hkL).2.2.2.2.2
  unfold f_X9_ringing
  refine Tr.bind (Q := fun r : Mm × Int32 => r.2 = bset (fun t => rgs m t (lkv LK m t v)) (tN m) ∧ Fr [L + 5] M r.1) ?_ (fun N hN => Tr.some hN)
  refine lp0 (fun t (s : Mm × Int32) => (s.1, s.2, nI t)) (tN m) (fun t s => s.2 = bset (fun t => rgs m t (lkv LK m t v)) t ∧ Fr [L + 5] M s.1) (by omega) (M, 0) rfl ⟨rfl, Fr.rf⟩ (fun t s ht hP => ?_) (fun s hP => ?_)
  · obtain ⟨N, y⟩ := s
    obtain ⟨h1, hF⟩ := hP
    have h1 : y = bset (fun t => rgs m t (lkv LK m t v)) t := h1
    have hF : Fr [L + 5] M N := hF
    have hN : MR N q m := h.fr (fun j h1 h2 => (hF j (by simp; omega)).1)
    have hRN : LR N L m := HL.1 _ _ _ _ hR (fun j h1 h2 => (hF j (by simp; omega)).1)
    have g3 : gI N q 3 = nI (tN m) := hN.2.2.1.trans e3
    have gL : gR N 1 5 = L := by show N.2.2 1 5 = _; rw [(hF 1 (by simp <;> omega)).2.2]; exact hL
    obtain ⟨r, r1, r2, r3⟩ := HL.2.2.2.1 N q L m t v B hk hkL hN hI hRN ht hv
    have hr : MR r.2 q m := hN.fr (fun j h1 h2 => (r3 j (by simp; omega)).1)
    have eL : f_X9_ringing_L5 N q (nI v) y (nI t) = if rgs m t (lkv LK m t v) = true then some (.inl (r.2, y ||| b1 t, nI (t + 1))) else some (.inl (r.2, y, nI (t + 1))) := by
      unfold f_X9_ringing_L5
      rw [g3, if_neg (by rw [nI_leI (by omega) (by omega)]; omega), Option.bind_some, gL, if_pos hkL, r1, Option.bind_some, ringsC hk hr (by omega), r2, l_1, nI_add]
      rfl
    refine Tr.cg eL ?_
    by_cases c1 : rgs m t (lkv LK m t v) = true
    · rw [if_pos c1]
      refine Tr.some (Or.inl ⟨(r.2, y ||| b1 t), rfl, ?_, hF.tr r3⟩)
      show y ||| b1 t = (if rgs m t (lkv LK m t v) = true then bset (fun t => rgs m t (lkv LK m t v)) t ||| b1 t else _)
      rw [if_pos c1, h1]
    · rw [if_neg c1]
      refine Tr.some (Or.inl ⟨(r.2, y), rfl, ?_, hF.tr r3⟩)
      show y = (if rgs m t (lkv LK m t v) = true then _ else bset (fun t => rgs m t (lkv LK m t v)) t)
      rw [if_neg c1, h1]
  · obtain ⟨N, y⟩ := s
    obtain ⟨h1, hF⟩ := hP
    have hF : Fr [L + 5] M N := hF
    have hN : MR N q m := h.fr (fun j h1 h2 => (hF j (by simp; omega)).1)
    have g3 : gI N q 3 = nI (tN m) := hN.2.2.1.trans e3
    have eL : f_X9_ringing_L5 N q (nI v) y (nI (tN m)) = some (.inr (N, y)) := by
      unfold f_X9_ringing_L5
      rw [g3, if_pos (by rw [nI_leI (by omega) (by omega)]; omega)]
    exact ⟨_, eL, _, rfl, h1, hF⟩
theorem s_6 (HL : LSpec LR LK) (h : RR LR n Mc Mr) : ∃ Nc Nr, so_6 x1 x2 x3 x4 x5 Mc Mr Nc Nr ∧ RR LR (n + 1) Nc Nr := by
  obtain ⟨hk, hkL, hM, hI, hR⟩ := h.cur
  have hT := hI.t
  have hV := hI.v
  have gq : gR Mc 1 3 = Mc.2.2 1 3 := rfl
  rcases needV h x1 with ⟨t, t1, rfl, n1, n2⟩ | ⟨n1, n2⟩
  · rcases rngI (M := Mr) 7 (by decide) x2 with ⟨k, k1, rfl, k2, k3, k4⟩ | ⟨k1, k2⟩
    · have hl := (lnL hkL).2.2.2.2.2
      have hq := md4 hk
      by_cases c5 : (5 : Int32) ≤ nI k
      · obtain ⟨N, d1, d2, d3, d4, d5, d6, d7, d8⟩ := qdayR HL h 0
        have cr : f_X10_visitor Mr (nI t) (nI k) = if nI k = 5 then (f_X10_ringing N (nI t)).bind (fun r4 => some (r4, N)) else (if nI k = 6 then some (gA N 117 (nI t), N) else some (gA N 118 (nI t), N)) := by
          unfold f_X10_visitor f_X10_visitor_J28
          rw [n2, Option.bind_some, if_pos rfl, if_pos (show f_X10_isIn Mr (nI k) 0 7 = true from k4), Option.bind_some, t0, if_pos (by decide), if_pos c5, d1, Option.bind_some, if_pos (ibs_nI (show t < 10 by omega) (by decide)), if_pos (ibs_nI (show t < 10 by omega) (by decide))]
        by_cases e5 : nI k = 5
        · obtain ⟨r, r1, r2, r3⟩ := ringingC HL hk hkL rfl hM hI hR t1
          refine ⟨r.2, N, ⟨_, bset (fun u => rgs (Mr.1 110) u (lkv LK (Mr.1 110) u t)) (tN (Mr.1 110)), ?_, ?_, Or.inl ⟨rfl, d3⟩⟩, RR_q HL h (fun i h1 h2 h3 h4 h5 => (r3 i (by simp; omega)).1) ⟨(r3 1 (by simp <;> omega)).2.2, (r3 3 (by simp <;> omega)).2.2⟩ d2⟩
          · unfold f_X9_visitor
            rw [n1, Option.bind_some, Sum.elim_inl, if_neg k2, if_pos (show nI k ≤ 7 from k3), if_pos c5, if_pos e5, Option.bind_some, gq, if_pos hk, r1, Option.bind_some, r2]
          · rw [cr, if_pos e5, ringingR d4 hI d5 t1]; rfl
        · obtain ⟨r, u1, u2, u3, u4, u5, u6, u7, u8, u9⟩ := qdayC HL h
          rw [if_neg e5] at cr
          have g85 : t_X9_at r.2 85 (nI t) = oI ((S0 LK (Mr.1 110)).1 t) := by rw [at_nI (N := 10) (by decide) (by omega)]; exact u9 t (by omega)
          have gq2 : gR r.2 1 3 = Mc.2.2 1 3 := by show r.2.2.2 1 3 = _; rw [u4]
          have cc : f_X9_visitor Mc (nI t) (nI k) = if nI k = 6 then some (.inl (oI ((S0 LK (Mr.1 110)).1 t), r.2)) else (if oI ((S0 LK (Mr.1 110)).1 t) = -1 then some (.inl (oI ((S0 LK (Mr.1 110)).1 t), r.2)) else some (.inl (t_X4_stepOf r.2 (Mc.2.2 1 3) (f_X4_ofThing r.2 (Mc.2.2 1 3) (oI ((S0 LK (Mr.1 110)).1 t)) 0), r.2))) := by
            unfold f_X9_visitor
            rw [n1, Option.bind_some, Sum.elim_inl, if_neg k2, if_pos (show nI k ≤ 7 from k3), if_pos c5, if_neg e5, Option.bind_some, gq, if_pos hk, u1, Option.bind_some, g85, Option.bind_some, gq2, if_pos hk, Option.bind_some, if_pos hk]
          have fin : ∀ w : Int32, f_X9_visitor Mc (nI t) (nI k) = some (.inl (w, r.2)) → f_X10_visitor Mr (nI t) (nI k) = some (w, N) → ∃ Nc Nr, so_6 (nI t) (nI k) x3 x4 x5 Mc Mr Nc Nr ∧ RR LR (n + 1) Nc Nr := fun w w1 w2 => ⟨r.2, N, ⟨_, w, w1, w2, Or.inl ⟨rfl, d3⟩⟩, RR_q HL h u3 ⟨u4, u5⟩ d2⟩
          by_cases e6 : nI k = 6
          · refine fin (oI ((S0 LK (Mr.1 110)).1 t)) (by rw [cc, if_pos e6]) ?_
            rw [cr, if_pos e6, show gA N 117 (nI t) = oI ((S0 LK (Mr.1 110)).1 t) from (gA_nI (by omega)).trans (d6 t (by omega))]
          · rw [if_neg e6] at cc cr
            refine fin (stO (Mr.1 110) (-1) ((S0 LK (Mr.1 110)).1 t)) ?_ ?_
            · rw [cc]
              cases hu : (S0 LK (Mr.1 110)).1 t with
              | none => rfl
              | some w =>
                have hw := S0_inv.1 t w hu
                rw [if_neg (show ¬ oI (some w) = -1 from by rw [oI, nI_ne_m1 (by omega)]; exact not_false), oI, show f_X4_ofThing r.2 (Mc.2.2 1 3) (nI w) 0 = (Mr.1 110) (12 + 5 * w + 0) from ofT (c := 0) hk u6 (by omega) (by decide), stepC u6 hI]
                rfl
            · rw [cr, show gA N 118 (nI t) = stO (Mr.1 110) (-1) ((S0 LK (Mr.1 110)).1 t) from (gA_nI (by omega)).trans (d7 t (by omega))]
      · have k5 : k < 5 := by rw [l_5, nI_leI (by omega) (by omega)] at c5; omega
        refine ⟨Mc, sI Mr 109 0 0, ⟨_, (Mr.1 110) (57 + 5 * t + k), ?_, ?_, Or.inl ⟨rfl, t0⟩⟩, RR_q HL h KpC.rf ⟨rfl, rfl⟩ KpR.t⟩
        · unfold f_X9_visitor
          rw [n1, Option.bind_some, Sum.elim_inl, if_neg k2, if_pos (show nI k ≤ 7 from k3), if_neg c5, Option.bind_some, gq, if_pos hk, ofV hk hM (by omega) k5]
        · unfold f_X10_visitor f_X10_visitor_J28
          rw [n2, Option.bind_some, if_pos rfl, if_pos (show f_X10_isIn Mr (nI k) 0 7 = true from k4), Option.bind_some, t0, if_pos (by decide), if_neg c5, ofOneR (by omega) k5, sI_fn (by decide), Option.bind_some]
    · refine ⟨Mc, sI Mr 109 0 2, ⟨_, 0, ?_, ?_, Or.inr ⟨4, rfl, by rw [t0]; rfl, by rw [t0]; decide⟩⟩, RR_q HL h KpC.rf ⟨rfl, rfl⟩ KpR.t⟩
      · unfold f_X9_visitor f_X9_visitor_J15
        rw [n1, Option.bind_some, Sum.elim_inl]
        rcases k1 with k1 | ⟨k1, k3⟩
        · rw [if_pos k1]
        · rw [if_neg k1, if_neg (show ¬ x2 ≤ 7 from k3)]
      · unfold f_X10_visitor f_X10_visitor_J28
        rw [n2, Option.bind_some, if_pos rfl, if_neg (show ¬ f_X10_isIn Mr x2 0 7 = true from by rw [show f_X10_isIn Mr x2 0 7 = false from k2]; decide), Option.bind_some, t0, if_neg (by decide)]
  · refine ⟨Mc, sI Mr 109 0 1, ⟨_, 0, ?_, ?_, Or.inr ⟨2, rfl, by rw [t0]; rfl, by rw [t0]; decide⟩⟩, RR_q HL h KpC.rf ⟨rfl, rfl⟩ KpR.t⟩
    · unfold f_X9_visitor
      rw [n1, Option.bind_some, Sum.elim_inr]
    · unfold f_X10_visitor f_X10_visitor_J28
      rw [n2, Option.bind_some, if_neg (by decide), Option.bind_some, t0, if_neg (by decide)]
end VISITOR
