/-! thing -/
section THING2
variable {LR : Mm → Nat → (Nat → Int32) → Prop} {LK : (Nat → Int32) → Nat → Nat → Int32 → Int32} {n : Nat} {M N Mc Mr Nc Nr : Mm} {q L B a b c : Nat} {m m2 : Nat → Int32} {x x1 x2 x3 x4 x5 : Int32}
theorem s_5 (HL : LSpec LR LK) (h : RR LR n Mc Mr) : ∃ Nc Nr, so_5 x1 x2 x3 x4 x5 Mc Mr Nc Nr ∧ RR LR (n + 1) Nc Nr := by
  obtain ⟨hk, hkL, hM, hI, hR⟩ := h.cur
  have hT := hI.t
  have hV := hI.v
  have gq : gR Mc 1 3 = Mc.2.2 1 3 := rfl
  rcases needT h x1 with ⟨t, t1, rfl, n1, n2⟩ | ⟨n1, n2⟩
  · rcases rngI (M := Mr) 7 (by decide) x2 with ⟨k, k1, rfl, k2, k3, k4⟩ | ⟨k1, k2⟩
    · have cc : f_X9_thing Mc (nI t) (nI k) = if (5 : Int32) ≤ nI k then ((f_X9_tomorrow Mc (Mc.2.2 1 3)).bind (fun rr4 => if nI k = 5 then (some (.inl ((t_X9_at rr4.2 84 (nI t)), rr4.2))) else (if nI k = 6 then ((f_X6_hadBy rr4.2 (nI t)).bind (fun r6 => some (.inl (r6, rr4.2)))) else ((f_X6_envied rr4.2 (nI t)).bind (fun r5 => some (.inl (r5, rr4.2))))))) else some (.inl (f_X4_ofThing Mc (Mc.2.2 1 3) (nI t) (nI k), Mc)) := by
        unfold f_X9_thing
        rw [n1, Option.bind_some, Sum.elim_inl, if_neg k2, if_pos (show nI k ≤ 7 from k3), Option.bind_some, gq, if_pos hk, Option.bind_some, if_pos hk]
      have cr : f_X10_thing Mr (nI t) (nI k) = if (5 : Int32) ≤ nI k then ((f_X10_tomorrow (sI Mr 109 0 0)).bind (fun M3 => if nI k = 5 then ((f_X10_ringsFor M3 (nI t)).bind (fun r6 => some (r6, M3))) else (if nI k = 6 then ((f_X10_hadBy M3 (nI t)).bind (fun r5 => some (r5, M3))) else ((f_X10_envy M3 (nI t)).bind (fun r4 => some (r4, M3)))))) else ((f_X10_of (sI Mr 109 0 0) (nI t) (nI k)).bind (fun r7 => some (r7, sI Mr 109 0 0))) := by
        unfold f_X10_thing f_X10_thing_J28
        rw [n2, Option.bind_some, if_pos rfl, if_pos (show f_X10_isIn Mr (nI k) 0 7 = true from k4), Option.bind_some, t0, if_pos (by decide)]
      by_cases c5 : (5 : Int32) ≤ nI k
      · obtain ⟨r, u1, u2, u3, u4, u5, u6, u7, u8, u9⟩ := qdayC HL h
        obtain ⟨N, d1, d2, d3, d4, d5, d6, d7⟩ := qdayR HL h 0
        have b1 : ∀ v w, (S0 LK (Mr.1 110)).1 v = some w → w < 2 ^ 31 ∧ v < vN (Mr.1 110) := fun v w e => ⟨S0_b hI v w e, (S0_inv.1 v w e).1⟩
        have fin : ∀ w : Int32, f_X9_thing Mc (nI t) (nI k) = some (.inl (w, r.2)) → f_X10_thing Mr (nI t) (nI k) = some (w, N) → ∃ Nc Nr, so_5 (nI t) (nI k) x3 x4 x5 Mc Mr Nc Nr ∧ RR LR (n + 1) Nc Nr := fun w w1 w2 => ⟨r.2, N, ⟨_, w, w1, w2, Or.inl ⟨rfl, d3⟩⟩, RR_q HL h u3 ⟨u4, u5⟩ d2⟩
        rw [if_pos c5, u1, Option.bind_some] at cc
        rw [if_pos c5, d1, Option.bind_some] at cr
        by_cases e5 : nI k = 5
        · refine fin (clr LK (Mr.1 110) t) ?_ ?_
          · rw [cc, if_pos e5, at_nI (N := 9) (by decide) (by omega), u8 t t1]
          · rw [cr, if_pos e5, ringsForR d4 hI d5 t1]; rfl
        · rw [if_neg e5] at cc cr
          by_cases e6 : nI k = 6
          · refine fin (bset (fun v => decide ((S0 LK (Mr.1 110)).1 v = some t)) 10) ?_ ?_
            · rw [cc, if_pos e6, hadByC u9 (S0_b hI) (by omega)]; rfl
            · rw [cr, if_pos e6, hadByR d4 hI d6 (S0_b hI) (by omega), S0_set hI (fun o => decide (o = some t)) (by simp)]; rfl
          · rw [if_neg e6] at cc cr
            have eC := envC (M := r.2) (c := vN (Mr.1 110)) (lk := fun v => lkv LK (Mr.1 110) t v) (p := fun v => rgs (Mr.1 110) t (lkv LK (Mr.1 110) t v)) u9 b1 (by omega) (t := t) (by omega) (fun v hv => u7 t v t1 hv) (u8 t t1)
            have eR := envR d4 hI d5 d6 (S0_b hI) t1
            have e1 : bset (envB (fun v => lkv LK (Mr.1 110) t v) (fun v => rgs (Mr.1 110) t (lkv LK (Mr.1 110) t v)) (S0 LK (Mr.1 110)).1 t (topL (fun v => lkv LK (Mr.1 110) t v) (S0 LK (Mr.1 110)).1 t (-1) (vN (Mr.1 110)))) (vN (Mr.1 110)) = bset (envB (fun v => lkv LK (Mr.1 110) t v) (fun v => rgs (Mr.1 110) t (lkv LK (Mr.1 110) t v)) (S0 LK (Mr.1 110)).1 t (topL (fun v => lkv LK (Mr.1 110) t v) (S0 LK (Mr.1 110)).1 t 0 (vN (Mr.1 110)))) 10 := by
              refine bset_eq (by omega) (by omega) (fun i hi => ?_)
              rw [env_eq (fun v hv => rgs_pos hv) i]
              cases hx : (S0 LK (Mr.1 110)).1 i with
              | none => simp [envB, hx]
              | some w =>
                have hh := (b1 i w hx).2
                have a1 : i < 10 := by omega
                simp [a1, hh]
            refine fin (bset (envB (fun v => lkv LK (Mr.1 110) t v) (fun v => rgs (Mr.1 110) t (lkv LK (Mr.1 110) t v)) (S0 LK (Mr.1 110)).1 t (topL (fun v => lkv LK (Mr.1 110) t v) (S0 LK (Mr.1 110)).1 t 0 (vN (Mr.1 110)))) 10) ?_ ?_
            · rw [cc, eC]; rfl
            · rw [cr, eR, e1]; rfl
      · have k5 : k < 5 := by rw [l_5, nI_leI (by omega) (by omega)] at c5; omega
        rw [if_neg c5, ofT hk hM (by omega) k5] at cc
        rw [if_neg c5, ofR (by omega) k5, sI_fn (by decide), Option.bind_some] at cr
        exact ⟨Mc, sI Mr 109 0 0, ⟨_, _, cc, cr, Or.inl ⟨rfl, t0⟩⟩, RR_q HL h KpC.rf ⟨rfl, rfl⟩ KpR.t⟩
    · refine ⟨Mc, sI Mr 109 0 2, ⟨_, 0, ?_, ?_, Or.inr ⟨4, rfl, by rw [t0]; rfl, by rw [t0]; decide⟩⟩, RR_q HL h KpC.rf ⟨rfl, rfl⟩ KpR.t⟩
      · unfold f_X9_thing f_X9_thing_J15
        rw [n1, Option.bind_some, Sum.elim_inl]
        rcases k1 with k1 | ⟨k1, k3⟩
        · rw [if_pos k1]
        · rw [if_neg k1, if_neg (show ¬ x2 ≤ 7 from k3)]
      · unfold f_X10_thing f_X10_thing_J28
        rw [n2, Option.bind_some, if_pos rfl, if_neg (show ¬ f_X10_isIn Mr x2 0 7 = true from by rw [show f_X10_isIn Mr x2 0 7 = false from k2]; decide), Option.bind_some, t0, if_neg (by decide)]
  · refine ⟨Mc, sI Mr 109 0 1, ⟨_, 0, ?_, ?_, Or.inr ⟨2, rfl, by rw [t0]; rfl, by rw [t0]; decide⟩⟩, RR_q HL h KpC.rf ⟨rfl, rfl⟩ KpR.t⟩
    · unfold f_X9_thing
      rw [n1, Option.bind_some, Sum.elim_inr]
    · unfold f_X10_thing f_X10_thing_J28
      rw [n2, Option.bind_some, if_neg (by decide), Option.bind_some, t0, if_neg (by decide)]
end THING2
