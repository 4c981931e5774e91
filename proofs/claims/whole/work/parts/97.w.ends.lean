/-! dearest: the class's best end, and the exchange -/
section ENDS
variable {T V f n m k i v t j r : Nat} {G : Nat → Nat → Bool} {R : Nat → Nat} {l : Nat → Nat → Nat} {b b2 bc : Nat → Option Nat} {U p : Nat → Int} {fr fr2 : Nat → Nat} {dT dV : Nat → Int} {lT lV : Nat → Nat} {mu lam X Z a c : Int} {o : Option Nat} {tau A B : Nat} {sg sg2 : Nat → Nat → Nat} {M N K : Mm} {x y z : Int32} {fl : Bool}
theorem bI_0 {q : Bool} : (bI q = 0) = (q = false) := by cases q <;> decide
theorem CMc.to (h : CMc T V M dT dV fr) (h1 : N.2.1 95 = M.2.1 95) (h2 : N.2.1 94 = M.2.1 94) (h3 : N.1 96 = M.1 96) : CMc T V N dT dV fr := ⟨fun t ht => by rw [h1]; exact h.1 t ht, fun v hv => by rw [h2]; exact h.2.1 v hv, fun t ht hd => by rw [h3]; exact h.2.2 t ht hd⟩
/-- the things reached -/
theorem thingsC (hC : CxC T V G l N) (hBy : ∀ v, v < V → N.1 92 v = oI (b v)) (hW : Way T V 0 G R b) (hP : PD T V 0 G R (wC l) b U p mu) (hA : ABS T V 0 G (wC l) ZC b (2 * r + 1) (2 * r) X (fun v' t' => if b v' = some t' then 2 * r + 1 else 2 * r) dT dV fr lT lV) (hl : ∀ t, t < T → lT t ≤ 2 * r) (hR : CMc T V N dT dV fr) (hX0 : 0 ≤ X) (hX : X ≤ 900000000000000000) : Tr (f_X0_reachThings N) (fun z => Fr [95, 96] N z.2 ∧ ∃ dT fr lT, CMc T V z.2 dT dV fr ∧ ABS T V 0 G (wC l) ZC b (2 * r + 1) (2 * r) (X + 11880000000000 * 90) (fun _ _ => 2 * r + 1) dT dV fr lT lV ∧ (z.1 = false → ∀ t, t < T → lT t ≤ 2 * r)) := by
  have hC0 := hC
  obtain ⟨h1, h2, h3, h4, h5, h6⟩ := hC
  have hWJ : WJ = 11880000000000 := rfl
  have hZ : ZC = -1000000000000000000 := rfl
  unfold f_X0_reachThings
  refine Tr.bind (Q := fun e : Mm × Int32 => ∃ fl, e.2 = bI fl ∧ Fr [95, 96] N e.1 ∧ ∃ dT fr lT, CMc T V e.1 dT dV fr ∧ ABS T V 0 G (wC l) ZC b (2 * r + 1) (2 * r) (X + 11880000000000 * 90) (fun _ _ => 2 * r + 1) dT dV fr lT lV ∧ (fl = false → ∀ t, t < T → lT t ≤ 2 * r)) ?_ (fun e he => ?_)
  · refine lp0 (fun v (s : Mm × Bool) => (s.1, bI s.2, nI v)) V (fun v s => Fr [95, 96] N s.1 ∧ ∃ dT fr lT, CMc T V s.1 dT dV fr ∧ ABS T V 0 G (wC l) ZC b (2 * r + 1) (2 * r) (X + 11880000000000 * (9 * v)) (fun v' t' => if b v' = some t' ∨ v' < v then 2 * r + 1 else 2 * r) dT dV fr lT lV ∧ (s.2 = false → ∀ t, t < T → lT t ≤ 2 * r)) (by omega) (N, false) rfl ⟨Fr.rf, dT, fr, lT, hR, hA.mono (Nat.le_refl _) (Nat.le_refl _) (by omega) (fun v' t' _ _ _ => by
      by_cases e : b v' = some t'
      · rw [if_pos (Or.inl e), if_pos e]; exact Nat.le_refl _
      · rw [if_neg (fun h => h.elim e (Nat.not_lt_zero _)), if_neg e]; exact Nat.le_refl _), fun _ => hl⟩ (fun v s hv hs => ?_) (fun s hs => ?_)
    · obtain ⟨K, q⟩ := s
      obtain ⟨hF, dT, fr, lT, hR, hA, hl⟩ := hs
      have hF : Fr [95, 96] N K := hF
      have hR : CMc T V K dT dV fr := hR
      have hl : q = false → ∀ t, t < T → lT t ≤ 2 * r := hl
      show Tr (f_X0_reachThings_L4 K (bI q) (nI v)) _
      have g94 : t_X9_at_ K 94 (nI v) = zJ (dV v) := by rw [a94 (by omega)]; exact hR.2.1 v hv
      unfold f_X0_reachThings_L4
      rw [show gI K 90 7 = nI V from by show K.1 90 7 = _; rw [(hF 90 (by simp)).1]; exact h4, if_neg (by rw [nI_leI (by omega) (by omega)]; omega), g94, show nI v + 1 = nI (v + 1) from by rw [l_1, nI_add]]
      by_cases cd : dV v = ZC
      · have lp : Tr (loop FU (fun a_3 => f_X0_reachThings_L24 a_3.1 a_3.2.1 (nI v) (zJ (dV v)) a_3.2.2) (K, bI q, 0)) (fun e => e = (K, bI q)) := by
          refine lp0 (fun k (s : Unit) => (K, bI q, nI k)) T (fun _ _ => True) (by omega) () rfl trivial (fun k _ hk _ => ?_) (fun _ _ => ?_)
          · show Tr (f_X0_reachThings_L24 K (bI q) (nI v) (zJ (dV v)) (nI k)) _
            unfold f_X0_reachThings_L24
            rw [show gI K 90 6 = nI T from by show K.1 90 6 = _; rw [(hF 90 (by simp)).1]; exact h3, if_neg (by rw [nI_leI (by omega) (by omega)]; omega), zJ_Z, if_pos (by rw [cd, cmp_eq (by omega) (by omega) (by omega) (by omega)])]
            exact Tr.some (Or.inr ⟨_, rfl, rfl⟩)
          · show Tr (f_X0_reachThings_L24 K (bI q) (nI v) (zJ (dV v)) (nI T)) _
            unfold f_X0_reachThings_L24
            rw [show gI K 90 6 = nI T from by show K.1 90 6 = _; rw [(hF 90 (by simp)).1]; exact h3, if_pos (by rw [nI_leI (by omega) (by omega)]; omega)]
            exact Tr.some ⟨_, rfl, rfl⟩
        refine Tr.bind lp (fun e he => ?_)
        rw [he]
        refine Tr.some (Or.inl ⟨(K, q), rfl, hF, dT, fr, lT, hR, (abs_up (sg2 := fun v' t' => if b v' = some t' ∨ v' < v + 1 then 2 * r + 1 else 2 * r) hA (fun v' t' g1 g2 g3 g4 hb => ?_) (fun v' t' g1 g2 g3 g4 hb => ?_)).mono (Nat.le_refl _) (Nat.le_refl _) (by omega) (fun _ _ _ _ _ => Nat.le_refl _), hl⟩)
        · by_cases e : v' = v
          · subst e; exact Or.inl cd
          · refine Or.inr (Or.inl ?_)
            by_cases e2 : v' < v
            · rw [if_pos (Or.inr (by omega)), if_pos (Or.inr e2)]; exact Nat.le_refl _
            · rw [if_neg (fun h => h.elim hb (by omega)), if_neg (fun h => h.elim hb e2)]; exact Nat.le_refl _
        · rw [if_pos (Or.inl hb), if_pos (Or.inl hb)]; exact Or.inr (Or.inl (Nat.le_refl _))
      · refine Tr.bind (Q := fun e : Mm × Int32 => ∃ fl, e.2 = bI fl ∧ Fr [95, 96] N e.1 ∧ ∃ dT fr lT, CMc T V e.1 dT dV fr ∧ ABS T V 0 G (wC l) ZC b (2 * r + 1) (2 * r) (X + 11880000000000 * (9 * v + T)) (fun v' t' => if b v' = some t' ∨ v' < v ∨ (v' = v ∧ t' < T) then 2 * r + 1 else 2 * r) dT dV fr lT lV ∧ (fl = false → ∀ t, t < T → lT t ≤ 2 * r)) ?_ (fun e he => ?_)
        · refine lp0 (fun t (s : Mm × Bool) => (s.1, bI s.2, nI t)) T (fun t s => Fr [95, 96] N s.1 ∧ ∃ dT fr lT, CMc T V s.1 dT dV fr ∧ ABS T V 0 G (wC l) ZC b (2 * r + 1) (2 * r) (X + 11880000000000 * (9 * v + t)) (fun v' t' => if b v' = some t' ∨ v' < v ∨ (v' = v ∧ t' < t) then 2 * r + 1 else 2 * r) dT dV fr lT lV ∧ (s.2 = false → ∀ t, t < T → lT t ≤ 2 * r)) (by omega) (K, q) rfl ⟨hF, dT, fr, lT, hR, hA.mono (Nat.le_refl _) (Nat.le_refl _) (by omega) (fun v' t' _ _ _ => by
            by_cases e : b v' = some t' ∨ v' < v
            · rw [if_pos (e.elim Or.inl (fun h => Or.inr (Or.inl h))), if_pos e]; exact Nat.le_refl _
            · rw [if_neg (fun h => h.elim (fun h => e (Or.inl h)) (fun h => h.elim (fun h => e (Or.inr h)) (fun h => Nat.not_lt_zero _ h.2))), if_neg e]; exact Nat.le_refl _), hl⟩ (fun t s ht hs => ?_) (fun s hs => ?_)
          · obtain ⟨K2, q2⟩ := s
            obtain ⟨hF2, dT, fr, lT, hR2, hA2, hl2⟩ := hs
            have hF2 : Fr [95, 96] N K2 := hF2
            have hR2 : CMc T V K2 dT dV fr := hR2
            have hl2 : q2 = false → ∀ t, t < T → lT t ≤ 2 * r := hl2
            show Tr (f_X0_reachThings_L24 K2 (bI q2) (nI v) (zJ (dV v)) (nI t)) _
            obtain ⟨N3, fl3, dT3, fr3, lT3, s1, s2, s3, s4, s5⟩ := pairF (fl := q2) (hC0.to (hF2.mono (by simp))) (fun u hu => by rw [(hF2 92 (by simp)).1]; exact hBy u hu) hW hP hA2 hR2 (by omega) (by omega) hv ht cd
            rw [s1]
            refine Tr.some (Or.inl ⟨(N3, fl3), rfl, hF2.tr s2, dT3, fr3, lT3, s3, s4.mono (Nat.le_refl _) (Nat.le_refl _) (by omega) (fun _ _ _ _ _ => Nat.le_refl _), fun h => ?_⟩)
            obtain ⟨s6, s7⟩ := s5 h
            rw [s7]; exact hl2 s6
          · obtain ⟨K2, q2⟩ := s
            obtain ⟨hF2, hs⟩ := hs
            have hF2 : Fr [95, 96] N K2 := hF2
            show Tr (f_X0_reachThings_L24 K2 (bI q2) (nI v) (zJ (dV v)) (nI T)) _
            unfold f_X0_reachThings_L24
            rw [show gI K2 90 6 = nI T from by show K2.1 90 6 = _; rw [(hF2 90 (by simp)).1]; exact h3, if_pos (by rw [nI_leI (by omega) (by omega)]; omega)]
            exact Tr.some ⟨_, rfl, q2, rfl, hF2, hs⟩
        · obtain ⟨K2, e2⟩ := e
          obtain ⟨q2, e3, hF2, dT, fr, lT, hR2, hA2, hl2⟩ := he
          have e3 : e2 = bI q2 := e3
          rw [e3]
          refine Tr.some (Or.inl ⟨(K2, q2), rfl, hF2, dT, fr, lT, hR2, hA2.mono (Nat.le_refl _) (Nat.le_refl _) (by omega) (fun v' t' _ _ g3 => ?_), hl2⟩)
          by_cases e : b v' = some t' ∨ v' < v + 1
          · rw [if_pos e, if_pos (e.elim Or.inl (fun h => Or.inr (by omega)))]; exact Nat.le_refl _
          · rw [if_neg e, if_neg (fun h => e (h.elim Or.inl (fun h => Or.inr (by omega))))]; exact Nat.le_refl _
    · obtain ⟨K, q⟩ := s
      obtain ⟨hF, dT, fr, lT, hR, hA, hl⟩ := hs
      have hF : Fr [95, 96] N K := hF
      show Tr (f_X0_reachThings_L4 K (bI q) (nI V)) _
      unfold f_X0_reachThings_L4
      rw [show gI K 90 7 = nI V from by show K.1 90 7 = _; rw [(hF 90 (by simp)).1]; exact h4, if_pos (by rw [nI_leI (by omega) (by omega)]; omega)]
      exact Tr.some ⟨_, rfl, q, rfl, hF, dT, fr, lT, hR, hA.mono (Nat.le_refl _) (Nat.le_refl _) (by omega) (fun v' t' _ g2 _ => by rw [if_pos (Or.inr g2)]; exact Nat.le_refl _), hl⟩
  · obtain ⟨fl, e1, he⟩ := he
    rw [e1]
    cases fl with
    | false => rw [if_pos (show bI false = 0 from rfl)]; exact Tr.some he
    | true => rw [if_neg (show ¬ bI true = 0 by decide), if_pos (show bI true = 1 from rfl)]; exact Tr.some he
/-- the visitors reached -/
theorem visitorsC (hC : CxC T V G l N) (hBy : ∀ v, v < V → N.1 92 v = oI (b v)) (hW : Way T V 0 G R b) (hA : ABS T V 0 G (wC l) ZC b (2 * r + 1) (2 * r + 2) X (fun v' t' => if b v' = some t' then 2 * r + 1 else 2 * r + 2) dT dV fr lT lV) (hl : ∀ v, v < V → lV v ≤ 2 * r) (hR : CMc T V N dT dV fr) (hX0 : 0 ≤ X) (hX : X ≤ 900000000000000000) : Tr (f_X0_reachVisitors N) (fun z => Fr [94] N z.2 ∧ ∃ dV lV, CMc T V z.2 dT dV fr ∧ ABS T V 0 G (wC l) ZC b (2 * r + 1) (2 * r + 2) (X + 11880000000000 * 10) (fun _ _ => 2 * r + 2) dT dV fr lT lV ∧ (z.1 = false → ∀ v, v < V → lV v ≤ 2 * r)) := by
  have hC0 := hC
  obtain ⟨h1, h2, h3, h4, h5, h6⟩ := hC
  have hWJ : WJ = 11880000000000 := rfl
  have hZ : ZC = -1000000000000000000 := rfl
  unfold f_X0_reachVisitors
  refine Tr.bind (Q := fun e : Mm × Int32 => ∃ fl, e.2 = bI fl ∧ Fr [94] N e.1 ∧ ∃ dV lV, CMc T V e.1 dT dV fr ∧ ABS T V 0 G (wC l) ZC b (2 * r + 1) (2 * r + 2) (X + 11880000000000 * 10) (fun _ _ => 2 * r + 2) dT dV fr lT lV ∧ (fl = false → ∀ v, v < V → lV v ≤ 2 * r)) ?_ (fun e he => ?_)
  · refine lp0 (fun v (s : Mm × Bool) => (s.1, bI s.2, nI v)) V (fun v s => Fr [94] N s.1 ∧ ∃ dV lV, CMc T V s.1 dT dV fr ∧ ABS T V 0 G (wC l) ZC b (2 * r + 1) (2 * r + 2) (X + 11880000000000 * v) (fun v' t' => if b v' = some t' ∧ ¬ v' < v then 2 * r + 1 else 2 * r + 2) dT dV fr lT lV ∧ (s.2 = false → ∀ v, v < V → lV v ≤ 2 * r)) (by omega) (N, false) rfl ⟨Fr.rf, dV, lV, hR, hA.mono (Nat.le_refl _) (Nat.le_refl _) (by omega) (fun v' t' _ _ _ => by
      by_cases e : b v' = some t'
      · rw [if_pos ⟨e, Nat.not_lt_zero _⟩, if_pos e]; exact Nat.le_refl _
      · rw [if_neg (fun h => e h.1), if_neg e]; exact Nat.le_refl _), fun _ => hl⟩ (fun v s hv hs => ?_) (fun s hs => ?_)
    · obtain ⟨K, q⟩ := s
      obtain ⟨hF, dV, lV, hR, hA, hl⟩ := hs
      have hF : Fr [94] N K := hF
      have hR : CMc T V K dT dV fr := hR
      have hl : q = false → ∀ v, v < V → lV v ≤ 2 * r := hl
      show Tr (f_X0_reachVisitors_L4 K (bI q) (nI v)) _
      have hCK : CxC T V G l K := hC0.to (hF.mono (by simp))
      have g94 : t_X9_at_ K 94 (nI v) = zJ (dV v) := by rw [a94 (by omega)]; exact hR.2.1 v hv
      have g92 : t_X9_at K 92 (nI v) = oI (b v) := by rw [a92 (by omega), (hF 92 (by simp)).1]; exact hBy v hv
      have hnx : nI v + 1 = nI (v + 1) := by rw [l_1, nI_add]
      -- nothing changes
      have stay : ABS T V 0 G (wC l) ZC b (2 * r + 1) (2 * r + 2) (X + 11880000000000 * v) (fun v' t' => if b v' = some t' ∧ ¬ v' < v + 1 then 2 * r + 1 else 2 * r + 2) dT dV fr lT lV → Tr (some (.inl (K, bI q, nI (v + 1))) : Option ((Mm × Int32 × Int32) ⊕ (Mm × Int32))) (fun x => (∃ s' : Mm × Bool, x = .inl (s'.1, bI s'.2, nI (v + 1)) ∧ Fr [94] N s'.1 ∧ ∃ dV lV, CMc T V s'.1 dT dV fr ∧ ABS T V 0 G (wC l) ZC b (2 * r + 1) (2 * r + 2) (X + 11880000000000 * ((v + 1 : Nat) : Int)) (fun v' t' => if b v' = some t' ∧ ¬ v' < v + 1 then 2 * r + 1 else 2 * r + 2) dT dV fr lT lV ∧ (s'.2 = false → ∀ v, v < V → lV v ≤ 2 * r)) ∨ ∃ e, x = .inr e ∧ ∃ fl, e.2 = bI fl ∧ Fr [94] N e.1 ∧ ∃ dV lV, CMc T V e.1 dT dV fr ∧ ABS T V 0 G (wC l) ZC b (2 * r + 1) (2 * r + 2) (X + 11880000000000 * 10) (fun _ _ => 2 * r + 2) dT dV fr lT lV ∧ (fl = false → ∀ v, v < V → lV v ≤ 2 * r)) := fun hA2 => Tr.some (Or.inl ⟨(K, q), rfl, hF, dV, lV, hR, hA2.mono (Nat.le_refl _) (Nat.le_refl _) (by omega) (fun _ _ _ _ _ => Nat.le_refl _), hl⟩)
      unfold f_X0_reachVisitors_L4
      rw [show gI K 90 7 = nI V from hCK.2.2.2.1, if_neg (by rw [nI_leI (by omega) (by omega)]; omega), g92]
      cases hb : b v with
      | none =>
        rw [if_pos (show oI none = -1 from rfl)]
        unfold f_X0_reachVisitors_J4_40
        rw [zJ_Z, if_pos (by rw [cmp_eq (by omega) (by omega) (by omega) (by omega)]), hnx]
        refine stay (hA.mono (Nat.le_refl _) (Nat.le_refl _) (Int.le_refl _) (fun v' t' _ _ _ => ?_))
        by_cases e : b v' = some t' ∧ ¬ v' < v
        · have hne : v' ≠ v := fun h => by rw [h, hb] at e; exact nomatch e.1
          rw [if_pos e, if_pos ⟨e.1, by omega⟩]; exact Nat.le_refl _
        · rw [if_neg e, if_neg (fun h => e ⟨h.1, by omega⟩)]; exact Nat.le_refl _
      | some t =>
        obtain ⟨w0, ht, hG⟩ := hW.1 v t hv hb
        have g95 : t_X9_at_ K 95 (nI t) = zJ (dT t) := by rw [a95 (by omega)]; exact hR.1 t ht
        have hwb := worthC hCK ht hv
        rw [if_pos hG] at hwb
        obtain ⟨l1, l2⟩ := h5 t v ht hv hG
        obtain ⟨w1, w2⟩ := wC_bd (v := v) h1 ht l1 l2
        have bT : -1000000000000000000 ≤ dT t ∧ dT t ≤ 1000000000000000000 := by
          by_cases e : dT t = ZC
          · exact ⟨by omega, by omega⟩
          · have := (hA.2.1 t ht).1 e
            omega
        have bV : -1000000000000000000 ≤ dV v ∧ dV v ≤ 1000000000000000000 := by
          by_cases e : dV v = ZC
          · exact ⟨by omega, by omega⟩
          · have := (hA.2.2.1 v hv).1 e
            omega
        have sgs : ∀ u s, (u ≠ v ∨ s ≠ t) → (if b u = some s ∧ ¬ u < v + 1 then 2 * r + 1 else 2 * r + 2) ≤ (if b u = some s ∧ ¬ u < v then 2 * r + 1 else 2 * r + 2) := fun u s hne => by
          by_cases e : b u = some s ∧ ¬ u < v
          · have hne2 : u ≠ v := fun h => by
              rw [h, hb] at e
              have := Option.some.inj e.1
              omega
            rw [if_pos e, if_pos ⟨e.1, by omega⟩]; exact Nat.le_refl _
          · rw [if_neg e, if_neg (fun h => e ⟨h.1, by omega⟩)]; exact Nat.le_refl _
        rw [if_neg (show ¬ oI (some t) = -1 by rw [oI, nI_ne_m1 (by omega)]; exact not_false), show oI (some t) = nI t from rfl, g95]
        unfold f_X0_reachVisitors_J4_40
        rw [zJ_Z, hwb, zJ_sub, g94, hnx]
        by_cases c1 : dT t = ZC
        · rw [if_pos (by rw [cmp_eq (by omega) (by omega) (by omega) (by omega)]; exact c1)]
          exact stay (skip_ok (v := v) (t := t) hA (fun _ hb2 => absurd hb hb2) (fun _ _ hd => absurd c1 hd) sgs)
        · have b2 := (hA.2.1 t ht).1 c1
          rw [if_neg (by rw [cmp_eq (by omega) (by omega) (by omega) (by omega)]; exact c1)]
          by_cases c2 : dT t - wC l t v ≤ dV v
          · rw [if_pos (by rw [cmp_le (by omega) (by omega) (by omega) (by omega)]; exact c2)]
            exact stay (skip_ok (v := v) (t := t) hA (fun _ hb2 => absurd hb hb2) (fun _ _ _ => c2) sgs)
          · rw [if_neg (by rw [cmp_le (by omega) (by omega) (by omega) (by omega)]; exact c2), p94 (by omega), Option.bind_some]
            have hr := relaxB (sg2 := fun v' t' => if b v' = some t' ∧ ¬ v' < v + 1 then 2 * r + 1 else 2 * r + 2) (W := WJ) (tau := 2 * r + 2) hW hA hC0.ws (by omega) (Nat.le_refl _) hv hb c1 (by omega) (by rw [if_pos ⟨hb, Nat.lt_irrefl _⟩]; omega) (fun u s => by
              by_cases e : b u = some s ∧ ¬ u < v + 1
              · rw [if_pos e]; omega
              · rw [if_neg e]; exact Nat.le_refl _) sgs
            refine Tr.some (Or.inl ⟨(sJ K 94 v (zJ (dT t - wC l t v)), true), rfl, hF.tr (Fr.sJ (by simp)), _, _, ⟨fun s hs2 => ?_, fun u hu => ?_, fun s hs2 hds => ?_⟩, hr.mono (Nat.le_refl _) (Nat.le_refl _) (by omega) (fun _ _ _ _ _ => Nat.le_refl _), fun h => nomatch h⟩)
            · show (sJ K 94 v (zJ (dT t - wC l t v))).2.1 95 s = _
              rw [sJ_fn (by decide)]; exact hR.1 s hs2
            · show (sJ K 94 v (zJ (dT t - wC l t v))).2.1 94 u = _
              rw [sJ_at]
              by_cases e : u = v
              · subst e; rw [if_pos ⟨rfl, rfl⟩, upI_eq]
              · rw [if_neg (fun h => e h.2), upI_ne e]; exact hR.2.1 u hu
            · show (sJ K 94 v (zJ (dT t - wC l t v))).1 96 s = _
              rw [sJ_1]; exact hR.2.2 s hs2 hds
    · obtain ⟨K, q⟩ := s
      obtain ⟨hF, dV, lV, hR, hA, hl⟩ := hs
      have hF : Fr [94] N K := hF
      show Tr (f_X0_reachVisitors_L4 K (bI q) (nI V)) _
      unfold f_X0_reachVisitors_L4
      rw [show gI K 90 7 = nI V from by show K.1 90 7 = _; rw [(hF 90 (by simp)).1]; exact h4, if_pos (by rw [nI_leI (by omega) (by omega)]; omega)]
      exact Tr.some ⟨_, rfl, q, rfl, hF, dV, lV, hR, hA.mono (Nat.le_refl _) (Nat.le_refl _) (by omega) (fun v' t' _ g2 _ => by rw [if_neg (fun h => h.2 g2)]; exact Nat.le_refl _), hl⟩
  · obtain ⟨fl, e1, he⟩ := he
    rw [e1]
    cases fl with
    | false => rw [if_pos (show bI false = 0 from rfl)]; exact Tr.some he
    | true => rw [if_neg (show ¬ bI true = 0 by decide), if_pos (show bI true = 1 from rfl)]; exact Tr.some he
theorem fillJ {i : Nat} {x : Int64} (hi : ln i < 10000) : Tr (f_J7_fill_d0a16 M i x) (fun N => Fr [i] M N ∧ ∀ k, k < ln i → N.2.1 i k = x) := by
  unfold f_J7_fill_d0a16
  refine Tr.bind (Q := fun N => Fr [i] M N ∧ ∀ k, k < ln i → N.2.1 i k = x) ?_ (fun N hN => Tr.some hN)
  refine lp0 (fun j (N : Mm) => (N, nI j)) (ln i) (fun j N => Fr [i] M N ∧ ∀ k, k < j → N.2.1 i k = x) hi M rfl ⟨Fr.rf, fun k hk => absurd hk (Nat.not_lt_zero k)⟩ (fun j N hj hP => ?_) (fun N hP => ?_)
  · show Tr (f_J7_fill_d0a16_L6 N i x (nI j) (nI (ln i))) _
    unfold f_J7_fill_d0a16_L6
    rw [if_neg (by rw [nI_leI (by omega) (by omega)]; omega), if_pos (ibs_nI hj (ln_lt i)), Option.bind_some, show sL N i (nI j) x = sJ N i j x from by unfold sL; rw [nI_clamp (by omega)], l_1, nI_add]
    refine Tr.some (Or.inl ⟨_, rfl, hP.1.tr (Fr.sJ (by simp)), fun k hk => ?_⟩)
    rw [sJ_at]
    by_cases e : k = j
    · rw [if_pos ⟨rfl, e⟩]
    · rw [if_neg (fun h => e h.2)]; exact hP.2 k (by omega)
  · show Tr (f_J7_fill_d0a16_L6 N i x (nI (ln i)) (nI (ln i))) _
    unfold f_J7_fill_d0a16_L6
    rw [if_pos (Int32.le_refl _)]
    exact Tr.some ⟨_, rfl, hP⟩
def RlC (T V : Nat) (R : Nat → Nat) (b : Nat → Option Nat) (N : Mm) : Prop := ∀ t, t < T → N.1 93 t = nI (R t - cn b t V) ∧ R t ≤ 3
/-- the best end, of gains that are found -/
theorem bestC (hC : CxC T V G l N) (hRl : RlC T V R b N) (hW : Way T V 0 G R b) (hd : ∀ t, t < T → N.2.1 95 t = zJ (dT t)) (hb : ∀ t, t < T → -1000000000000000000 ≤ dT t ∧ dT t ≤ 1000000000000000000) : Tr (loop FU (fun a_9 => f_X0_bestEnd_L101 N a_9.1 a_9.2) ((-1), 0)) (fun r => ∃ o, r = oI o ∧ Btt T V R b dT T o) := by
  obtain ⟨h1, h2, h3, h4, h5, h6⟩ := hC
  have g6 : gI N 90 6 = nI T := h3
  refine lp0 (fun k (o : Option Nat) => (oI o, nI k)) T (fun k o => Btt T V R b dT k o ∧ k ≤ T) (by omega) none rfl ⟨⟨fun _ t ht => absurd ht (Nat.not_lt_zero _), fun s hs => nomatch hs⟩, Nat.zero_le _⟩ (fun k o hk hP => ?_) (fun o hP => ?_)
  · obtain ⟨hP, -⟩ := hP
    show Tr (f_X0_bestEnd_L101 N (oI o) (nI k)) _
    have gk : t_X9_at_ N 95 (nI k) = zJ (dT k) := by rw [a95 (by omega)]; exact hd k hk
    obtain ⟨d1, d2⟩ := hb k hk
    obtain ⟨q1, q2⟩ := hRl k hk
    have gr : t_X9_at N 93 (nI k) = nI (R k - cn b k V) := by rw [a93 (by omega)]; exact q1
    have hcn := hW.2 k hk
    have nx : ∀ o2, Btt T V R b dT (k + 1) o2 → Tr (some (.inl (oI o2, nI k + 1)) : Option ((Int32 × Int32) ⊕ Int32)) (fun x => (∃ s', x = .inl (oI s', nI (k + 1)) ∧ Btt T V R b dT (k + 1) s' ∧ k + 1 ≤ T) ∨ ∃ r, x = .inr r ∧ ∃ o, r = oI o ∧ Btt T V R b dT T o) := fun o2 h => by
      rw [l_1, nI_add]
      exact Tr.some (Or.inl ⟨o2, rfl, h, by omega⟩)
    unfold f_X0_bestEnd_L101
    rw [g6, if_neg (by rw [nI_leI (by omega) (by omega)]; omega), gr, gk, zJ_0]
    by_cases c2 : R k ≤ cn b k V
    · rw [if_pos (by rw [show (0 : Int32) = nI 0 from rfl, nI_leI (by omega) (by omega)]; omega)]
      exact nx o (btt_skip hP (fun h => by omega))
    · rw [if_neg (by rw [show (0 : Int32) = nI 0 from rfl, nI_leI (by omega) (by omega)]; omega)]
      by_cases c1 : dT k ≤ 0
      · rw [if_pos (by rw [cmp_le (by omega) (by omega) (by omega) (by omega)]; exact c1)]
        exact nx o (btt_skip hP (fun _ => Or.inl c1))
      · rw [if_neg (by rw [cmp_le (by omega) (by omega) (by omega) (by omega)]; exact c1)]
        cases ho : o with
        | none =>
          rw [if_pos (show oI none = -1 from rfl)]
          refine nx (some k) (btt_take hP (by omega) (by omega) (fun s hs => ?_))
          rw [ho] at hs; exact nomatch hs
        | some s =>
          obtain ⟨s1, s2, s3, s4⟩ := hP.2 s ho
          have hsT : s < T := by omega
          have gs : t_X9_at_ N 95 (nI s) = zJ (dT s) := by rw [a95 (by omega)]; exact hd s hsT
          obtain ⟨e1, e2⟩ := hb s hsT
          rw [if_neg (show ¬ oI (some s) = -1 by rw [oI, nI_ne_m1 (by omega)]; exact not_false), show oI (some s) = nI s from rfl, gs]
          by_cases c3 : dT k ≤ dT s
          · rw [if_pos (by rw [cmp_le (by omega) (by omega) (by omega) (by omega)]; exact c3)]
            exact nx (some s) (ho ▸ btt_skip hP (fun _ => Or.inr ⟨s, ho, c3⟩))
          · rw [if_neg (by rw [cmp_le (by omega) (by omega) (by omega) (by omega)]; exact c3)]
            refine nx (some k) (btt_take hP (by omega) (by omega) (fun s' hs => ?_))
            rw [ho] at hs; cases hs; omega
  · show Tr (f_X0_bestEnd_L101 N (oI o) (nI T)) _
    unfold f_X0_bestEnd_L101
    rw [g6, if_pos (by rw [nI_leI (by omega) (by omega)]; omega)]
    exact Tr.some ⟨_, rfl, o, rfl, hP.1⟩
theorem orJ {p q p2 q2 : Bool} {K : Mm} {x : Int32} (hp : p2 = p) (hq : q2 = q) : (if q2 = true then f_X0_bestEnd_J57_85 K x else if p2 = true then f_X0_bestEnd_J57_85 K x else some (.inl (K, 0, x + 1)) : Option ((Mm × Int32 × Int32) ⊕ Mm)) = some (.inl (K, bI (p || q), x + 1)) := by
  rw [hp, hq]
  cases p <;> cases q <;> rfl
/-- the best end -/
theorem bestEndC (hC : CxC T V G l M) (hBy : ∀ v, v < V → M.1 92 v = oI (b v)) (hRl : RlC T V R b M) (hW : Way T V 0 G R b) (hP : PD T V 0 G R (wC l) b U p mu) : Tr (f_X0_bestEnd M) (fun e => Fr [94, 95, 96] M e.2 ∧ ∃ o dT dV fr lT lV, e.1 = oI o ∧ CMc T V e.2 dT dV fr ∧ BF T V 0 G (wC l) ZC b dT dV fr lT lV ∧ FX T V 0 G (wC l) ZC b dT dV ∧ Btt T V R b dT T o) := by
  have hC0 := hC
  obtain ⟨h1, h2, h3, h4, h5, h6⟩ := hC
  have hWJ : WJ = 11880000000000 := rfl
  have hZ : ZC = -1000000000000000000 := rfl
  have l95 : ln 95 = 9 := by decide
  unfold f_X0_bestEnd
  refine Tr.bind (fillJ (by decide)) (fun N1 hN1 => ?_)
  obtain ⟨f1, m1⟩ := hN1
  rw [l95] at m1
  have A2 : Tr (loop FU (fun a_3 => f_X0_bestEnd_L12 a_3.1 a_3.2) (N1, 0)) (fun N => Fr [94] N1 N ∧ ∀ v, v < V → N.2.1 94 v = zJ (d0V V 0 ZC b v)) := by
    refine lp0 (fun k (N : Mm) => (N, nI k)) V (fun k N => Fr [94] N1 N ∧ ∀ v, v < k → N.2.1 94 v = zJ (d0V V 0 ZC b v)) (by omega) N1 rfl ⟨Fr.rf, fun v hv => absurd hv (Nat.not_lt_zero _)⟩ (fun k K hk hK => ?_) (fun K hK => ?_)
    · obtain ⟨hF, hK⟩ := hK
      show Tr (f_X0_bestEnd_L12 K (nI k)) _
      have g92 : t_X9_at K 92 (nI k) = oI (b k) := by rw [a92 (by omega), (hF 92 (by simp)).1, (f1 92 (by simp)).1]; exact hBy k hk
      have put : ∀ z : Int64, z = zJ (d0V V 0 ZC b k) → Tr (f_X0_bestEnd_J12_44 K (nI k) z (nI k)) (fun x => (∃ s' : Mm, x = .inl (s', nI (k + 1)) ∧ Fr [94] N1 s' ∧ ∀ v, v < k + 1 → s'.2.1 94 v = zJ (d0V V 0 ZC b v)) ∨ ∃ r, x = .inr r ∧ Fr [94] N1 r ∧ ∀ v, v < V → r.2.1 94 v = zJ (d0V V 0 ZC b v)) := fun z hz => by
        unfold f_X0_bestEnd_J12_44
        rw [p94 (by omega), Option.bind_some, l_1, nI_add]
        refine Tr.some (Or.inl ⟨_, rfl, hF.tr (Fr.sJ (by simp)), fun v hv => ?_⟩)
        rw [sJ_at]
        by_cases e : v = k
        · subst e; rw [if_pos ⟨rfl, rfl⟩]; exact hz
        · rw [if_neg (fun h => e h.2)]; exact hK v (by omega)
      unfold f_X0_bestEnd_L12
      rw [show gI K 90 7 = nI V from by show K.1 90 7 = _; rw [(hF 90 (by simp)).1, (f1 90 (by simp)).1]; exact h4, if_neg (by rw [nI_leI (by omega) (by omega)]; omega), g92]
      cases hb : b k with
      | none =>
        rw [if_pos (show oI none = -1 from rfl), zJ_0]
        refine put _ ?_
        rw [show d0V V 0 ZC b k = 0 from if_pos ⟨Nat.zero_le _, hk, hb⟩]
      | some t =>
        have := (hW.1 k t hk hb).2.1
        rw [if_neg (show ¬ oI (some t) = -1 by rw [oI, nI_ne_m1 (by omega)]; exact not_false), zJ_Z]
        refine put _ ?_
        rw [show d0V V 0 ZC b k = ZC from if_neg (fun h => by rw [hb] at h; exact nomatch h.2.2)]
    · obtain ⟨hF, hK⟩ := hK
      show Tr (f_X0_bestEnd_L12 K (nI V)) _
      unfold f_X0_bestEnd_L12
      rw [show gI K 90 7 = nI V from by show K.1 90 7 = _; rw [(hF 90 (by simp)).1, (f1 90 (by simp)).1]; exact h4, if_pos (by rw [nI_leI (by omega) (by omega)]; omega)]
      exact Tr.some ⟨_, rfl, hF, hK⟩
  refine Tr.bind A2 (fun N2 hN2 => ?_)
  obtain ⟨f2, m2⟩ := hN2
  have f12 : Fr [94, 95, 96] M N2 := (f1.mono (by simp)).tr (f2.mono (by simp))
  have A3 : Tr (loop FU (fun a_8 => f_X0_bestEnd_L57 a_8.1 a_8.2.1 a_8.2.2) (N2, 1, 0)) (fun N => Fr [94, 95, 96] M N ∧ ∃ dT dV fr lT lV, CMc T V N dT dV fr ∧ BF T V 0 G (wC l) ZC b dT dV fr lT lV ∧ FX T V 0 G (wC l) ZC b dT dV ∧ ∀ t, t < T → -1000000000000000000 ≤ dT t ∧ dT t ≤ 1000000000000000000) := by
    refine lp0 (fun k (s : Mm × Bool) => (s.1, bI s.2, nI k)) (V + 1) (fun k s => Fr [94, 95, 96] M s.1 ∧ ∃ dT dV fr lT lV, CMc T V s.1 dT dV fr ∧ ABS T V 0 G (wC l) ZC b (2 * k) (2 * k) (11880000000000 * 100 * (k : Int)) (fun v t => if b v = some t then 2 * k + 1 else 2 * k) dT dV fr lT lV ∧ (s.2 = false → FX T V 0 G (wC l) ZC b dT dV)) (by omega) (N2, true) rfl ⟨f12, fun _ => ZC, d0V V 0 ZC b, fun _ => 0, fun _ => 0, fun _ => 0, ⟨fun t ht => ?_, m2, fun t _ hd => absurd rfl hd⟩, abs_up (abs_0 (by omega)) (fun v t _ _ _ _ hb => Or.inr (Or.inl (by rw [if_neg hb]; exact Nat.le_refl _))) (fun v t _ _ _ _ _ => Or.inl rfl), (fun h => nomatch h)⟩ (fun k s hk hs => ?_) (fun s hs => ?_)
    · rw [(f2 95 (by simp)).2.1, m1 t (by omega), zJ_Z]
    · obtain ⟨K, q⟩ := s
      obtain ⟨hF, dT, dV, fr, lT, lV, hR, hA, hX⟩ := hs
      have hF : Fr [94, 95, 96] M K := hF
      have hR : CMc T V K dT dV fr := hR
      have hX : q = false → FX T V 0 G (wC l) ZC b dT dV := hX
      show Tr (f_X0_bestEnd_L57 K (bI q) (nI k)) _
      unfold f_X0_bestEnd_L57
      rw [show gI K 90 7 = nI V from by show K.1 90 7 = _; rw [(hF 90 (by simp)).1]; exact h4, if_neg (by rw [nI_ltI (by omega) (by omega)]; omega)]
      cases q with
      | false =>
        rw [if_pos (show bI false = 0 from rfl)]
        refine Tr.some (Or.inr ⟨K, rfl, hF, dT, dV, fr, lT, lV, hR, hA.1, hX rfl, fun t ht => ?_⟩)
        by_cases e : dT t = ZC
        · omega
        · have := (hA.2.1 t ht).1 e
          omega
      | true =>
        rw [if_neg (show ¬ bI true = 0 by decide)]
        have c1 : CxC T V G l K := hC0.to (hF.mono (by simp))
        have y1 : ∀ v, v < V → K.1 92 v = oI (b v) := fun v hv => by rw [(hF 92 (by simp)).1]; exact hBy v hv
        refine Tr.bind (thingsC (r := k) (X := 11880000000000 * 100 * (k : Int)) c1 y1 hW hP (hA.mono (by omega) (Nat.le_refl _) (Int.le_refl _) (fun _ _ _ _ _ => Nat.le_refl _)) (fun t ht => (hA.2.1 t ht).2) hR (by omega) (by omega)) (fun z hz => ?_)
        obtain ⟨z1, K2⟩ := z
        obtain ⟨g1, dT2, fr2, lT2, g2, g3, g4⟩ := hz
        have g1 : Fr [95, 96] K K2 := g1
        have g2 : CMc T V K2 dT2 dV fr2 := g2
        have g4 : z1 = false → ∀ t, t < T → lT2 t ≤ 2 * k := g4
        have lv : ∀ v, v < V → lV v ≤ 2 * k := fun v hv => (g3.2.2.1 v hv).2
        refine Tr.bind (visitorsC (r := k) (X := 11880000000000 * 100 * (k : Int) + 11880000000000 * 90) (c1.to (g1.mono (by simp))) (fun v hv => by rw [(g1 92 (by simp)).1]; exact y1 v hv) hW ((abs_up (sg2 := fun v' t' => if b v' = some t' then 2 * k + 1 else 2 * k + 2) g3 (fun v t _ g6 _ _ _ => Or.inr (Or.inr (by have := lv v g6; omega))) (fun v t _ _ _ _ hb => Or.inr (Or.inl (by rw [if_pos hb]; exact Nat.le_refl _)))).mono (Nat.le_refl _) (by omega) (Int.le_refl _) (fun _ _ _ _ _ => Nat.le_refl _)) lv g2 (by omega) (by omega)) (fun y hy => ?_)
        obtain ⟨z2, K3⟩ := y
        obtain ⟨q1, dV3, lV3, q2, q3, q4⟩ := hy
        have q1 : Fr [94] K2 K3 := q1
        have q2 : CMc T V K3 dT2 dV3 fr2 := q2
        have q4 : z2 = false → ∀ v, v < V → lV3 v ≤ 2 * k := q4
        rw [orJ (show (z1, K2).1 = z1 from rfl) (show (z2, K3).1 = z2 from rfl), l_1, nI_add]
        refine Tr.some (Or.inl ⟨(K3, z1 || z2), rfl, (hF.tr (g1.mono (by simp))).tr (q1.mono (by simp)), dT2, dV3, fr2, lT2, lV3, q2, (abs_up (sg2 := fun v t => if b v = some t then 2 * (k + 1) + 1 else 2 * (k + 1)) q3 (fun v t _ _ _ _ hb => Or.inr (Or.inl (by rw [if_neg hb]; omega))) (fun v t _ _ g7 _ _ => Or.inr (Or.inr (by have := (q3.2.1 t g7).2; omega)))).mono (by omega) (by omega) (by omega) (fun _ _ _ _ _ => Nat.le_refl _), fun h => ?_⟩)
        have h : (z1 || z2) = false := h
        obtain ⟨e1, e2⟩ := Bool.or_eq_false_iff.mp h
        exact fin_ok (W := WJ) hW q3 hC0.ws (by omega) (fun v t _ g6 _ _ => by have := q4 e2 v g6; omega) (fun v t _ _ g7 _ => by have := g4 e1 t g7; omega)
    · obtain ⟨K, q⟩ := s
      obtain ⟨hF, dT, dV, fr, lT, lV, hR, hA, hX⟩ := hs
      have hF : Fr [94, 95, 96] M K := hF
      show Tr (f_X0_bestEnd_L57 K (bI q) (nI (V + 1))) _
      unfold f_X0_bestEnd_L57
      rw [show gI K 90 7 = nI V from by show K.1 90 7 = _; rw [(hF 90 (by simp)).1]; exact h4, if_pos (by rw [nI_ltI (by omega) (by omega)]; omega)]
      refine Tr.some ⟨_, rfl, hF, dT, dV, fr, lT, lV, hR, hA.1, fin_ok (W := WJ) hW hA hC0.ws (by omega) (fun v t g1 g2 g3 hd => ?_) (fun v t g1 g2 g3 hd => ?_), fun t ht => ?_⟩
      · have := (late hW hA.1).2 v g1 g2 hd
        by_cases e : b v = some t
        · rw [if_pos e]; omega
        · rw [if_neg e]; omega
      · have := (late hW hA.1).1 t g3 hd
        by_cases e : b v = some t
        · rw [if_pos e]; omega
        · rw [if_neg e]; omega
      · by_cases e : dT t = ZC
        · omega
        · have := (hA.2.1 t ht).1 e
          omega
  refine Tr.bind A3 (fun N3 hN3 => ?_)
  obtain ⟨f3, dT, dV, fr, lT, lV, hR, hB, hX, hb⟩ := hN3
  refine Tr.bind (bestC (hC0.to (f3.mono (by simp))) (fun t ht => by rw [(f3 93 (by simp)).1]; exact hRl t ht) hW hR.1 hb) (fun q hq => ?_)
  obtain ⟨o, rfl, ho⟩ := hq
  exact Tr.some ⟨f3, o, dT, dV, fr, lT, lV, rfl, hR, hB, hX, ho⟩
/-- the exchange -/
theorem exC (hT : T ≤ 9) (hV : V ≤ 10) (hB : BF T V 0 G (wC l) ZC b dT dV fr lT lV) (hW : Way T V 0 G R b) (h96 : ∀ t, t < T → dT t ≠ ZC → N.1 96 t = nI (fr t)) (hBy : ∀ v, v < V → N.1 92 v = oI (b v)) (ht : t < T) (hd : dT t ≠ ZC) (hn : tr b fr n (some t)) : Tr (loop FU (fun a_4 => f_X0_exchange_L22 a_4.1 a_4.2.1 a_4.2.2) (N, nI t, 0)) (fun K => Fr [92] N K ∧ ∀ v, v < V → K.1 92 v = oI (exB fr n b (some t) v)) := by
  have hlen := (tr_len hW hB ht hd hn).2
  generalize hE : exB fr n b (some t) = E
  refine lpV (fun m (s : Mm × Int32 × Int32) => ∃ x bc k, s.2.1 = oI x ∧ s.2.2 = nI k ∧ k + m = n ∧ Fr [92] N s.1 ∧ (∀ v, v < V → s.1.1 92 v = oI (bc v)) ∧ tr b fr m x ∧ (∀ t, x = some t → t < T ∧ dT t ≠ ZC) ∧ (∀ v, bc v ≠ b v → ∃ k, m ≤ k ∧ tr b fr k (b v)) ∧ exB fr m bc x = E) (fun m s hs => ?_) FU n (N, nI t, 0) (by show n < 10000; omega) ⟨some t, b, 0, rfl, rfl, by omega, Fr.rf, hBy, hn, fun s hs => by cases hs; exact ⟨ht, hd⟩, fun v hv => absurd rfl hv, hE⟩
  obtain ⟨x, bc, k, e1, ek, en, e2, e3, e4, e5, e6, e7⟩ := hs
  obtain ⟨K, q, q2⟩ := s
  have e1 : q = oI x := e1
  have ek : q2 = nI k := ek
  have e2 : Fr [92] N K := e2
  have e3 : ∀ v, v < V → K.1 92 v = oI (bc v) := e3
  show Tr (f_X0_exchange_L22 K q q2) _
  unfold f_X0_exchange_L22
  rw [e1, ek]
  cases x with
  | none =>
    have : m = 0 := tr_uq e4 (show tr b fr 0 none from rfl)
    subst this
    have done : Tr (some (.inr K) : Option ((Mm × Int32 × Int32) ⊕ Mm)) (fun x => (∃ m' s', x = .inl s' ∧ (∃ x bc k, s'.2.1 = oI x ∧ s'.2.2 = nI k ∧ k + m' = n ∧ Fr [92] N s'.1 ∧ (∀ v, v < V → s'.1.1 92 v = oI (bc v)) ∧ tr b fr m' x ∧ (∀ t, x = some t → t < T ∧ dT t ≠ ZC) ∧ (∀ v, bc v ≠ b v → ∃ k, m' ≤ k ∧ tr b fr k (b v)) ∧ exB fr m' bc x = E) ∧ m' < 0) ∨ ∃ r, x = .inr r ∧ Fr [92] N r ∧ ∀ v, v < V → r.1 92 v = oI (E v)) := Tr.some (Or.inr ⟨K, rfl, e2, fun v hv => by rw [← e7]; exact e3 v hv⟩)
    by_cases c : (10 : Int32) ≤ nI k
    · rw [if_pos c]; exact done
    · rw [if_neg c, if_pos (show oI none = -1 from rfl)]; exact done
  | some s =>
    obtain ⟨s1, s2⟩ := e5 s rfl
    cases m with
    | zero => exact nomatch (show some s = none from e4)
    | succ m =>
      obtain ⟨c1, c2, c3, c4, c5, c6, c7⟩ := hB.2.2.1 s s1 s2
      obtain ⟨x1, x2, x3⟩ := ex_next e4 e6
      have g : t_X9_at K 96 (nI s) = nI (fr s) := by rw [a96 (by omega), (e2 96 (by simp)).1]; exact h96 s s1 s2
      have g2 : t_X9_at K 92 (nI (fr s)) = oI (bc (fr s)) := by rw [a92 (by omega)]; exact e3 _ c2
      rw [if_neg (show ¬ (10 : Int32) ≤ nI k by rw [l_10, nI_leI (by omega) (by omega)]; omega), show oI (some s) = nI s from rfl, if_neg (show ¬ nI s = -1 by rw [nI_ne_m1 (by omega)]; exact not_false), g, g2, Option.bind_some, p92 (by omega), Option.bind_some, l_1, nI_add]
      refine Tr.some (Or.inl ⟨m, (sI K 92 (fr s) (nI s), oI (bc (fr s)), nI (k + 1)), rfl, ⟨bc (fr s), upO bc (fr s) (some s), k + 1, rfl, rfl, by omega, e2.tr (Fr.sI (by simp)), fun v hv => ?_, x2, fun t ht => ?_, x3, e7⟩, by omega⟩)
      · show (sI K 92 (fr s) (nI s)).1 92 v = _
        rw [sI_at]
        by_cases c : v = fr s
        · subst c; rw [if_pos ⟨rfl, rfl⟩, upO_eq]; rfl
        · rw [if_neg (fun h => c h.2), upO_ne c]; exact e3 v hv
      · rw [x1] at ht
        exact ⟨(hW.1 _ _ c2 ht).2.1, (hB.2.1 _ _ c2 ht c5).1⟩
end ENDS
