/-! lonelier; a day passed: the class -/
section PASS
variable {LR : Mm → Nat → (Nat → Int32) → Prop} {LK : (Nat → Int32) → Nat → Nat → Int32 → Int32} {n : Nat} {M N Mc Mr Nc Nr : Mm} {q L B v t : Nat} {m m0 : Nat → Int32} {x y : Int32}
def lnY (c : Nat → Nat) (t : Nat) (m : Nat → Int32) : Nat → Int32 := if m (12 + 5 * t + 3) = 1 then uk m (12 + 5 * t + 4) (if c t = 0 then nI (min ((m (12 + 5 * t + 4)).toNatClampNeg + 1) 99) else 0) else m
def lnF (c : Nat → Nat) (n : Nat) (m : Nat → Int32) : Nat → Int32 := iter (fun t s => lnY c t s) n m
theorem lnF_succ {c : Nat → Nat} : lnF c (n + 1) m = lnY c n (lnF c n m) := rfl
theorem lnY_lo {c : Nat → Nat} {k : Nat} (h : k ≠ 12 + 5 * t + 4) : lnY c t m k = m k := by
  unfold lnY
  by_cases h1 : m (12 + 5 * t + 3) = 1
  · rw [if_pos h1, uk_ne h]
  · rw [if_neg h1]
theorem lnF_lo {c : Nat → Nat} {k : Nat} (h : k < 12 ∨ 57 ≤ k ∨ ∃ t a, n ≤ t ∧ a < 5 ∧ k = 12 + 5 * t + a) (hn : n ≤ 9) : lnF c n m k = m k := by
  induction n with
  | zero => rfl
  | succ n ih =>
    have hk : k ≠ 12 + 5 * n + 4 := by
      rcases h with h | h | ⟨t, a, h1, h2, h3⟩
      · omega
      · omega
      · omega
    have h2 : k < 12 ∨ 57 ≤ k ∨ ∃ t a, n ≤ t ∧ a < 5 ∧ k = 12 + 5 * t + a := by
      rcases h with h | h | ⟨t, a, h1, h2, h3⟩
      · exact Or.inl h
      · exact Or.inr (Or.inl h)
      · exact Or.inr (Or.inr ⟨t, a, by omega, h2, h3⟩)
    rw [lnF_succ, lnY_lo hk]
    exact ih h2 (by omega)
theorem lnF_n {c : Nat → Nat} (hn : n ≤ 9) : tN (lnF c n m) = tN m ∧ vN (lnF c n m) = vN m ∧ hN (lnF c n m) = hN m := by
  unfold tN vN hN
  rw [lnF_lo (Or.inl (by omega)) hn, lnF_lo (Or.inl (by omega)) hn, lnF_lo (Or.inl (by omega)) hn]
  exact ⟨rfl, rfl, rfl⟩
theorem lnY_inv {c : Nat → Nat} (h : Inv m B) (ht : t < 9) : Inv (lnY c t m) B := by
  unfold lnY
  by_cases h1 : m (12 + 5 * t + 3) = 1
  · rw [if_pos h1]
    refine h.ukT ht (by decide) (Or.inr (Or.inr (Or.inr ⟨rfl, ?_⟩)))
    by_cases h2 : c t = 0
    · rw [if_pos h2]; exact isN_nI (Nat.min_le_right _ _) (by decide)
    · rw [if_neg h2]; exact isN_nI (a := 0) (by decide) (by decide)
  · rw [if_neg h1]; exact h
theorem lnF_inv {c : Nat → Nat} (h : Inv m B) : ∀ n, n ≤ 9 → Inv (lnF c n m) B := by
  intro n
  induction n with
  | zero => intro _; exact h
  | succ n ih => intro hn; rw [lnF_succ]; exact lnY_inv (ih (by omega)) (by omega)
theorem mn99 {z : Nat} (hz : z ≤ 99) : mn (nI z + 1) 99 = nI (min (z + 1) 99) := by
  unfold mn
  rw [l_1, nI_add, l_99]
  by_cases h : 99 < z + 1
  · rw [if_pos (by rw [nI_ltI (by omega) (by omega)]; exact h), Nat.min_eq_right (by omega)]
  · rw [if_neg (by rw [nI_ltI (by omega) (by omega)]; exact h), Nat.min_eq_left (by omega)]
theorem les {a z : Nat} (ha : a < 1000) (hz : z < 1000) : f_X10_lesser M (nI a) (nI z + 1) = nI (min (z + 1) a) := by
  unfold f_X10_lesser
  rw [l_1, nI_add]
  by_cases h : z + 1 ≤ a
  · rw [if_pos (by rw [nI_leI (by omega) (by omega)]; exact h), Nat.min_eq_left h]
  · rw [if_neg (by rw [nI_leI (by omega) (by omega)]; exact h), Nat.min_eq_right (by omega)]
/-- a day's row of numbers -/
def dyM (LK : (Nat → Int32) → Nat → Nat → Int32 → Int32) (m : Nat → Int32) (S : LdS) : Nat → Int32 := uk (lnF S.2.1 (tN m) (ntF LK m (u9 m S.2.2.1) S.1 (vN m))) 6 (m 6 + 1)
theorem MR.u6 (hk : kd q = 4) (h : MR M q m) : MR (sI M q 7 x) q (uk m 6 x) := by
  obtain ⟨h1, h2, h3, h4, h5, h6, h7, h8, h9, h10⟩ := h
  have f0 : ∀ b, b ≠ 7 → (sI M q 7 x).1 q b = M.1 q b := fun b hb => by rw [sI_at, if_neg (by omega)]
  have eh : hN (uk m 6 x) = hN m := by unfold hN; rw [uk_ne (by decide)]
  refine ⟨fun k hk => ?_, fun k hk => ?_, ?_, ?_, ?_, ?_, ?_, ?_, ?_, fun a c ha hc => ?_⟩
  · rw [sI_fn (by omega), uk_ne (by omega)]; exact h1 k hk
  · rw [sI_fn (by omega), uk_ne (by omega)]; exact h2 k hk
  · rw [f0 3 (by decide), uk_ne (by decide)]; exact h3
  · rw [f0 4 (by decide), uk_ne (by decide)]; exact h4
  · rw [f0 5 (by decide), uk_ne (by decide)]; exact h5
  · rw [f0 6 (by decide), uk_ne (by decide)]; exact h6
  · rw [sI_at, if_pos ⟨rfl, rfl⟩, uk_eq]
  · rw [f0 8 (by decide), uk_ne (by decide)]; exact h8
  · rw [f0 9 (by decide), uk_ne (by decide)]; exact h9
  · rw [eh] at ha ⊢
    rw [sI_fn (by omega), uk_ne (by omega)]; exact h10 a c ha hc
theorem Inv.u6 (h : Inv m B) : Inv (uk m 6 x) B := by
  have hT := h.t
  have hV := h.v
  obtain ⟨e1, e2, e3, e4, e5, e6, e7, e8, e9⟩ := h
  have eh : hN (uk m 6 x) = hN m := by unfold hN; rw [uk_ne (by decide)]
  have et : tN (uk m 6 x) = tN m := by unfold tN; rw [uk_ne (by decide)]
  have ev : vN (uk m 6 x) = vN m := by unfold vN; rw [uk_ne (by decide)]
  refine ⟨?_, ?_, ?_, ?_, ?_, ?_, fun u hu => ?_, fun u hu => ?_, fun a ha => ?_⟩
  · rw [uk_ne (by decide)]; exact e1
  · rw [uk_ne (by decide)]; exact e2
  · rw [uk_ne (by decide)]; exact e3
  · rw [uk_ne (by decide)]; exact e4
  · rw [uk_ne (by decide)]; exact e5
  · rw [eh, uk_ne (by decide)]; exact e6
  · rw [et] at hu
    rw [uk_ne (by omega), uk_ne (by omega), uk_ne (by omega), uk_ne (by omega), uk_ne (by omega)]
    exact e7 u hu
  · rw [ev] at hu
    rw [uk_ne (by omega), uk_ne (by omega)]
    exact e8 u hu
  · rw [eh] at ha
    rw [ev, uk_ne (by omega)]
    exact e9 a ha
theorem dyM_lo {S : LdS} {k : Nat} (hT : tN m ≤ 9) (h : k < 12 ∨ (57 ≤ k ∧ k < 107) ∨ 407 ≤ k) (h6 : k ≠ 6) (h7 : k ≠ 7) (h8 : k ≠ 8) (h9 : k ≠ 9) : dyM LK m S k = m k := by
  unfold dyM
  rw [uk_ne h6, lnF_lo (by omega) hT, ntF_lo (by omega) h7 h8, u9e h9]
theorem dyM_inv {S : LdS} (h : Inv m B) (hB : B + 10 < 2 ^ 31) : Inv (dyM LK m S) (B + 10) := by
  have hT := h.t
  have hV := h.v
  unfold dyM
  have h1 : Inv (ntF LK m (u9 m S.2.2.1) S.1 (vN m)) (B + vN m) := ntF_inv h.u9 (show B + vN m < 2 ^ 31 by omega) (vN m) (Nat.le_refl _)
  exact ((lnF_inv h1 _ hT.2).u6).mono (by omega)
theorem dyM_n {S : LdS} (h : Inv m B) : tN (dyM LK m S) = tN m ∧ vN (dyM LK m S) = vN m := by
  have hT := h.t
  unfold tN vN
  rw [dyM_lo hT.2 (by omega) (by decide) (by decide) (by decide) (by decide), dyM_lo hT.2 (by omega) (by decide) (by decide) (by decide) (by decide)]
  exact ⟨rfl, rfl⟩
theorem dyM_L {S : LdS} (h : Inv m B) : eqL m (dyM LK m S) := by
  have hT := h.t
  exact ⟨dyM_lo hT.2 (by omega) (by decide) (by decide) (by decide) (by decide), dyM_lo hT.2 (by omega) (by decide) (by decide) (by decide) (by decide), fun k h1 h2 => dyM_lo hT.2 (by omega) (by omega) (by omega) (by omega) (by omega)⟩
/-- the class's things grow lonely -/
theorem lonC (hk : kd q = 4) (h : MR M q m) (hI : Inv m B) (hq : q + 3 < 83) {f : Nat → Option Nat} {c : Nat → Nat} (h85 : ∀ v, v < 10 → M.1 85 v = oI (f v)) (hb : ∀ v t, f v = some t → t < 2 ^ 31) (hc : ∀ t, t < tN m → ((bset (fun v => decide (f v = some t)) 10 = 0) = (c t = 0))) (y : Int32) : Tr (loop FU (fun a_9 => f_X6_passDay_L68 a_9.1 q y a_9.2) (M, 0)) (fun N => MR N q (lnF c (tN m) m) ∧ Fr [q + 1] M N) := by
  obtain ⟨e3, hT⟩ := hI.t
  refine lp0 (fun i (N : Mm) => (N, nI i)) (tN m) (fun i N => MR N q (lnF c i m) ∧ Fr [q + 1] M N) (by omega) M rfl ⟨h, Fr.rf⟩ (fun i N hi hP => ?_) (fun N hP => ?_)
  · obtain ⟨hN, hF⟩ := hP
    have g3 : gI N q 3 = nI (tN m) := hN.2.2.1.trans (by rw [lnF_lo (Or.inl (by omega)) (by omega)]; exact e3)
    have r3 : lnF c i m (12 + 5 * i + 3) = m (12 + 5 * i + 3) := lnF_lo (Or.inr (Or.inr ⟨i, 3, Nat.le_refl _, by decide, rfl⟩)) (by omega)
    have r4 : lnF c i m (12 + 5 * i + 4) = m (12 + 5 * i + 4) := lnF_lo (Or.inr (Or.inr ⟨i, 4, Nat.le_refl _, by decide, rfl⟩)) (by omega)
    have o3 : f_X4_ofThing N q (nI i) 3 = m (12 + 5 * i + 3) := (ofT (c := 3) hk hN (by omega) (by decide)).trans r3
    have o4 : f_X4_ofThing N q (nI i) 4 = m (12 + 5 * i + 4) := (ofT (c := 4) hk hN (by omega) (by decide)).trans r4
    obtain ⟨z1, z2⟩ := (hI.2.2.2.2.2.2.1 i hi).2.2.2.2
    have hB : f_X6_hadBy N (nI i) = some (bset (fun v => decide (f v = some i)) 10) := hadByC (fun v hv => by rw [(hF 85 (by simp; omega)).1]; exact h85 v hv) hb (by omega)
    have sT : ∀ y, f_X4_setThing N q (nI i) 4 y = sI N (q + 1) (i * 5 + 4) y := fun y => setThingC (c := 4) hk (by omega) (by decide)
    have fin : ∀ y : Int32, m (12 + 5 * i + 3) = 1 → (if c i = 0 then nI (min ((m (12 + 5 * i + 4)).toNatClampNeg + 1) 99) else 0) = y → MR (sI N (q + 1) (i * 5 + 4) y) q (lnF c (i + 1) m) := fun y h1 h2 => by
      have h3 : lnF c (i + 1) m = uk (lnF c i m) (12 + 5 * i + 4) y := by
        rw [lnF_succ]
        unfold lnY
        rw [r3, r4, if_pos h1, h2]
      rw [h3, show 12 + 5 * i + 4 = 12 + (i * 5 + 4) by omega]
      exact hN.ukT hk (by omega)
    show Tr (f_X6_passDay_L68 N q y (nI i)) _
    unfold f_X6_passDay_L68
    rw [g3, if_neg (by rw [nI_leI (by omega) (by omega)]; omega), o3, o4, show nI i + 1 = nI (i + 1) from by rw [l_1, nI_add]]
    by_cases c1 : m (12 + 5 * i + 3) = 1
    · rw [if_pos c1, Option.bind_some, hB, Option.bind_some]
      unfold f_X6_passDay_J68_123
      rw [sT, sT, Option.bind_some, Option.bind_some, show nI i + 1 = nI (i + 1) from by rw [l_1, nI_add]]
      by_cases c2 : c i = 0
      · rw [if_pos (by rw [hc i hi]; exact c2)]
        refine Tr.some (Or.inl ⟨_, rfl, fin _ c1 ?_, hF.tr (Fr.sI (by simp))⟩)
        rw [if_pos c2]
        generalize (m (12 + 5 * i + 4)).toNatClampNeg = z at z1 z2
        rw [z1, mn99 z2]
      · rw [if_neg (by rw [hc i hi]; exact c2)]
        exact Tr.some (Or.inl ⟨_, rfl, fin _ c1 (by rw [if_neg c2]), hF.tr (Fr.sI (by simp))⟩)
    · rw [if_neg c1]
      refine Tr.some (Or.inl ⟨N, rfl, ?_, hF⟩)
      rw [lnF_succ]
      unfold lnY
      rw [r3, if_neg c1]
      exact hN
  · obtain ⟨hN, hF⟩ := hP
    have g3 : gI N q 3 = nI (tN m) := hN.2.2.1.trans (by rw [lnF_lo (Or.inl (by omega)) (by omega)]; exact e3)
    show Tr (f_X6_passDay_L68 N q y (nI (tN m))) _
    unfold f_X6_passDay_L68
    rw [g3, if_pos (by rw [nI_leI (by omega) (by omega)]; omega)]
    exact Tr.some ⟨_, rfl, hN, hF⟩
theorem nob {f : Nat → Option Nat} {c : Nat → Nat} {V : Nat} (hV : V ≤ 10) (h1 : ∀ v t, f v = some t → v < V) (h2 : ∀ t, c t = cntB (fun v => decide (f v = some t)) V) (t : Nat) : (bset (fun v => decide (f v = some t)) 10 = 0) = (c t = 0) := by
  rw [h2, bset_0 (by decide), cntB_0]
  refine propext ⟨fun h v hv => h v (by omega), fun h v hv => ?_⟩
  by_cases hv2 : v < V
  · exact h v hv2
  · have : ¬ f v = some t := fun e => hv2 (h1 v t e)
    simp [this]
/-- a day passed: the class -/
theorem passC (HL : LSpec LR LK) (hk : kd q = 4) (hkL : kd L = 2) (h : MR M q m) (hI : Inv m B) (hB : B + 10 < 2 ^ 31) (hR : LR M L m) (dr : Bool) : Tr (f_X6_passDay M q L (bI dr)) (fun r => r.1 = nI (ldS nxs drw m LK dr (vN m)).2.2.2 ∧ MR r.2 q (dyM LK m (ldS nxs drw m LK dr (vN m))) ∧ Fr [q, q + 1, q + 3, L + 5, 83, 84, 85, 86] M r.2 ∧ ∀ v, v < 10 → r.2.1 85 v = oI ((ldS nxs drw m LK dr (vN m)).1 v)) := by
  have hq := md4 hk
  have hl := (lnL hkL).2.2.2.2.2
  have hT := hI.t
  have hV := hI.v
  unfold f_X6_passDay
  refine Tr.bind (weighC HL hk hkL h hI hR) (fun N1 hN1 => ?_)
  obtain ⟨hF1, h83, h84⟩ := hN1
  have hM1 : MR N1 q m := h.fr (fun j h1 h2 => (hF1 j (by simp; omega)).1)
  have hl2 := leadC2 HL hk hM1 hI dr h83 h84
  have hinv := ld_inv (nx := nxs) (dw := drw) (m := m) (LK := LK) dr (vN m)
  have hmore := ld_more (nx := nxs) (dw := drw) (m := m) (LK := LK) dr (vN m)
  generalize ldS nxs drw m LK dr (vN m) = S at hl2 hinv hmore ⊢
  refine Tr.bind hl2 (fun r hr => ?_)
  obtain ⟨r1, r2, r3, r4⟩ := hr
  have r3 : Fr [q, 85, 86] N1 r.2 := by
    cases dr
    · exact Fr.mono (S := [85, 86]) r3 (by simp)
    · exact r3
  obtain ⟨i1, i2, i3⟩ := hinv
  have nc := notesC (LK := LK) (m0 := m) hk r2 hI.u9 (show B + vN m < 2 ^ 31 by omega) (f := S.1) (fun v t hf => (i1 v t hf).2) r4 (by omega) (fun t v ht hv => by rw [(r3 83 (by simp; omega)).1]; exact h83 t v ht hv) (fun t ht => stp_u9 t) r.1
  refine Tr.bind nc (fun N3 hN3 => ?_)
  obtain ⟨a1, a2⟩ := hN3
  have iA : Inv (ntF LK m (u9 m S.2.2.1) S.1 (vN m)) (B + vN m) := ntF_inv hI.u9 (show B + vN m < 2 ^ 31 by omega) (vN m) (Nat.le_refl _)
  have tA : tN (ntF LK m (u9 m S.2.2.1) S.1 (vN m)) = tN m := (ntF_n (vN m)).1
  have lc := lonC (c := S.2.1) (f := S.1) hk a1 iA (by omega) (fun v hv => by rw [(a2 85 (by simp; omega)).1]; exact r4 v hv) (fun v t hf => by have := (i1 v t hf).2; omega) (fun t ht => nob hV.2 (fun v t hf => (i1 v t hf).1) hmore.1 t) r.1
  have a1' : MR N3 q (ntF LK m (u9 m S.2.2.1) S.1 (vN m)) := a1
  refine Tr.bind lc (fun N4 hN4 => ?_)
  obtain ⟨b1, b2⟩ := hN4
  have b1 : MR N4 q (lnF S.2.1 (tN m) (ntF LK m (u9 m S.2.2.1) S.1 (vN m))) := by rw [← tA]; exact b1
  have g7 : gI N4 q 7 = m 6 := by
    have := b1.2.2.2.2.2.2.1
    refine Eq.trans this ?_
    rw [lnF_lo (Or.inl (by decide)) hT.2, ntF_lo (by omega) (by decide) (by decide), u9e (by decide)]
  rw [g7, Option.bind_some]
  have hFF : Fr [q, q + 1, q + 3, L + 5, 83, 84, 85, 86] M N4 := (((hF1.mono (by simp)).tr (r3.mono (by simp))).tr (a2.mono (by simp))).tr (b2.mono (by simp))
  refine Tr.some ⟨r1, b1.u6 hk, hFF.tr (Fr.sI (by simp)), fun v hv => ?_⟩
  show (sI N4 q 7 _).1 85 v = _
  rw [sI_fn (by omega), (b2 85 (by simp; omega)).1, (a2 85 (by simp; omega)).1]
  exact r4 v hv
end PASS
