/-! days -/
section DYS
variable {LR : Mm → Nat → (Nat → Int32) → Prop} {LK : (Nat → Int32) → Nat → Nat → Int32 → Int32} {n : Nat} {M N Mc Mr Nc Nr : Mm} {q L B v t : Nat} {m m0 : Nat → Int32} {x x1 x2 x3 x4 x5 : Int32} {dr : Bool}
def dy1 (LK : (Nat → Int32) → Nat → Nat → Int32 → Int32) (dr : Bool) (m : Nat → Int32) : Nat → Int32 := dyM LK m (ldS nxs drw m LK dr (vN m))
def dc1 (LK : (Nat → Int32) → Nat → Nat → Int32 → Int32) (dr : Bool) (m : Nat → Int32) : Nat := (ldS nxs drw m LK dr (vN m)).2.2.2
def hv1 (LK : (Nat → Int32) → Nat → Nat → Int32 → Int32) (dr : Bool) (m : Nat → Int32) : Nat → Option Nat := (ldS nxs drw m LK dr (vN m)).1
def cn1 (LK : (Nat → Int32) → Nat → Nat → Int32 → Int32) (dr : Bool) (m : Nat → Int32) : Nat → Nat := (ldS nxs drw m LK dr (vN m)).2.1
def dyN (LK : (Nat → Int32) → Nat → Nat → Int32 → Int32) (dr : Bool) (m : Nat → Int32) (i : Nat) : Nat → Int32 := iter (fun _ s => dy1 LK dr s) i m
def dcN (LK : (Nat → Int32) → Nat → Nat → Int32 → Int32) (dr : Bool) (m : Nat → Int32) (i : Nat) : Nat := sumN (fun j => dc1 LK dr (dyN LK dr m j)) i
theorem dyN_succ (i : Nat) : dyN LK dr m (i + 1) = dy1 LK dr (dyN LK dr m i) := rfl
theorem dcN_succ (i : Nat) : dcN LK dr m (i + 1) = dcN LK dr m i + dc1 LK dr (dyN LK dr m i) := rfl
theorem hv1_ok : (∀ v t, hv1 LK dr m v = some t → v < vN m ∧ t < tN m) ∧ (∀ t, cn1 LK dr m t ≤ rmN m t) ∧ dc1 LK dr m ≤ vN m := ld_inv dr _
theorem cn1_ok : ∀ t, cn1 LK dr m t = cntB (fun v => decide (hv1 LK dr m v = some t)) (vN m) := (ld_more dr _).1
theorem dyN_inv (hI : Inv m B) : ∀ i, B + 10 * i < 2 ^ 31 → Inv (dyN LK dr m i) (B + 10 * i) ∧ tN (dyN LK dr m i) = tN m ∧ vN (dyN LK dr m i) = vN m ∧ eqL m (dyN LK dr m i) := by
  intro i
  induction i with
  | zero => intro _; exact ⟨hI, rfl, rfl, rfl, rfl, fun _ _ _ => rfl⟩
  | succ i ih =>
    intro hB
    obtain ⟨h1, h2, h3, h4⟩ := ih (by omega)
    have h5 := dyM_n (LK := LK) (S := ldS nxs drw (dyN LK dr m i) LK dr (vN (dyN LK dr m i))) h1
    have h6 := dyM_L (LK := LK) (S := ldS nxs drw (dyN LK dr m i) LK dr (vN (dyN LK dr m i))) h1
    have h7 := dyM_inv (LK := LK) (S := ldS nxs drw (dyN LK dr m i) LK dr (vN (dyN LK dr m i))) h1 (by omega)
    rw [dyN_succ]
    exact ⟨h7, h5.1.trans h2, h5.2.trans h3, h6.1.trans h4.1, h6.2.1.trans h4.2.1, fun k a b => (h6.2.2 k a b).trans (h4.2.2 k a b)⟩
theorem dyN_hi (hI : Inv m B) {k : Nat} (hk : 407 ≤ k) : ∀ i, B + 10 * i < 2 ^ 31 → dyN LK dr m i k = m k := by
  intro i
  induction i with
  | zero => intro _; rfl
  | succ i ih =>
    intro hB
    have hT := (dyN_inv (LK := LK) (dr := dr) hI i (by omega)).1.t
    rw [dyN_succ]
    unfold dy1
    rw [dyM_lo hT.2 (by omega) (by omega) (by omega) (by omega) (by omega)]
    exact ih (by omega)
theorem dcN_le (hI : Inv m B) : ∀ i, B + 10 * i < 2 ^ 31 → dcN LK dr m i ≤ 10 * i := by
  intro i
  induction i with
  | zero => intro _; exact Nat.le_refl _
  | succ i ih =>
    intro hB
    have h1 := ih (by omega)
    have h2 := (dyN_inv (LK := LK) (dr := dr) hI i (by omega))
    have h3 := (hv1_ok (LK := LK) (dr := dr) (m := dyN LK dr m i)).2.2
    have h4 := h2.1.v
    rw [dcN_succ]; omega
/-- the class behind so many days; the reference -/
def DC (LR : Mm → Nat → (Nat → Int32) → Prop) (LK : (Nat → Int32) → Nat → Nat → Int32 → Int32) (dr : Bool) (q L : Nat) (m : Nat → Int32) (M : Mm) (i : Nat) (N : Mm) : Prop := MR N q (dyN LK dr m i) ∧ Fr [q, q + 1, q + 2, q + 3, L + 5, 83, 84, 85, 86] M N ∧ LR N L (dyN LK dr m i)
def DR (LK : (Nat → Int32) → Nat → Nat → Int32 → Int32) (dr : Bool) (m : Nat → Int32) (M : Mm) (i : Nat) (N : Mm) : Prop := N.1 110 = dyN LK dr m i ∧ FrQ [109, 110, 115, 116, 117, 118, 119] M N
theorem DC_step (HL : LSpec LR LK) (hk : kd q = 4) (hkL : kd L = 2) (hI : Inv m B) {i : Nat} (hB : B + 10 * (i + 1) < 2 ^ 31) (h : DC LR LK dr q L m M i N) : Tr (f_X6_passDay N q L (bI dr)) (fun r => r.1 = nI (dc1 LK dr (dyN LK dr m i)) ∧ DC LR LK dr q L m M (i + 1) r.2 ∧ ∀ v, v < 10 → r.2.1 85 v = oI (hv1 LK dr (dyN LK dr m i) v)) := by
  obtain ⟨h1, h2, h3⟩ := h
  have hi := dyN_inv (LK := LK) (dr := dr) hI i (by omega)
  have hq := md4 hk
  have hl := (lnL hkL).2.2.2.2.2
  obtain ⟨r, e, r1, r2, r3, r4⟩ := passC HL hk hkL h1 hi.1 (by omega) h3 dr
  exact ⟨r, e, r1, ⟨r2, h2.tr (r3.mono (by simp)), HL.2.1 _ _ _ _ (HL.1 _ _ _ _ h3 (fun j a b => (r3 j (by simp; omega)).1)) (dyM_L hi.1)⟩, r4⟩
theorem DR_step (HL : LSpec LR LK) (hI : Inv m B) (hR : LR Mc L m) {i : Nat} (hB : B + 10 * (i + 1) < 2 ^ 31) (h : DR LK dr m M i N) : Tr (f_X10_goesBy N (bI dr)) (fun r => r.1 = nI (dc1 LK dr (dyN LK dr m i)) ∧ DR LK dr m M (i + 1) r.2 ∧ (∀ v, v < 10 → r.2.1 117 v = oI (hv1 LK dr (dyN LK dr m i) v)) ∧ ∀ t, t < tN m → r.2.1 119 t = nI (cn1 LK dr (dyN LK dr m i) t)) := by
  obtain ⟨h1, h2⟩ := h
  have hi := dyN_inv (LK := LK) (dr := dr) hI i (by omega)
  obtain ⟨r, e, r1, r2, r3, r4, r5⟩ := goesR HL h1 hi.1 (by omega) (HL.2.1 _ _ _ _ hR hi.2.2.2) dr
  exact ⟨r, e, r1, ⟨r2, h2.tr r3⟩, r4, fun t ht => r5 t (by rw [hi.2.1]; exact ht)⟩
theorem passDaysC (HL : LSpec LR LK) (hk : kd q = 4) (hkL : kd L = 2) (hL : M.2.2 1 5 = L) (hI : Inv m B) {k : Nat} (hk50 : k ≤ 50) (hB : B + 500 < 2 ^ 31) (h : MR M q m) (hR : LR M L m) : Tr (f_X9_passDays M q (nI k)) (fun r => r.1 = nI (dcN LK true m k) ∧ DC LR LK true q L m M k r.2) := by
  have hq := md4 hk
  have hl := (lnL hkL).2.2.2.2.2
  unfold f_X9_passDays
  refine Tr.bind (Q := fun r : Mm × Int32 => r.2 = nI (dcN LK true m k) ∧ DC LR LK true q L m M k r.1) ?_ (fun r hr => Tr.some hr)
  refine lp0 (fun i (N : Mm) => (N, nI (dcN LK true m i), nI i)) k (fun i N => DC LR LK true q L m M i N) (by omega) M rfl ⟨h, Fr.rf, hR⟩ (fun i N hi hP => ?_) (fun N hP => ?_)
  · show Tr (f_X9_passDays_L5 N q (nI k) (nI (dcN LK true m i)) (nI i)) _
    have gL : gR N 1 5 = L := by show N.2.2 1 5 = L; rw [(hP.2.1 1 (by simp; omega)).2.2]; exact hL
    unfold f_X9_passDays_L5
    rw [if_neg (by rw [nI_leI (by omega) (by omega)]; omega), Option.bind_some, gL, if_pos hkL]
    refine Tr.bind (DC_step (dr := true) HL hk hkL hI (by omega) hP) (fun r hr => ?_)
    obtain ⟨r1, r2, r3⟩ := hr
    refine Tr.some (Or.inl ⟨r.2, ?_, r2⟩)
    rw [r1, nI_add, l_1, nI_add, dcN_succ]
  · show Tr (f_X9_passDays_L5 N q (nI k) (nI (dcN LK true m k)) (nI k)) _
    unfold f_X9_passDays_L5
    rw [if_pos (by rw [nI_leI (by omega) (by omega)]; omega)]
    exact Tr.some ⟨_, rfl, rfl, hP⟩
theorem goesNR (HL : LSpec LR LK) (hI : Inv m B) {k : Nat} (hk50 : k ≤ 50) (hB : B + 500 < 2 ^ 31) (hm : M.1 110 = m) (hR : LR Mc L m) : Tr (f_X10_goes M (nI k)) (fun r => r.1 = nI (dcN LK true m k) ∧ DR LK true m M k r.2) := by
  unfold f_X10_goes
  refine Tr.bind (Q := fun r : Mm × Int32 => r.2 = nI (dcN LK true m k) ∧ DR LK true m M k r.1) ?_ (fun r hr => Tr.some hr)
  refine lp0 (fun i (N : Mm) => (N, nI (dcN LK true m i), nI i)) k (fun i N => DR LK true m M i N) (by omega) M rfl ⟨hm, FrQ.rf⟩ (fun i N hi hP => ?_) (fun N hP => ?_)
  · show Tr (f_X10_goes_L4 N (nI k) (nI (dcN LK true m i)) (nI i)) _
    unfold f_X10_goes_L4
    rw [if_neg (by rw [nI_leI (by omega) (by omega)]; omega)]
    refine Tr.bind (DR_step (dr := true) HL hI hR (by omega) hP) (fun r hr => ?_)
    obtain ⟨r1, r2, r3⟩ := hr
    refine Tr.some (Or.inl ⟨r.2, ?_, r2⟩)
    rw [r1, nI_add, l_1, nI_add, dcN_succ]
  · show Tr (f_X10_goes_L4 N (nI k) (nI (dcN LK true m k)) (nI k)) _
    unfold f_X10_goes_L4
    rw [if_pos (by rw [nI_leI (by omega) (by omega)]; omega)]
    exact Tr.some ⟨_, rfl, rfl, hP⟩
theorem ge1 (h : ¬ x < 1) : ∃ k, 1 ≤ k ∧ k < 2 ^ 31 ∧ x = nI k := by
  have h0 : ¬ x < 0 := fun e => h (by
    rw [Int32.lt_iff_toInt_lt] at e ⊢
    have e1 : ((1 : Int32)).toInt = 1 := rfl
    have e0 : ((0 : Int32)).toInt = 0 := rfl
    omega)
  obtain ⟨k, hk, rfl⟩ := nI_of h0
  rw [l_1, nI_ltI hk (by decide)] at h
  exact ⟨k, by omega, hk, rfl⟩
theorem s_14 (HL : LSpec LR LK) (hn : n < 512) (h : RR LR n Mc Mr) : ∃ Nc Nr, so_14 x1 x2 x3 x4 x5 Mc Mr Nc Nr ∧ RR LR (n + 1) Nc Nr := by
  have bad : f_X9_days Mc x1 = some (.inr (1, Mc)) → f_X10_isIn Mr x1 1 50 = false → ∃ Nc Nr, so_14 x1 x2 x3 x4 x5 Mc Mr Nc Nr ∧ RR LR (n + 1) Nc Nr := fun h1 h2 => by
    refine ⟨Mc, sI Mr 109 0 1, ⟨_, 0, h1, ?_, Or.inr ⟨1, rfl, by rw [t0]; rfl, by rw [t0]; decide⟩⟩, RR_q HL h KpC.rf ⟨rfl, rfl⟩ KpR.t⟩
    unfold f_X10_days f_X10_days_J16
    rw [h2, if_neg (by decide), Option.bind_some, t0, if_neg (by decide)]
  by_cases c1 : x1 < 1
  · refine bad ?_ ?_
    · unfold f_X9_days f_X9_days_J11
      rw [if_pos c1]
    · unfold f_X10_isIn
      rw [if_pos c1]
  by_cases c2 : x1 ≤ 50
  · obtain ⟨k, k1, k2, rfl⟩ := ge1 c1
    have k50 : k ≤ 50 := by rw [l_50, nI_leI k2 (by decide)] at c2; exact c2
    obtain ⟨Nc, Nr, r1, r2, r3, r4, r5, r6⟩ := remCR HL (RR_t HL h 0)
    obtain ⟨hk, hkL, hM, hI, hR⟩ := r3.cur
    have hq := md4 hk
    have hl := (lnL hkL).2.2.2.2.2
    obtain ⟨p, p1, p2, p3, p4, p5⟩ := passDaysC HL hk hkL rfl hI k50 (by omega) hM hR
    obtain ⟨g, g1, g2, g3, g4⟩ := goesNR HL hI k50 (by omega) rfl hR
    have hin : f_X10_isIn Mr (nI k) 1 50 = true := by
      unfold f_X10_isIn
      rw [if_neg c1, if_neg (by rw [Int32.not_lt]; exact c2)]
    have hDi := dyN_inv (LK := LK) (dr := true) hI k (by omega)
    have z0 : gI g.2 109 0 = 0 := by
      show g.2.1 109 0 = 0
      rw [g4.2 0 (by simp), r5]; exact t0
    refine ⟨p.2, g.2, ⟨_, nI (dcN LK true (Nr.1 110) k), ?_, ?_, Or.inl ⟨rfl, z0⟩⟩, RR_now HL r3 (fun i h1 h2 h3 h4 h5 h6 => (p4 i (by simp; omega)).1) ⟨(p4 1 (by simp; omega)).2.2, (p4 3 (by simp; omega)).2.2⟩ ⟨(g4.1 111 (by simp)).1, (g4.1 113 (by simp)).1, (g4.1 114 (by simp)).1, fun j hj => g4.2 j (by omega)⟩ ?_ ?_ ?_⟩
    · unfold f_X9_days
      rw [if_neg c1, if_pos c2, r1, Option.bind_some, Option.bind_some, show gR Nc 1 3 = Nc.2.2 1 3 from rfl, if_pos hk, p1, Option.bind_some, p2]
    · unfold f_X10_days f_X10_days_J16
      rw [hin, if_pos rfl, Option.bind_some, t0, if_pos (by decide), r2, Option.bind_some, g1, Option.bind_some, g2]
    · rw [g3]; exact p3
    · rw [g3]; exact hDi.1.mono (by omega)
    · rw [g3]; exact hDi.2.2.2
  · refine bad ?_ ?_
    · unfold f_X9_days f_X9_days_J11
      rw [if_neg c1, if_neg c2]
    · unfold f_X10_isIn
      rw [if_neg c1, if_pos (by rw [Int32.not_le] at c2; exact c2)]
end DYS
