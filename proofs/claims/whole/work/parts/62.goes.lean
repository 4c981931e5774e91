/-! a day passed: the reference -/
section GOES
variable {LR : Mm → Nat → (Nat → Int32) → Prop} {LK : (Nat → Int32) → Nat → Nat → Int32 → Int32} {n : Nat} {M N Mc Mr Nc Nr : Mm} {q L B v t : Nat} {m m0 : Nat → Int32} {x y z : Int32}
theorem nI_prd {a : Nat} (h : 1 ≤ a) : nI a + (-1) = nI (a - 1) := by
  rw [show nI a + (-1) = nI a - 1 from (Int32.sub_eq_add_neg _ _).symm, l_1, nI_subI h]
def shD (m : Nat → Int32) (j : Nat) : Nat → Int32 := fun k => if j ≤ k ∧ k < 407 then m (k - 5) else m k
theorem shD_in {j k : Nat} (h : j ≤ k) (h2 : k < 407) : shD m j k = m (k - 5) := if_pos ⟨h, h2⟩
theorem shD_out {j k : Nat} (h : k < j ∨ 407 ≤ k) : shD m j k = m k := if_neg (by omega)
theorem shftR (y z : Int32) : Tr (loop FU (fun a_4 => f_X10_goesBy_L44 a_4.1 y z a_4.2) (M, 299)) (fun N => Fr [110] M N ∧ N.1 110 = shD (M.1 110) 112) := by
  refine lp0 (fun i (N : Mm) => (N, nI (299 - i))) 295 (fun i N => Fr [110] M N ∧ N.1 110 = shD (M.1 110) (407 - i)) (by omega) M rfl ⟨Fr.rf, by funext k; rw [shD_out (by omega)]⟩ (fun i N hi hP => ?_) (fun N hP => ?_)
  · obtain ⟨hF, hN⟩ := hP
    show Tr (f_X10_goesBy_L44 N y z (nI (299 - i))) _
    have e1 : (107 : Int32) + nI (299 - i) = nI (406 - i) := by rw [show (107 : Int32) = nI 107 from rfl, nI_add]; congr 1; omega
    have e2 : nI (406 - i) - 5 = nI (401 - i) := by rw [l_5, nI_subI (by omega)]; congr 1; omega
    unfold f_X10_goesBy_L44
    rw [if_neg (by rw [l_5, nI_ltI (by omega) (by omega)]; omega), e1, e2, if_pos (ib807 (by omega)), if_pos (ib807 (by omega)), gA_nI (by omega), sA110 (by omega), Option.bind_some, nI_prd (by omega)]
    refine Tr.some (Or.inl ⟨_, by rw [show 299 - i - 1 = 299 - (i + 1) by omega], hF.tr (Fr.sI (by simp)), ?_⟩)
    rw [uk_110, hN]
    funext k
    by_cases h1 : k = 406 - i
    · subst h1
      rw [uk_eq, shD_out (by omega), shD_in (by omega) (by omega), show 406 - i - 5 = 401 - i by omega]
    · rw [uk_ne h1]
      by_cases h2 : 407 - i ≤ k ∧ k < 407
      · rw [shD_in h2.1 h2.2, shD_in (by omega) h2.2]
      · rw [shD_out (by omega), shD_out (by omega)]
  · obtain ⟨hF, hN⟩ := hP
    show Tr (f_X10_goesBy_L44 N y z (nI (299 - 295))) _
    unfold f_X10_goesBy_L44
    rw [if_pos (by decide)]
    exact Tr.some ⟨_, rfl, hF, hN⟩
theorem uk_uk {k : Nat} : uk (uk m k x) k y = uk m k y := by
  funext j
  by_cases h : j = k
  · subst h; rw [uk_eq, uk_eq]
  · rw [uk_ne h, uk_ne h, uk_ne h]
theorem uk_self {k : Nat} (h : m k = x) : uk m k x = m := by
  funext j
  by_cases e : j = k
  · subst e; rw [uk_eq, h]
  · rw [uk_ne e]
theorem uk_cm {j k : Nat} (h : j ≠ k) : uk (uk m j x) k y = uk (uk m k y) j x := by
  funext i
  unfold uk
  by_cases h1 : i = k
  · subst h1; rw [if_pos rfl, if_neg (fun e => h e.symm), if_pos rfl]
  · rw [if_neg h1, if_neg h1]
/-- one note -/
theorem nt_uk : uk (uk (uk (uk (uk (uk (shD (uk m 7 y) 112) 107 (m 6)) 108 (nI v)) 109 (nI t)) 110 x) 111 z) 8 (nI (min (hN m + 1) 60)) = uk (ntM m v t x z) 7 y := by
  funext k
  by_cases h8 : k = 8
  · subst h8; rw [uk_eq, uk_ne (by decide), nt_8]
  by_cases h7 : k = 7
  · subst h7
    rw [uk_ne (by decide), uk_ne (by decide), uk_ne (by decide), uk_ne (by decide), uk_ne (by decide), uk_ne (by decide), shD_out (by decide), uk_eq, uk_eq]
  rw [uk_ne h8, uk_ne h7]
  by_cases h4 : k = 111
  · subst h4; rw [uk_eq, nt_4]
  rw [uk_ne h4]
  by_cases h3 : k = 110
  · subst h3; rw [uk_eq, nt_3]
  rw [uk_ne h3]
  by_cases h2 : k = 109
  · subst h2; rw [uk_eq, nt_2]
  rw [uk_ne h2]
  by_cases h1 : k = 108
  · subst h1; rw [uk_eq, nt_1]
  rw [uk_ne h1]
  by_cases h0 : k = 107
  · subst h0; rw [uk_eq, nt_0]
  rw [uk_ne h0]
  by_cases hr : 112 ≤ k ∧ k < 407
  · rw [shD_in hr.1 hr.2, nt_hi hr.1 hr.2, uk_ne (by omega)]
  · rw [shD_out (by omega), nt_lo (by omega) h7 h8, uk_ne h7]
theorem r11 {k : Nat} {j : Nat} (h : j ≠ 110) : (sI M 110 k x).1 j = M.1 j := sI_fn h
theorem notesR (hI : Inv m B) (hB : B + vN m < 2 ^ 31) {f : Nat → Option Nat} (hm : M.1 110 = m) (hf : ∀ v t, f v = some t → v < vN m ∧ t < tN m) (h117 : ∀ v, v < 10 → M.1 117 v = oI (f v)) (h118 : ∀ v, v < 10 → M.1 118 v = stO m0 (-1) (f v)) (h116 : ∀ t v, t < tN m → v < vN m → M.1 116 (10 * t + v) = lkv LK m0 t v) : Tr (loop FU (fun a_11 => f_X10_goesBy_L13 a_11.1 a_11.2.1 a_11.2.2) (M, 0, 0)) (fun r => r.2 = nI (cntB (fun v => (f v).isSome) (vN m)) ∧ r.1.1 110 = uk (ntF LK m0 m f (vN m)) 7 (m 7) ∧ Fr [110] M r.1) := by
  obtain ⟨e3, hT⟩ := hI.t
  obtain ⟨e4, hV⟩ := hI.v
  have i3 : ibs (4 : Int32) 807 = true := by decide
  refine lp0 (fun i (N : Mm) => (N, nI (cntB (fun v => (f v).isSome) i), nI i)) (vN m) (fun i N => N.1 110 = uk (ntF LK m0 m f i) 7 (m 7) ∧ Fr [110] M N) (by omega) M rfl ⟨by rw [hm]; exact (uk_self rfl).symm, Fr.rf⟩ (fun i N hi hP => ?_) (fun N hP => ?_)
  · obtain ⟨hX, hF⟩ := hP
    have hIi := ntF_inv (LK := LK) (m0 := m0) (f := f) hI hB i (by omega)
    have g4 : gA N 110 4 = nI (vN m) := by
      show N.1 110 4 = _
      rw [hX, uk_ne (by decide), ntF_lo (by omega) (by decide) (by decide)]; exact e4
    have n117 : N.1 117 i = oI (f i) := by rw [(hF 117 (by simp)).1]; exact h117 i (by omega)
    have g117 : gA N 117 (nI i) = oI (f i) := (gA_nI (by omega)).trans n117
    show Tr (f_X10_goesBy_L13 N (nI (cntB (fun v => (f v).isSome) i)) (nI i)) _
    unfold f_X10_goesBy_L13
    rw [if_pos i3, g4, if_neg (by rw [nI_leI (by omega) (by omega)]; omega), if_pos (ibs_nI (by omega) (by decide)), g117, show nI i + 1 = nI (i + 1) from by rw [l_1, nI_add]]
    cases hfi : f i with
    | none =>
      rw [if_pos (show oI none = -1 from rfl)]
      refine Tr.some (Or.inl ⟨N, ?_, by rw [ntF_none hfi]; exact hX, hF⟩)
      rw [cntB_succ, hfi]; rfl
    | some t =>
      have ht := (hf i t hfi).2
      rw [if_neg (show ¬ oI (some t) = -1 from by rw [oI, nI_ne_m1 (by omega)]; exact not_false)]
      refine Tr.bind (shftR _ _) (fun K hK => ?_)
      obtain ⟨hF2, hK⟩ := hK
      have k117 : gA K 117 (nI i) = nI t := by
        rw [gA_nI (by omega), (hF2 117 (by simp)).1, n117, hfi]; rfl
      have k116 : gA K 116 (nI (10 * t + i)) = lkv LK m0 t i := by
        rw [gA_nI (by omega), (hF2 116 (by simp)).1, (hF 116 (by simp)).1]; exact h116 t i ht hi
      have k118 : gA K 118 (nI i) = stp m0 t := by
        rw [gA_nI (by omega), (hF2 118 (by simp)).1, (hF 118 (by simp)).1, h118 i (by omega), hfi]; rfl
      have i6 : ibs (6 : Int32) 807 = true := by decide
      have i107 : ibs (107 : Int32) 807 = true := by decide
      have i108 : ibs (108 : Int32) 807 = true := by decide
      have i109 : ibs (109 : Int32) 807 = true := by decide
      have i110 : ibs (110 : Int32) 807 = true := by decide
      have i111 : ibs (111 : Int32) 807 = true := by decide
      have i8 : ibs (8 : Int32) 807 = true := by decide
      have iv : ibs (nI i) 10 = true := ibs_nI (by omega) (by decide)
      have s7 : ∀ (K : Mm) y, sA K 110 107 y = sI K 110 107 y := fun _ _ => rfl
      have s8 : ∀ (K : Mm) y, sA K 110 108 y = sI K 110 108 y := fun _ _ => rfl
      have s9 : ∀ (K : Mm) y, sA K 110 109 y = sI K 110 109 y := fun _ _ => rfl
      have s10 : ∀ (K : Mm) y, sA K 110 110 y = sI K 110 110 y := fun _ _ => rfl
      have s11 : ∀ (K : Mm) y, sA K 110 111 y = sI K 110 111 y := fun _ _ => rfl
      have s88 : ∀ (K : Mm) y, sA K 110 8 y = sI K 110 8 y := fun _ _ => rfl
      have gk : ∀ (K : Mm) (j : Nat) k y, j ≠ 110 → ∀ x, gA (sI K 110 k y) j x = gA K j x := fun K j k y hj x => by unfold gA; rw [r11 hj]
      have g6 : gA K 110 6 = ntF LK m0 m f i 6 := by
        show K.1 110 6 = _
        rw [hK, shD_out (by decide), hX, uk_ne (by decide)]
      have g8 : ∀ y1 y2 y3 y4 y5, gA (sI (sI (sI (sI (sI K 110 107 y1) 110 108 y2) 110 109 y3) 110 110 y4) 110 111 y5) 110 8 = nI (min (hN (ntF LK m0 m f i)) 60) := fun y1 y2 y3 y4 y5 => by
        show (sI (sI (sI (sI (sI K 110 107 y1) 110 108 y2) 110 109 y3) 110 110 y4) 110 111 y5).1 110 8 = _
        rw [uk_110, uk_ne (by decide), uk_110, uk_ne (by decide), uk_110, uk_ne (by decide), uk_110, uk_ne (by decide), uk_110, uk_ne (by decide), hK, shD_out (by decide), hX, uk_ne (by decide)]
        exact hIi.2.2.2.2.2.1
      have hh60 : min (hN (ntF LK m0 m f i)) 60 ≤ 60 := Nat.min_le_right _ _
      have lm : ∀ K : Mm, f_X10_lesser K 60 (nI (min (hN (ntF LK m0 m f i)) 60) + 1) = nI (min (hN (ntF LK m0 m f i) + 1) 60) := fun K => by
        rw [show (60 : Int32) = nI 60 from rfl, les (by decide) (by omega)]
        congr 1; omega
      rw [if_pos i6, if_pos i107, s7, Option.bind_some, if_pos i108, s8, Option.bind_some, if_pos iv, if_pos i109, s9, Option.bind_some]
      simp only [gk _ 117 _ _ (by decide), gk _ 116 _ _ (by decide), gk _ 118 _ _ (by decide), k117]
      rw [show (10 : Int32) * nI t + nI i = nI (10 * t + i) from by rw [l_10, nI_mulI, nI_add], if_pos iv, if_pos (ibs_nI (by omega) (by decide)), if_pos i110, s10, Option.bind_some]
      simp only [gk _ 117 _ _ (by decide), gk _ 116 _ _ (by decide), gk _ 118 _ _ (by decide), k117, k116]
      rw [if_pos iv, if_pos i111, s11, Option.bind_some]
      simp only [gk _ 117 _ _ (by decide), gk _ 116 _ _ (by decide), gk _ 118 _ _ (by decide), k117, k116, k118]
      rw [if_pos i8, if_pos i8, s88, Option.bind_some, g8, lm, g6]
      rw [show nI (cntB (fun v => (f v).isSome) i) + 1 = nI (cntB (fun v => (f v).isSome) (i + 1)) from by rw [cntB_succ, hfi, if_pos (show (some t).isSome = true from rfl), l_1, nI_add]]
      refine Tr.some (Or.inl ⟨_, rfl, ?_, ((((((hF.tr hF2).tr (Fr.sI (by simp))).tr (Fr.sI (by simp))).tr (Fr.sI (by simp))).tr (Fr.sI (by simp))).tr (Fr.sI (by simp))).tr (Fr.sI (by simp))⟩)
      · rw [uk_110, uk_110, uk_110, uk_110, uk_110, uk_110, hK, hX, ntF_some hfi]
        exact nt_uk
  · obtain ⟨hX, hF⟩ := hP
    have g4 : gA N 110 4 = nI (vN m) := by
      show N.1 110 4 = _
      rw [hX, uk_ne (by decide), ntF_lo (by omega) (by decide) (by decide)]; exact e4
    show Tr (f_X10_goesBy_L13 N (nI (cntB (fun v => (f v).isSome) (vN m))) (nI (vN m))) _
    unfold f_X10_goesBy_L13
    rw [if_pos i3, g4, if_pos (by rw [nI_leI (by omega) (by omega)]; omega)]
    exact Tr.some ⟨_, rfl, rfl, hX, hF⟩
theorem lonR {c : Nat → Nat} {T : Nat} (hT : T ≤ 9) (hm : M.1 110 = m) (h3 : m 3 = nI T) (hl : ∀ t, t < T → isN (m (12 + 5 * t + 4)) 99) (h119 : ∀ t, t < T → M.1 119 t = nI (c t) ∧ c t < 1000) (y : Int32) : Tr (loop FU (fun a_15 => f_X10_goesBy_L178 a_15.1 y a_15.2) (M, 0)) (fun N => N.1 110 = lnF c T m ∧ Fr [110] M N) := by
  have i3 : ibs (3 : Int32) 807 = true := by decide
  refine lp0 (fun i (N : Mm) => (N, nI i)) T (fun i N => N.1 110 = lnF c i m ∧ Fr [110] M N) (by omega) M rfl ⟨hm, Fr.rf⟩ (fun i N hi hP => ?_) (fun N hP => ?_)
  · obtain ⟨hN, hF⟩ := hP
    have g3 : gA N 110 3 = nI T := by
      show N.1 110 3 = _
      rw [hN, lnF_lo (Or.inl (by omega)) (by omega)]; exact h3
    have r3 : lnF c i m (12 + 5 * i + 3) = m (12 + 5 * i + 3) := lnF_lo (Or.inr (Or.inr ⟨i, 3, Nat.le_refl _, by decide, rfl⟩)) (by omega)
    have r4 : lnF c i m (12 + 5 * i + 4) = m (12 + 5 * i + 4) := lnF_lo (Or.inr (Or.inr ⟨i, 4, Nat.le_refl _, by decide, rfl⟩)) (by omega)
    have o3 : f_X10_of N (nI i) 3 = some (m (12 + 5 * i + 3)) := (ofR (c := 3) (by omega) (by decide)).trans (by rw [hN, r3])
    have o4 : f_X10_of N (nI i) 4 = some (m (12 + 5 * i + 4)) := (ofR (c := 4) (by omega) (by decide)).trans (by rw [hN, r4])
    obtain ⟨z1, z2⟩ := hl i hi
    obtain ⟨c1, c2⟩ := h119 i hi
    have g9 : gA N 119 (nI i) = nI (c i) := by rw [gA_nI (by omega), (hF 119 (by simp)).1]; exact c1
    have ix : (12 : Int32) + 5 * nI i + 4 = nI (12 + 5 * i + 4) := ix5 (b := 12) (c := 4)
    have J : ∀ w y2 : Int32, f_X10_goesBy_J178_236 N y2 (nI i) w (12 + 5 * nI i + 4) = some (.inl (sI N 110 (12 + 5 * i + 4) w, nI (i + 1))) := fun w y2 => by
      unfold f_X10_goesBy_J178_236
      rw [ix, if_pos (ib807 (by omega)), sA110 (by omega), Option.bind_some, l_1, nI_add]
    show Tr (f_X10_goesBy_L178 N y (nI i)) _
    unfold f_X10_goesBy_L178
    rw [if_pos i3, g3, if_neg (by rw [nI_leI (by omega) (by omega)]; omega), o3, Option.bind_some, J]
    by_cases d1 : m (12 + 5 * i + 3) = 1
    · rw [if_pos d1, if_pos (ibs_nI (by omega) (by decide)), g9, o4, Option.bind_some, J]
      by_cases d2 : c i = 0
      · rw [if_pos (show nI (c i) ≤ 0 by rw [show (0 : Int32) = nI 0 from rfl, nI_leI (by omega) (by omega)]; omega)]
        refine Tr.some (Or.inl ⟨_, rfl, ?_, hF.tr (Fr.sI (by simp))⟩)
        rw [uk_110, hN, lnF_succ]
        unfold lnY
        rw [r3, r4, if_pos d1, if_pos d2]
        generalize (m (12 + 5 * i + 4)).toNatClampNeg = z at z1 z2
        rw [z1, l_99, les (by decide) (by omega)]
      · rw [if_neg (show ¬ nI (c i) ≤ 0 by rw [show (0 : Int32) = nI 0 from rfl, nI_leI (by omega) (by omega)]; omega)]
        refine Tr.some (Or.inl ⟨_, rfl, ?_, hF.tr (Fr.sI (by simp))⟩)
        rw [uk_110, hN, lnF_succ]
        unfold lnY
        rw [r3, if_pos d1, if_neg d2]
    · rw [if_neg d1, show nI i + 1 = nI (i + 1) from by rw [l_1, nI_add]]
      refine Tr.some (Or.inl ⟨N, rfl, ?_, hF⟩)
      rw [hN, lnF_succ]
      unfold lnY
      rw [r3, if_neg d1]
  · obtain ⟨hN, hF⟩ := hP
    have g3 : gA N 110 3 = nI T := by
      show N.1 110 3 = _
      rw [hN, lnF_lo (Or.inl (by omega)) (by omega)]; exact h3
    show Tr (f_X10_goesBy_L178 N y (nI T)) _
    unfold f_X10_goesBy_L178
    rw [if_pos i3, g3, if_pos (by rw [nI_leI (by omega) (by omega)]; omega)]
    exact Tr.some ⟨_, rfl, hN, hF⟩
theorem lnF_uk {c : Nat → Nat} (hn : n ≤ 9) : lnF c n (uk m 7 x) = uk (lnF c n m) 7 x := by
  induction n with
  | zero => rfl
  | succ n ih =>
    rw [lnF_succ, lnF_succ, ih (by omega)]
    unfold lnY
    rw [uk_ne (by omega), uk_ne (by omega)]
    by_cases h : lnF c n m (12 + 5 * n + 3) = 1
    · rw [if_pos h, if_pos h, uk_cm (by omega)]
    · rw [if_neg h, if_neg h]
/-- a day passed: the reference -/
theorem goesR (HL : LSpec LR LK) (hm : M.1 110 = m) (hI : Inv m B) (hB : B + 10 < 2 ^ 31) (hR : LR Mc L m) (dr : Bool) : Tr (f_X10_goesBy M (bI dr)) (fun r => r.1 = nI (ldS nxs drw m LK dr (vN m)).2.2.2 ∧ r.2.1 110 = dyM LK m (ldS nxs drw m LK dr (vN m)) ∧ FrQ [109, 110, 115, 116, 117, 118, 119] M r.2 ∧ (∀ v, v < 10 → r.2.1 117 v = oI ((ldS nxs drw m LK dr (vN m)).1 v)) ∧ ∀ t, t < tN m → r.2.1 119 t = nI ((ldS nxs drw m LK dr (vN m)).2.1 t)) := by
  have hT := hI.t
  have hV := hI.v
  unfold f_X10_goesBy
  refine Tr.bind (asksR HL hm hI hR) (fun N1 hN1 => ?_)
  obtain ⟨hF1, h116⟩ := hN1
  have m1 : N1.1 110 = m := by rw [(hF1.1 110 (by simp)).1]; exact hm
  have hl2 := leadsR2 HL hI m1 h116 dr
  have hinv := ld_inv (nx := nxs) (dw := drw) (m := m) (LK := LK) dr (vN m)
  have hmore := ld_more (nx := nxs) (dw := drw) (m := m) (LK := LK) dr (vN m)
  generalize ldS nxs drw m LK dr (vN m) = S at hl2 hinv hmore ⊢
  refine Tr.bind hl2 (fun N2 hN2 => ?_)
  obtain ⟨a1, a2, a3, a4, a5⟩ := hN2
  obtain ⟨i1, i2, i3⟩ := hinv
  have nr := notesR (LK := LK) (m0 := m) hI.u9 (show B + vN m < 2 ^ 31 by omega) (f := S.1) a1 i1 a3 a4 (fun t v ht hv => by rw [(a2 116 (by simp)).1]; exact h116 t v ht hv)
  refine Tr.bind nr (fun r hr => ?_)
  obtain ⟨r1, r2, r3⟩ := hr
  have iA : Inv (ntF LK m (u9 m S.2.2.1) S.1 (vN m)) (B + vN m) := ntF_inv hI.u9 (show B + vN m < 2 ^ 31 by omega) (vN m) (Nat.le_refl _)
  have tA : tN (ntF LK m (u9 m S.2.2.1) S.1 (vN m)) = tN m := (ntF_n (vN m)).1
  have hA : hN (ntF LK m (u9 m S.2.2.1) S.1 (vN m)) = hN m + cntB (fun v => (S.1 v).isSome) (vN m) := ntF_hN hI.u9 (show B + vN m < 2 ^ 31 by omega) (vN m) (Nat.le_refl _)
  have r2 : r.1.1 110 = uk (ntF LK m (u9 m S.2.2.1) S.1 (vN m)) 7 (m 7) := r2
  have r1 : r.2 = nI (cntB (fun v => (S.1 v).isSome) (vN m)) := r1
  rw [← hmore.2] at hA r1
  generalize hAA : ntF LK m (u9 m S.2.2.1) S.1 (vN m) = A at iA tA hA r2
  have lr := lonR (c := S.2.1) (T := tN m) hT.2 r2 (by rw [uk_ne (by decide)]; have := iA.t.1; rw [tA] at this; exact this) (fun t ht => by
      rw [uk_ne (by omega)]
      exact (iA.2.2.2.2.2.2.1 t (by rw [tA]; exact ht)).2.2.2.2) (fun t ht => ⟨by rw [(r3 119 (by simp)).1]; exact a5 t ht, by
      have h1 := i2 t
      have h2 := (hI.rm ht).2.2
      omega⟩) r.2
  refine Tr.bind lr (fun N4 hN4 => ?_)
  obtain ⟨b1, b2⟩ := hN4
  rw [lnF_uk hT.2] at b1
  have i7 : ibs (7 : Int32) 807 = true := by decide
  have i6 : ibs (6 : Int32) 807 = true := by decide
  have s7 : ∀ (K : Mm) y, sA K 110 7 y = sI K 110 7 y := fun _ _ => rfl
  have s6 : ∀ (K : Mm) y, sA K 110 6 y = sI K 110 6 y := fun _ _ => rfl
  have g7 : gA N4 110 7 = m 7 := by show N4.1 110 7 = _; rw [b1, uk_eq]
  have hh := hI.h
  have e7 : m 7 + r.2 = A 7 := by
    rw [r1, hh.1, nI_add, ← hA]
    exact iA.h.1.symm
  have A6 : A 6 = m 6 := by rw [← hAA, ntF_lo (by omega) (by decide) (by decide), u9e (by decide)]
  have g6 : ∀ y, gA (sI N4 110 7 y) 110 6 = m 6 := fun y => by
    show (sI N4 110 7 y).1 110 6 = _
    rw [uk_110, uk_ne (by decide), b1, uk_ne (by decide), lnF_lo (Or.inl (by decide)) hT.2]; exact A6
  rw [if_pos i7, if_pos i7, g7, s7, Option.bind_some, if_pos i6, if_pos i6, g6, s6, Option.bind_some, e7]
  have hF4 : Fr [110, 117, 118, 119] N1 N4 := (a2.tr (r3.mono (by simp))).tr (b2.mono (by simp))
  have hFF : FrQ [109, 110, 115, 116, 117, 118, 119] M N4 := (hF1.mono (by simp)).tr ((FrQ.of hF4 (by simp)).mono (by simp))
  refine Tr.some ⟨r1, ?_, (hFF.tr (FrQ.sI (by simp) (by decide))).tr (FrQ.sI (by simp) (by decide)), fun v hv => ?_, fun t ht => ?_⟩
  · rw [uk_110, uk_110, b1, uk_uk, uk_self (k := 7) (by rw [lnF_lo (Or.inl (by decide)) hT.2])]
    unfold dyM
    rw [hAA]
  · show (sI (sI N4 110 7 _) 110 6 _).1 117 v = _
    rw [sI_fn (by decide), sI_fn (by decide), (b2 117 (by simp)).1, (r3 117 (by simp)).1]
    exact a3 v hv
  · show (sI (sI N4 110 7 _) 110 6 _).1 119 t = _
    rw [sI_fn (by decide), sI_fn (by decide), (b2 119 (by simp)).1, (r3 119 (by simp)).1]
    exact a5 t ht
end GOES
