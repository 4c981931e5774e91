/-! dearest: the reference's gains -/
section STEPS
variable {T V f n m k i v t j A B : Nat} {G : Nat → Nat → Bool} {R : Nat → Nat} {l : Nat → Nat → Nat} {b b2 bc : Nat → Option Nat} {U p : Nat → Int} {fr fr2 : Nat → Nat} {dT dV : Nat → Int} {lT lV : Nat → Nat} {mu lam X a c : Int} {o : Option Nat} {tau : Nat} {sg sg2 : Nat → Nat → Nat} {M N K : Mm} {x y z : Int32}
def zI (a : Int) : Int32 := Int32.ofInt a
theorem zI_int (h1 : -2147483648 ≤ a) (h2 : a < 2147483648) : (zI a).toInt = a := Int32.toInt_ofInt_of_le h1 h2
theorem zI_le (h1 : -2147483648 ≤ a) (h2 : a < 2147483648) (h3 : -2147483648 ≤ c) (h4 : c < 2147483648) : (zI a ≤ zI c) = (a ≤ c) := by
  rw [Int32.le_iff_toInt_le, zI_int h1 h2, zI_int h3 h4]
theorem zI_add : zI a + zI c = zI (a + c) := (Int32.ofInt_add a c).symm
theorem zI_sub : zI a - zI c = zI (a - c) := (Int32.ofInt_sub a c).symm
theorem nI_z (n : Nat) : nI n = zI (n : Int) := (Int32.ofInt_eq_ofNat ..).symm
def ZR : Int := -2000000000
theorem zI_Z : (-2000000000 : Int32) = zI ZR := by decide
theorem zI_0 : (0 : Int32) = zI 0 := by decide
/-- what the reference looks at -/
def CxR (T V : Nat) (G : Nat → Nat → Bool) (l : Nat → Nat → Nat) (N : Mm) : Prop := T ≤ 9 ∧ V ≤ 10 ∧ N.1 110 3 = nI T ∧ N.1 110 4 = nI V ∧ (∀ v, v < V → N.1 121 v = bset (fun t => G t v) T) ∧ ∀ t v, t < T → v < V → N.1 116 (10 * t + v) = nI (l t v) ∧ l t v ≤ 1188
theorem CxR.to (h : CxR T V G l M) (hF : Fr [119, 120, 122, 123, 124] M N) : CxR T V G l N := by
  obtain ⟨h1, h2, h3, h4, h5, h6⟩ := h
  refine ⟨h1, h2, by rw [(hF 110 (by simp)).1]; exact h3, by rw [(hF 110 (by simp)).1]; exact h4, fun v hv => by rw [(hF 121 (by simp)).1]; exact h5 v hv, fun t v ht hv => by rw [(hF 116 (by simp)).1]; exact h6 t v ht hv⟩
theorem CxR.w (h : CxR T V G l M) : ∀ v t, v < V → t < T → G t v = true → 0 ≤ wR l t v ∧ wR l t v ≤ 1188 := fun v t hv ht _ => by
  have := (h.2.2.2.2.2 t v ht hv).2
  show (0 : Int) ≤ (l t v : Int) ∧ (l t v : Int) ≤ 1188
  omega
/-- gains in the reference's memory -/
def RM (T V : Nat) (N : Mm) (dT dV : Nat → Int) (fr : Nat → Nat) : Prop := (∀ t, t < T → N.1 123 t = zI (dT t)) ∧ (∀ v, v < V → N.1 123 (9 + v) = zI (dV v)) ∧ ∀ t, t < T → dT t ≠ ZR → N.1 124 t = nI (fr t)
theorem isGR (h : CxR T V G l N) (ht : t < T) (hv : v < V) : (f_X10_isOf N (gA N 121 (nI v)) (nI t) = true) = (G t v = true) := by
  obtain ⟨h1, h2, h3, h4, h5, h6⟩ := h
  rw [gA_nI (by omega), h5 v hv, isOfE (by omega), bt_bset (by omega) (by omega)]
  simp [ht]
theorem oI_b (hW : Way T V f G R b) (hT : T ≤ 9) (hv : v < V) : ∀ t, b v = some t → t < 2 ^ 31 := fun t hb => by
  have := (hW.1 v t hv hb).2.1
  omega
/-- one pair -/
theorem pairR (hC : CxR T V G l N) (hBy : ∀ v, v < V → N.1 120 v = oI (b v)) (hW : Way T V f G R b) (hP : PD T V f G R (wR l) b U p mu) (hA : ABS T V f G (wR l) ZR b tau tau X sg dT dV fr lT lV) (hR : RM T V N dT dV fr) (hX0 : 0 ≤ X) (hX : X ≤ 1000000000) (hv : f ≤ v) (hv2 : v < V) (ht : t < T) (hsv : tau ≤ sg v t + 1) (hsg : ∀ u s, sg2 u s ≤ tau) (hs : ∀ u s, (u ≠ v ∨ s ≠ t) → sg2 u s ≤ sg u s) : ∃ N2 dT2 dV2 fr2 lT2 lV2, f_X10_stepsOn_L91 N x y (nI v) (nI t) = some (.inl (N2, nI (t + 1))) ∧ Fr [123, 124] N N2 ∧ RM T V N2 dT2 dV2 fr2 ∧ ABS T V f G (wR l) ZR b tau tau (X + 1188) sg2 dT2 dV2 fr2 lT2 lV2 := by
  have hG := isGR hC ht hv2
  have hob := oI_eq (o := b v) (t := t) (oI_b hW hC.1 hv2) (by have := hC.1; omega)
  have hw := hC.w
  obtain ⟨h1, h2, h3, h4, h5, h6⟩ := hC
  obtain ⟨r1, r2, r3⟩ := hR
  obtain ⟨a1, a2, a3, a4⟩ := hA
  have hA : ABS T V f G (wR l) ZR b tau tau X sg dT dV fr lT lV := ⟨a1, a2, a3, a4⟩
  have hZ : ZR = -2000000000 := rfl
  have bT : -2000000000 ≤ dT t ∧ dT t ≤ X ∧ (dT t ≠ ZR → -X ≤ dT t) := by
    by_cases e : dT t = ZR
    · exact ⟨by omega, by omega, fun h => absurd e h⟩
    · have := (a2 t ht).1 e
      exact ⟨by omega, this.2, fun _ => this.1⟩
  have bV : -2000000000 ≤ dV v ∧ dV v ≤ X ∧ (dV v ≠ ZR → -X ≤ dV v) := by
    by_cases e : dV v = ZR
    · exact ⟨by omega, by omega, fun h => absurd e h⟩
    · have := (a3 v hv2).1 e
      exact ⟨by omega, this.2.2, fun _ => this.2.1⟩
  have i3 : ibs (3 : Int32) 807 = true := by decide
  have iv : ibs (nI v) 10 = true := ibs_nI (by omega) (by decide)
  have it : ibs (nI t) 19 = true := ibs_nI (by omega) (by decide)
  have i9 : ibs (9 + nI v) 19 = true := by rw [l_9, nI_add]; exact ibs_nI (by omega) (by decide)
  have g120 : gA N 120 (nI v) = oI (b v) := by rw [gA_nI (by omega)]; exact hBy v hv2
  have gt : gA N 123 (nI t) = zI (dT t) := by rw [gA_nI (by omega)]; exact r1 t ht
  have gv : gA N 123 (9 + nI v) = zI (dV v) := by rw [l_9, nI_add, gA_nI (by omega)]; exact r2 v hv2
  have gl : gA N 116 (10 * nI t + nI v) = zI (l t v : Int) := by rw [l_10, nI_mulI, nI_add, gA_nI (by omega), (h6 t v ht hv2).1, nI_z]
  have il : ibs (10 * nI t + nI v) 90 = true := by rw [l_10, nI_mulI, nI_add]; exact ibs_nI (by omega) (by decide)
  have hl := (h6 t v ht hv2).2
  have hwl : wR l t v = (l t v : Int) := rfl
  have stay : (G t v = true → b v ≠ some t → dV v ≠ ZR → dV v + wR l t v ≤ dT t) → (G t v = true → b v = some t → dT t ≠ ZR → dT t - wR l t v ≤ dV v) → f_X10_stepsOn_L91 N x y (nI v) (nI t) = some (.inl (N, nI (t + 1))) → ∃ N2 dT2 dV2 fr2 lT2 lV2, f_X10_stepsOn_L91 N x y (nI v) (nI t) = some (.inl (N2, nI (t + 1))) ∧ Fr [123, 124] N N2 ∧ RM T V N2 dT2 dV2 fr2 ∧ ABS T V f G (wR l) ZR b tau tau (X + 1188) sg2 dT2 dV2 fr2 lT2 lV2 := fun e1 e2 e3 => ⟨N, dT, dV, fr, lT, lV, e3, Fr.rf, ⟨r1, r2, r3⟩, (skip_ok hA e1 e2 hs).mono (Nat.le_refl _) (Nat.le_refl _) (by omega) (fun _ _ _ _ _ => Nat.le_refl _)⟩
  have hnx : nI t + 1 = nI (t + 1) := by rw [l_1, nI_add]
  have head : ∀ Y, (f_X10_stepsOn_L91 N x y (nI v) (nI t) = Y) = ((if G t v = true then (if b v = some t then (f_X10_stepsOn_J91_208 N x y (nI v) (nI t) (zI (l t v : Int))) else (if zI (dV v) ≤ zI ZR then (f_X10_stepsOn_J91_208 N x y (nI v) (nI t) (zI (l t v : Int))) else (if zI (dV v) + zI (l t v : Int) ≤ zI (dT t) then (f_X10_stepsOn_J91_208 N x y (nI v) (nI t) (zI (l t v : Int))) else (some (sA N 123 (nI t) (zI (dV v) + zI (l t v : Int)))).bind (fun M7 => if ibs (nI t) 19 = true then (some (sA M7 124 (nI t) (nI v))).bind (fun M8 => f_X10_stepsOn_J91_208 M8 x y (nI v) (nI t) (zI (l t v : Int))) else none)))) else some (.inl (N, nI (t + 1)))) = Y) := fun Y => by
    unfold f_X10_stepsOn_L91
    rw [if_pos i3, show gA N 110 3 = nI T from h3, if_neg (show ¬ nI T ≤ nI t by rw [nI_leI (by omega) (by omega)]; omega), if_pos iv, hnx]
    by_cases g : G t v = true
    · rw [if_pos (hG.mpr g), if_pos g, if_pos il, gl, Option.bind_some, if_pos iv, g120]
      by_cases hb : b v = some t
      · rw [if_pos (hob.mpr hb), if_pos hb]
      · rw [if_neg (fun h => hb (hob.mp h)), if_neg hb, if_pos i9, gv, zI_Z, if_pos i9, if_pos it, gt, if_pos i9, if_pos it]
    · rw [if_neg (fun h => g (hG.mp h)), if_neg g]
  have tail : ∀ (K : Mm), K.1 120 = N.1 120 → b v ≠ some t → f_X10_stepsOn_J91_208 K x y (nI v) (nI t) (zI (l t v : Int)) = some (.inl (K, nI (t + 1))) := fun K hK hb => by
    unfold f_X10_stepsOn_J91_208
    rw [if_pos iv, show gA K 120 (nI v) = oI (b v) from by rw [gA_nI (by omega), hK]; exact hBy v hv2, if_neg (fun h => hb (hob.mp h)), hnx]
  by_cases g : G t v = true
  · by_cases hb : b v = some t
    · -- back
      have h208 : ∀ Y, (f_X10_stepsOn_L91 N x y (nI v) (nI t) = Y) = ((if zI (dT t) ≤ zI ZR then some (.inl (N, nI (t + 1))) else (if zI (dT t) - zI (l t v : Int) ≤ zI (dV v) then some (.inl (N, nI (t + 1))) else (some (sA N 123 (9 + nI v) (zI (dT t) - zI (l t v : Int)))).bind (fun M5 => if ibs (9 + nI v) 19 = true then (some (sA M5 124 (9 + nI v) (nI t))).bind (fun M6 => some (.inl (M6, nI (t + 1)))) else none))) = Y) := fun Y => by
        rw [head, if_pos g, if_pos hb]
        unfold f_X10_stepsOn_J91_208
        rw [if_pos iv, g120, if_pos (hob.mpr hb), if_pos it, gt, zI_Z, if_pos it, if_pos i9, gv, hnx, if_pos it, if_pos i9]
      by_cases c1 : dT t = ZR
      · refine stay (fun _ hb2 => absurd hb hb2) (fun _ _ hd => absurd c1 hd) ?_
        rw [h208, if_pos (by rw [zI_le (by omega) (by omega) (by omega) (by omega)]; omega)]
      · have := bT.2.2 c1
        by_cases c2 : dT t - wR l t v ≤ dV v
        · refine stay (fun _ hb2 => absurd hb hb2) (fun _ _ _ => c2) ?_
          rw [h208, if_neg (by rw [zI_le (by omega) (by omega) (by omega) (by omega)]; omega), zI_sub, if_pos (by rw [zI_le (by omega) (by omega) (by omega) (by omega)]; omega)]
        · have hr := relaxB (sg2 := sg2) (W := 1188) hW hA hw (by omega) (Nat.le_refl _) hv2 hb c1 (by omega) hsv hsg hs
          refine ⟨sI (sI N 123 (9 + v) (zI (dT t - wR l t v))) 124 (9 + v) (nI t), dT, upI dV v (dT t - wR l t v), fr, lT, upN lV v tau, ?_, (Fr.sI (by simp)).tr (Fr.sI (by simp)), ⟨fun s hs2 => ?_, fun u hu => ?_, fun s hs2 hd => ?_⟩, hr⟩
          · rw [h208, if_neg (by rw [zI_le (by omega) (by omega) (by omega) (by omega)]; omega), zI_sub, if_neg (by rw [zI_le (by omega) (by omega) (by omega) (by omega)]; omega), Option.bind_some, if_pos i9, Option.bind_some, l_9, nI_add, sA_nI (by omega), sA_nI (by omega), hwl]
          · rw [sI_fn (by decide), sI_at, if_neg (by omega)]; exact r1 s hs2
          · rw [sI_fn (by decide), sI_at]
            by_cases e : u = v
            · subst e; rw [if_pos ⟨rfl, rfl⟩, upI_eq]
            · rw [if_neg (by omega), upI_ne e]; exact r2 u hu
          · rw [sI_at, if_neg (by omega), sI_fn (by decide)]; exact r3 s hs2 hd
    · by_cases c1 : dV v = ZR
      · refine stay (fun _ _ hd => absurd c1 hd) (fun _ hb2 => absurd hb2 hb) ?_
        rw [head, if_pos g, if_neg hb, if_pos (by rw [zI_le (by omega) (by omega) (by omega) (by omega)]; omega), tail N rfl hb]
      · have := bV.2.2 c1
        by_cases c2 : dV v + wR l t v ≤ dT t
        · refine stay (fun _ _ _ => c2) (fun _ hb2 => absurd hb2 hb) ?_
          rw [head, if_pos g, if_neg hb, if_neg (by rw [zI_le (by omega) (by omega) (by omega) (by omega)]; omega), zI_add, if_pos (by rw [zI_le (by omega) (by omega) (by omega) (by omega)]; omega), tail N rfl hb]
        · have hr := relaxF (sg2 := sg2) (W := 1188) hW hP hA hw (by omega) (Nat.le_refl _) hv hv2 ht g hb c1 (by omega) hsv hsg hs
          refine ⟨sI (sI N 123 t (zI (dV v + wR l t v))) 124 t (nI v), upI dT t (dV v + wR l t v), dV, upN fr t v, upN lT t tau, lV, ?_, (Fr.sI (by simp)).tr (Fr.sI (by simp)), ⟨fun s hs2 => ?_, fun u hu => ?_, fun s hs2 hd => ?_⟩, hr⟩
          · rw [head, if_pos g, if_neg hb, if_neg (by rw [zI_le (by omega) (by omega) (by omega) (by omega)]; omega), zI_add, if_neg (by rw [zI_le (by omega) (by omega) (by omega) (by omega)]; omega), Option.bind_some, if_pos it, Option.bind_some, sA_nI (by omega), sA_nI (by omega), tail _ (by rw [sI_fn (by decide), sI_fn (by decide)]) hb, hwl]
          · rw [sI_fn (by decide), sI_at]
            by_cases e : s = t
            · subst e; rw [if_pos ⟨rfl, rfl⟩, upI_eq]
            · rw [if_neg (by omega), upI_ne e]; exact r1 s hs2
          · rw [sI_fn (by decide), sI_at, if_neg (by omega)]; exact r2 u hu
          · rw [sI_at]
            by_cases e : s = t
            · subst e; rw [if_pos ⟨rfl, rfl⟩, upN_eq]
            · rw [upI_ne e] at hd
              rw [if_neg (by omega), upN_ne e, sI_fn (by decide)]; exact r3 s hs2 hd
  · refine stay (fun h => absurd h g) (fun h => absurd h g) ?_
    rw [head, if_neg g]
/-- one round -/
theorem roundR (hC : CxR T V G l N) (hBy : ∀ v, v < V → N.1 120 v = oI (b v)) (hW : Way T V f G R b) (hP : PD T V f G R (wR l) b U p mu) (hf : f ≤ V) (hA : ABS T V f G (wR l) ZR b tau tau X (fun _ _ => tau - 1) dT dV fr lT lV) (hR : RM T V N dT dV fr) (hX0 : 0 ≤ X) (hX : X ≤ 900000000) : Tr (loop FU (fun a_10 => f_X10_stepsOn_L78 a_10.1 (nI f) y a_10.2) (N, nI f)) (fun N2 => Fr [123, 124] N N2 ∧ ∃ dT dV fr lT lV, RM T V N2 dT dV fr ∧ ABS T V f G (wR l) ZR b tau tau (X + 1188 * 90) (fun _ _ => tau) dT dV fr lT lV) := by
  have hC0 := hC
  obtain ⟨h1, h2, h3, h4, h5, h6⟩ := hC
  have i3 : ibs (3 : Int32) 807 = true := by decide
  have i4 : ibs (4 : Int32) 807 = true := by decide
  refine lp0 (fun k (N : Mm) => (N, nI (f + k))) (V - f) (fun k N2 => Fr [123, 124] N N2 ∧ ∃ dT dV fr lT lV, RM T V N2 dT dV fr ∧ ABS T V f G (wR l) ZR b tau tau (X + 1188 * (9 * k)) (fun v _ => if v < f + k then tau else tau - 1) dT dV fr lT lV) (by omega) N rfl ⟨Fr.rf, dT, dV, fr, lT, lV, hR, hA.mono (Nat.le_refl _) (Nat.le_refl _) (by omega) (fun v t g1 g2 g3 => by rw [if_neg (by omega)]; exact Nat.le_refl _)⟩ (fun k K hk hK => ?_) (fun K hK => ?_)
  · obtain ⟨hF, dT, dV, fr, lT, lV, hR, hA⟩ := hK
    show Tr (f_X10_stepsOn_L78 K (nI f) y (nI (f + k))) _
    have g4 : gA K 110 4 = nI V := by show K.1 110 4 = _; rw [(hF 110 (by simp)).1]; exact h4
    unfold f_X10_stepsOn_L78
    rw [if_pos i4, g4, if_neg (by rw [nI_leI (by omega) (by omega)]; omega)]
    refine Tr.bind (Q := fun N2 => Fr [123, 124] N N2 ∧ ∃ dT dV fr lT lV, RM T V N2 dT dV fr ∧ ABS T V f G (wR l) ZR b tau tau (X + 1188 * (9 * k + T)) (fun v' t' => if v' < f + k ∨ (v' = f + k ∧ t' < T) then tau else tau - 1) dT dV fr lT lV) ?_ (fun N2 hN2 => ?_)
    · refine lp0 (fun t (N : Mm) => (N, nI t)) T (fun t N2 => Fr [123, 124] N N2 ∧ ∃ dT dV fr lT lV, RM T V N2 dT dV fr ∧ ABS T V f G (wR l) ZR b tau tau (X + 1188 * (9 * k + t)) (fun v' t' => if v' < f + k ∨ (v' = f + k ∧ t' < t) then tau else tau - 1) dT dV fr lT lV) (by omega) K rfl ⟨hF, dT, dV, fr, lT, lV, hR, hA.mono (Nat.le_refl _) (Nat.le_refl _) (by omega) (fun v' t' g1 g2 g3 => by
        by_cases c : v' < f + k
        · rw [if_pos (Or.inl c), if_pos c]; exact Nat.le_refl _
        · rw [if_neg (by omega), if_neg c]; exact Nat.le_refl _)⟩ (fun t N2 ht hN2 => ?_) (fun N2 hN2 => ?_)
      · obtain ⟨hF2, dT, dV, fr, lT, lV, hR, hA⟩ := hN2
        show Tr (f_X10_stepsOn_L91 N2 (nI f) y (nI (f + k)) (nI t)) _
        have hC2 : CxR T V G l N2 := hC0.to (hF2.mono (by simp))
        have hBy2 : ∀ v, v < V → N2.1 120 v = oI (b v) := fun v hv => by rw [(hF2 120 (by simp)).1]; exact hBy v hv
        obtain ⟨N3, dT2, dV2, fr2, lT2, lV2, s1, s2, s3, s4⟩ := pairR (x := nI f) (y := y) (sg2 := fun v' t' => if v' < f + k ∨ (v' = f + k ∧ t' < t + 1) then tau else tau - 1) hC2 hBy2 hW hP hA hR (by omega) (by omega) (show f ≤ f + k by omega) (by omega) ht (by
          rw [if_neg (by omega)]; omega) (fun u s => by
          by_cases c : u < f + k ∨ (u = f + k ∧ s < t + 1)
          · rw [if_pos c]; exact Nat.le_refl _
          · rw [if_neg c]; omega) (fun u s hne => by
          by_cases c : u < f + k ∨ (u = f + k ∧ s < t)
          · rw [if_pos c, if_pos (by omega)]; exact Nat.le_refl _
          · rw [if_neg c, if_neg (by omega)]; exact Nat.le_refl _)
        exact ⟨_, s1, Or.inl ⟨N3, rfl, hF2.tr s2, dT2, dV2, fr2, lT2, lV2, s3, s4.mono (Nat.le_refl _) (Nat.le_refl _) (by omega) (fun _ _ _ _ _ => Nat.le_refl _)⟩⟩
      · show Tr (f_X10_stepsOn_L91 N2 (nI f) y (nI (f + k)) (nI T)) _
        have g3 : gA N2 110 3 = nI T := by show N2.1 110 3 = _; rw [(hN2.1 110 (by simp)).1]; exact h3
        unfold f_X10_stepsOn_L91
        rw [if_pos i3, g3, if_pos (by rw [nI_leI (by omega) (by omega)]; omega)]
        exact Tr.some ⟨_, rfl, hN2⟩
    · obtain ⟨hF2, dT, dV, fr, lT, lV, hR, hA⟩ := hN2
      refine Tr.some (Or.inl ⟨N2, by rw [l_1, nI_add]; rfl, hF2, dT, dV, fr, lT, lV, hR, hA.mono (Nat.le_refl _) (Nat.le_refl _) (by omega) (fun v' t' g1 g2 g3 => ?_)⟩)
      by_cases c : v' < f + (k + 1)
      · rw [if_pos c, if_pos (by omega)]; exact Nat.le_refl _
      · rw [if_neg c, if_neg (by omega)]; exact Nat.le_refl _
  · obtain ⟨hF, dT, dV, fr, lT, lV, hR, hA⟩ := hK
    show Tr (f_X10_stepsOn_L78 K (nI f) y (nI (f + (V - f)))) _
    have g4 : gA K 110 4 = nI V := by show K.1 110 4 = _; rw [(hF 110 (by simp)).1]; exact h4
    unfold f_X10_stepsOn_L78
    rw [if_pos i4, g4, if_pos (by rw [nI_leI (by omega) (by omega)]; omega)]
    exact Tr.some ⟨_, rfl, hF, dT, dV, fr, lT, lV, hR, hA.mono (Nat.le_refl _) (Nat.le_refl _) (by omega) (fun v' t' g1 g2 g3 => by rw [if_pos (by omega)]; exact Nat.le_refl _)⟩
/-- at first -/
theorem beginR (hC : CxR T V G l N) (hBy : ∀ v, v < V → N.1 120 v = oI (b v)) (hW : Way T V f G R b) (hf : f ≤ V) : Tr (loop FU (fun a_3 => f_X10_stepsOn_L2 a_3.1 (nI f) a_3.2) (N, 0)) (fun N2 => Fr [123, 124] N N2 ∧ ∀ fr, RM T V N2 (fun _ => ZR) (d0V V f ZR b) fr) := by
  have hC0 := hC
  obtain ⟨h1, h2, h3, h4, h5, h6⟩ := hC
  have i4 : ibs (4 : Int32) 807 = true := by decide
  refine Tr.weak (lp0 (Q := fun N2 => Fr [123, 124] N N2 ∧ ∀ j, j < 19 → N2.1 123 j = zI (if j < 9 then ZR else d0V V f ZR b (j - 9))) (fun k (N : Mm) => (N, nI k)) 19 (fun k N2 => Fr [123, 124] N N2 ∧ ∀ j, j < k → N2.1 123 j = zI (if j < 9 then ZR else d0V V f ZR b (j - 9))) (by decide) N rfl ⟨Fr.rf, fun j hj => absurd hj (Nat.not_lt_zero _)⟩ (fun k K hk hK => ?_) (fun K hK => ?_)) (fun N2 hN2 => ?_)
  · obtain ⟨hF, hK⟩ := hK
    show Tr (f_X10_stepsOn_L2 K (nI f) (nI k)) _
    have g4 : gA K 110 4 = nI V := by show K.1 110 4 = _; rw [(hF 110 (by simp)).1]; exact h4
    have ik : ibs (nI k) 19 = true := ibs_nI (by omega) (by decide)
    have put : ∀ z : Int32, z = zI (if k < 9 then ZR else d0V V f ZR b (k - 9)) → Tr (f_X10_stepsOn_J2_54 K (nI f) (nI k) z (nI k)) (fun x => (∃ s' : Mm, x = .inl (s', nI (k + 1)) ∧ Fr [123, 124] N s' ∧ ∀ j, j < k + 1 → s'.1 123 j = zI (if j < 9 then ZR else d0V V f ZR b (j - 9))) ∨ ∃ r, x = .inr r ∧ Fr [123, 124] N r ∧ ∀ j, j < 19 → r.1 123 j = zI (if j < 9 then ZR else d0V V f ZR b (j - 9))) := fun z hz => by
      unfold f_X10_stepsOn_J2_54
      rw [if_pos ik, sA_nI (by omega), Option.bind_some, if_pos ik, sA_nI (by omega), Option.bind_some, l_1, nI_add]
      refine Tr.some (Or.inl ⟨_, rfl, hF.tr ((Fr.sI (by simp)).tr (Fr.sI (by simp))), fun j hj => ?_⟩)
      rw [sI_fn (by decide), sI_at]
      by_cases e : j = k
      · subst e; rw [if_pos ⟨rfl, rfl⟩]; exact hz
      · rw [if_neg (by omega)]; exact hK j (by omega)
    unfold f_X10_stepsOn_L2 f_X10_stepsOn_J2_51
    rw [if_neg (show ¬ (19 : Int32) ≤ nI k by rw [l_19, nI_leI (by omega) (by omega)]; omega), zI_Z, l_9, nI_add]
    by_cases c1 : k < 9 + f
    · rw [if_pos (by rw [nI_ltI (by omega) (by omega)]; exact c1)]
      refine put _ ?_
      by_cases c9 : k < 9
      · rw [if_pos c9]
      · rw [if_neg c9, show d0V V f ZR b (k - 9) = ZR from if_neg (by omega)]
    · rw [if_neg (by rw [nI_ltI (by omega) (by omega)]; exact c1), if_pos i4, g4, nI_add]
      by_cases c2 : 9 + V ≤ k
      · rw [if_pos (by rw [nI_leI (by omega) (by omega)]; exact c2)]
        refine put _ ?_
        rw [if_neg (by omega), show d0V V f ZR b (k - 9) = ZR from if_neg (by omega)]
      · have g120 : gA K 120 (nI (k - 9)) = oI (b (k - 9)) := by rw [gA_nI (by omega), (hF 120 (by simp)).1]; exact hBy _ (by omega)
        rw [if_neg (by rw [nI_leI (by omega) (by omega)]; exact c2), nI_subI (by omega), if_pos (ibs_nI (by omega) (by decide)), g120]
        have hm := oI_m1 (o := b (k - 9)) (oI_b hW h1 (by omega))
        by_cases c3 : b (k - 9) = none
        · rw [if_pos (by rw [hm, c3]; rfl), zI_0]
          refine put _ ?_
          rw [if_neg (by omega), show d0V V f ZR b (k - 9) = 0 from if_pos ⟨by omega, by omega, c3⟩]
        · rw [if_neg (by
            rw [hm]
            cases hb : b (k - 9) with
            | none => exact absurd hb c3
            | some t => intro h; exact nomatch h)]
          refine put _ ?_
          rw [if_neg (by omega), show d0V V f ZR b (k - 9) = ZR from if_neg (fun h => c3 h.2.2)]
  · show Tr (f_X10_stepsOn_L2 K (nI f) (nI 19)) _
    unfold f_X10_stepsOn_L2
    rw [if_pos (by decide)]
    exact Tr.some ⟨_, rfl, hK⟩
  · obtain ⟨hF, h⟩ := hN2
    refine ⟨hF, fun fr => ⟨fun t ht => ?_, fun v hv => ?_, fun t _ hd => absurd rfl hd⟩⟩
    · rw [h t (by omega), if_pos (by omega)]
    · rw [h (9 + v) (by omega), if_neg (by omega), Nat.add_sub_cancel_left]
/-- all rounds -/
theorem roundsR (hC : CxR T V G l N) (hBy : ∀ v, v < V → N.1 120 v = oI (b v)) (hW : Way T V f G R b) (hP : PD T V f G R (wR l) b U p mu) (hf : f ≤ V) (hR : ∀ fr, RM T V N (fun _ => ZR) (d0V V f ZR b) fr) : Tr (loop FU (fun a_11 => f_X10_stepsOn_L70 a_11.1 (nI f) a_11.2) (N, 0)) (fun N2 => Fr [123, 124] N N2 ∧ ∃ dT dV fr lT lV, RM T V N2 dT dV fr ∧ ABS T V f G (wR l) ZR b 19 19 (1188 * 90 * 19) (fun _ _ => 19) dT dV fr lT lV) := by
  refine lp0 (fun k (N : Mm) => (N, nI k)) 19 (fun k N2 => Fr [123, 124] N N2 ∧ ∃ dT dV fr lT lV, RM T V N2 dT dV fr ∧ ABS T V f G (wR l) ZR b k k (1188 * 90 * (k : Int)) (fun _ _ => k) dT dV fr lT lV) (by decide) N rfl ⟨Fr.rf, _, _, fun _ => 0, _, _, hR _, abs_0 (by decide)⟩ (fun k K hk hK => ?_) (fun K hK => ?_)
  · obtain ⟨hF, dT, dV, fr, lT, lV, hR, hA⟩ := hK
    show Tr (f_X10_stepsOn_L70 K (nI f) (nI k)) _
    unfold f_X10_stepsOn_L70
    rw [if_neg (show ¬ (19 : Int32) ≤ nI k by rw [l_19, nI_leI (by omega) (by omega)]; omega)]
    refine Tr.bind (roundR (tau := k + 1) (X := 1188 * 90 * (k : Int)) (hC.to (hF.mono (by simp))) (fun v hv => by rw [(hF 120 (by simp)).1]; exact hBy v hv) hW hP hf (hA.mono (by omega) (by omega) (Int.le_refl _) (fun _ _ _ _ _ => by omega)) hR (by omega) (by omega)) (fun N2 hN2 => ?_)
    obtain ⟨hF2, dT, dV, fr, lT, lV, hR, hA⟩ := hN2
    rw [l_1, nI_add]
    exact Tr.some (Or.inl ⟨N2, rfl, hF.tr hF2, dT, dV, fr, lT, lV, hR, hA.mono (Nat.le_refl _) (Nat.le_refl _) (by omega) (fun _ _ _ _ _ => Nat.le_refl _)⟩)
  · show Tr (f_X10_stepsOn_L70 K (nI f) (nI 19)) _
    unfold f_X10_stepsOn_L70
    rw [if_pos (by decide)]
    exact Tr.some ⟨_, rfl, hK⟩
end STEPS
