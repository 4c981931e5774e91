/-! dearest: the class's gains -/
section GAIN
variable {T V f n m k i v t j r : Nat} {G : Nat → Nat → Bool} {R : Nat → Nat} {w : Nat → Nat → Int} {l : Nat → Nat → Nat} {b b2 bc : Nat → Option Nat} {U p : Nat → Int} {fr fr2 : Nat → Nat} {dT dV : Nat → Int} {lT lV : Nat → Nat} {mu lam X Z a c : Int} {o : Option Nat} {tau A B : Nat} {sg sg2 : Nat → Nat → Nat} {M N K : Mm} {x y z : Int32} {fl : Bool}
def zJ (a : Int) : Int64 := Int64.ofInt a
theorem zJ_int (h1 : -9223372036854775808 ≤ a) (h2 : a < 9223372036854775808) : (zJ a).toInt = a := Int64.toInt_ofInt_of_le h1 h2
theorem zJ_add : zJ a + zJ c = zJ (a + c) := (Int64.ofInt_add a c).symm
theorem zJ_sub : zJ a - zJ c = zJ (a - c) := (Int64.ofInt_sub a c).symm
theorem zJ_mul : zJ a * zJ c = zJ (a * c) := (Int64.ofInt_mul a c).symm
theorem zJ_eq (h1 : -9223372036854775808 ≤ a) (h2 : a < 9223372036854775808) (h3 : -9223372036854775808 ≤ c) (h4 : c < 9223372036854775808) : (zJ a = zJ c) = (a = c) := by
  refine propext ⟨fun h => ?_, fun h => by rw [h]⟩
  have := congrArg Int64.toInt h
  rw [zJ_int h1 h2, zJ_int h3 h4] at this
  exact this
theorem zJ_lt (h1 : -9223372036854775808 ≤ a) (h2 : a < 9223372036854775808) (h3 : -9223372036854775808 ≤ c) (h4 : c < 9223372036854775808) : (zJ a < zJ c) = (a < c) := by
  rw [Int64.lt_iff_toInt_lt, zJ_int h1 h2, zJ_int h3 h4]
theorem cmp_le (h1 : -9223372036854775808 ≤ a) (h2 : a < 9223372036854775808) (h3 : -9223372036854775808 ≤ c) (h4 : c < 9223372036854775808) : (lg_cmp (zJ a) (zJ c) ≤ 0) = (a ≤ c) := by
  unfold lg_cmp
  by_cases e : c < a
  · rw [if_pos (show zJ a > zJ c from by show zJ c < zJ a; rw [zJ_lt h3 h4 h1 h2]; exact e)]
    exact propext ⟨fun h => absurd h (by decide), fun h => by omega⟩
  · rw [if_neg (show ¬ zJ a > zJ c from by show ¬ zJ c < zJ a; rw [zJ_lt h3 h4 h1 h2]; exact e)]
    by_cases e2 : a = c
    · rw [if_pos (by rw [e2])]
      exact propext ⟨fun _ => by omega, fun _ => by decide⟩
    · rw [if_neg (by rw [zJ_eq h1 h2 h3 h4]; exact e2)]
      exact propext ⟨fun _ => by omega, fun _ => by decide⟩
theorem cmp_eq (h1 : -9223372036854775808 ≤ a) (h2 : a < 9223372036854775808) (h3 : -9223372036854775808 ≤ c) (h4 : c < 9223372036854775808) : (lg_cmp (zJ a) (zJ c) = 0) = (a = c) := by
  unfold lg_cmp
  by_cases e : c < a
  · rw [if_pos (show zJ a > zJ c from by show zJ c < zJ a; rw [zJ_lt h3 h4 h1 h2]; exact e)]
    exact propext ⟨fun h => absurd h (by decide), fun h => by omega⟩
  · rw [if_neg (show ¬ zJ a > zJ c from by show ¬ zJ c < zJ a; rw [zJ_lt h3 h4 h1 h2]; exact e)]
    by_cases e2 : a = c
    · rw [if_pos (by rw [e2])]
      exact propext ⟨fun _ => e2, fun _ => rfl⟩
    · rw [if_neg (by rw [zJ_eq h1 h2 h3 h4]; exact e2)]
      exact propext ⟨fun h => absurd h (by decide), fun h => absurd h e2⟩
def ZC : Int := -1000000000000000000
theorem zJ_Z : (-1000000000000000000 : Int64) = zJ ZC := by decide
theorem zJ_0 : (0 : Int64) = zJ 0 := by decide
theorem sJ_fn {i k j : Nat} {x : Int64} (h : j ≠ i) : (sJ M i k x).2.1 j = M.2.1 j := up2_fn h
theorem sJ_at {i k j d : Nat} {x : Int64} : (sJ M i k x).2.1 j d = if j = i ∧ d = k then x else M.2.1 j d := rfl
theorem sJ_1 {i k : Nat} {x : Int64} : (sJ M i k x).1 = M.1 := rfl
theorem sI_J {i k : Nat} {x : Int32} : (sI M i k x).2.1 = M.2.1 := rfl
/-- more pairs that can make nothing greater -/
theorem abs_up (h : ABS T V f G w Z b A B X sg dT dV fr lT lV) (h1 : ∀ v t, f ≤ v → v < V → t < T → G t v = true → b v ≠ some t → dV v = Z ∨ sg2 v t ≤ sg v t ∨ lV v < sg v t) (h2 : ∀ v t, f ≤ v → v < V → t < T → G t v = true → b v = some t → dT t = Z ∨ sg2 v t ≤ sg v t ∨ lT t < sg v t) : ABS T V f G w Z b A B X sg2 dT dV fr lT lV := by
  obtain ⟨a1, a2, a3, a4⟩ := h
  refine ⟨a1, a2, a3, fun v t g1 g2 g3 g4 => ⟨fun hb hd => ?_, fun hb hd => ?_⟩⟩
  · rcases (a4 v t g1 g2 g3 g4).1 hb hd with e | e
    · exact Or.inl e
    · rcases h1 v t g1 g2 g3 g4 hb with e2 | e2 | e2
      · exact absurd e2 hd
      · exact Or.inr (by omega)
      · omega
  · rcases (a4 v t g1 g2 g3 g4).2 hb hd with e | e
    · exact Or.inl e
    · rcases h2 v t g1 g2 g3 g4 hb with e2 | e2 | e2
      · exact absurd e2 hd
      · exact Or.inr (by omega)
      · omega
def WJ : Int := 11880000000000
/-- what the class looks at -/
def CxC (T V : Nat) (G : Nat → Nat → Bool) (l : Nat → Nat → Nat) (N : Mm) : Prop := T ≤ 9 ∧ V ≤ 10 ∧ N.1 90 6 = nI T ∧ N.1 90 7 = nI V ∧ (∀ t v, t < T → v < V → G t v = true → 1 ≤ l t v ∧ l t v ≤ 1188) ∧ ∀ t v, t < T → v < V → N.2.1 91 (t * 10 + v) = zJ (if G t v = true then wC l t v else 0)
theorem CxC.to (h : CxC T V G l M) (hF : Fr [92, 93, 94, 95, 96] M N) : CxC T V G l N := by
  obtain ⟨h1, h2, h3, h4, h5, h6⟩ := h
  exact ⟨h1, h2, by rw [(hF 90 (by simp)).1]; exact h3, by rw [(hF 90 (by simp)).1]; exact h4, h5, fun t v ht hv => by rw [(hF 91 (by simp)).2.1]; exact h6 t v ht hv⟩
theorem dgV_le (v : Nat) : dgV v ≤ 1000000000 := by
  have : ∀ k, k ≤ 9 → (10 : Int) ^ k ≤ 1000000000 := by
    intro k hk
    have e : k = 0 ∨ k = 1 ∨ k = 2 ∨ k = 3 ∨ k = 4 ∨ k = 5 ∨ k = 6 ∨ k = 7 ∨ k = 8 ∨ k = 9 := by omega
    rcases e with rfl | rfl | rfl | rfl | rfl | rfl | rfl | rfl | rfl | rfl <;> decide
  exact this (9 - v) (by omega)
theorem wC_bd (hT : T ≤ 9) (ht : t < T) (h1 : 1 ≤ l t v) (h2 : l t v ≤ 1188) : 1 ≤ wC l t v ∧ wC l t v ≤ WJ := by
  have d1 := dgV_pos v
  have d2 := dgV_le v
  have e1 : ((t : Int) + 1) * dgV v ≤ 9 * dgV v := Int.mul_le_mul_of_nonneg_right (by omega) (by omega)
  have e2 : 0 ≤ ((t : Int) + 1) * dgV v := Int.mul_nonneg (by omega) (by omega)
  unfold wC WJ
  omega
theorem CxC.ws (h : CxC T V G l M) : ∀ v t, v < V → t < T → G t v = true → 0 ≤ wC l t v ∧ wC l t v ≤ WJ := fun v t hv ht hg => by
  obtain ⟨g1, g2⟩ := h.2.2.2.2.1 t v ht hv hg
  obtain ⟨g3, g4⟩ := wC_bd (v := v) h.1 ht g1 g2
  exact ⟨by omega, g4⟩
theorem worthC (h : CxC T V G l M) (ht : t < T) (hv : v < V) : f_X0_worth M (nI t) (nI v) = zJ (if G t v = true then wC l t v else 0) := by
  obtain ⟨h1, h2, h3, h4, h5, h6⟩ := h
  unfold f_X0_worth
  rw [l_10, nI_mulI, nI_add, a91 (by omega)]
  exact h6 t v ht hv
/-- gains in the class's memory -/
def CMc (T V : Nat) (N : Mm) (dT dV : Nat → Int) (fr : Nat → Nat) : Prop := (∀ t, t < T → N.2.1 95 t = zJ (dT t)) ∧ (∀ v, v < V → N.2.1 94 v = zJ (dV v)) ∧ ∀ t, t < T → dT t ≠ ZC → N.1 96 t = nI (fr t)
/-- one thing for one visitor -/
theorem pairF (hC : CxC T V G l N) (hBy : ∀ v, v < V → N.1 92 v = oI (b v)) (hW : Way T V 0 G R b) (hP : PD T V 0 G R (wC l) b U p mu) (hA : ABS T V 0 G (wC l) ZC b (2 * r + 1) (2 * r) X (fun v' t' => if b v' = some t' ∨ v' < v ∨ (v' = v ∧ t' < t) then 2 * r + 1 else 2 * r) dT dV fr lT lV) (hR : CMc T V N dT dV fr) (hX0 : 0 ≤ X) (hX : X ≤ 990000000000000000) (hv2 : v < V) (ht : t < T) (hd : dV v ≠ ZC) : ∃ N2 fl2 dT2 fr2 lT2, f_X0_reachThings_L24 N (bI fl) (nI v) (zJ (dV v)) (nI t) = some (.inl (N2, bI fl2, nI (t + 1))) ∧ Fr [95, 96] N N2 ∧ CMc T V N2 dT2 dV fr2 ∧ ABS T V 0 G (wC l) ZC b (2 * r + 1) (2 * r) (X + WJ) (fun v' t' => if b v' = some t' ∨ v' < v ∨ (v' = v ∧ t' < t + 1) then 2 * r + 1 else 2 * r) dT2 dV fr2 lT2 lV ∧ (fl2 = false → fl = false ∧ lT2 = lT) := by
  have hwb := worthC hC ht hv2
  have hw := hC.ws
  obtain ⟨h1, h2, h3, h4, h5, h6⟩ := hC
  have hob := oI_eq (o := b v) (t := t) (oI_b hW h1 hv2) (by omega)
  obtain ⟨r1, r2, r3⟩ := hR
  obtain ⟨a1, a2, a3, a4⟩ := hA
  have hA : ABS T V 0 G (wC l) ZC b (2 * r + 1) (2 * r) X (fun v' t' => if b v' = some t' ∨ v' < v ∨ (v' = v ∧ t' < t) then 2 * r + 1 else 2 * r) dT dV fr lT lV := ⟨a1, a2, a3, a4⟩
  have hZ : ZC = -1000000000000000000 := rfl
  have hWJ : WJ = 11880000000000 := rfl
  have bT : -1000000000000000000 ≤ dT t ∧ dT t ≤ X := by
    by_cases e : dT t = ZC
    · exact ⟨by omega, by omega⟩
    · have := (a2 t ht).1 e
      exact ⟨by omega, this.2⟩
  have bV := (a3 v hv2).1 hd
  have g92 : t_X9_at N 92 (nI v) = oI (b v) := by rw [a92 (by omega)]; exact hBy v hv2
  have g95 : t_X9_at_ N 95 (nI t) = zJ (dT t) := by rw [a95 (by omega)]; exact r1 t ht
  have hnx : nI t + 1 = nI (t + 1) := by rw [l_1, nI_add]
  have mono : ∀ {X2 : Int}, X ≤ X2 → (∀ v' t', v' < V → t' < T → G t' v' = true → v' = v → t' = t → b v' ≠ some t' → False) → ABS T V 0 G (wC l) ZC b (2 * r + 1) (2 * r) X2 (fun v' t' => if b v' = some t' ∨ v' < v ∨ (v' = v ∧ t' < t + 1) then 2 * r + 1 else 2 * r) dT dV fr lT lV := fun hX2 hno => by
    refine (abs_up (sg2 := fun v' t' => if b v' = some t' ∨ v' < v ∨ (v' = v ∧ t' < t + 1) then 2 * r + 1 else 2 * r) hA (fun v' t' g1 g2 g3 g4 hb => Or.inr (Or.inl ?_)) (fun v' t' g1 g2 g3 g4 hb => Or.inr (Or.inl ?_))).mono (Nat.le_refl _) (Nat.le_refl _) hX2 (fun _ _ _ _ _ => Nat.le_refl _)
    · by_cases e : b v' = some t' ∨ v' < v ∨ (v' = v ∧ t' < t + 1)
      · by_cases e2 : b v' = some t' ∨ v' < v ∨ (v' = v ∧ t' < t)
        · rw [if_pos e, if_pos e2]; exact Nat.le_refl _
        · exfalso
          rcases e with e | e | ⟨e, e3⟩
          · exact hb e
          · exact e2 (Or.inr (Or.inl e))
          · by_cases e4 : t' = t
            · exact hno v' t' g2 g3 g4 e e4 hb
            · exact e2 (Or.inr (Or.inr ⟨e, by omega⟩))
      · rw [if_neg e, if_neg (fun h => e (h.elim Or.inl (fun h => Or.inr (h.elim Or.inl (fun h => Or.inr ⟨h.1, by omega⟩)))))]
        exact Nat.le_refl _
    · rw [if_pos (Or.inl hb), if_pos (Or.inl hb)]; exact Nat.le_refl _
  have head : ∀ Y, (f_X0_reachThings_L24 N (bI fl) (nI v) (zJ (dV v)) (nI t) = Y) = ((if lg_cmp (zJ (if G t v = true then wC l t v else 0)) (zJ 0) ≤ 0 then some (.inl (N, bI fl, nI (t + 1))) else (if b v = some t then some (.inl (N, bI fl, nI (t + 1))) else f_X0_reachThings_J24_75 N (bI fl) (nI v) (zJ (dV v)) (nI t) (zJ (if G t v = true then wC l t v else 0)) 1)) = Y) := fun Y => by
    unfold f_X0_reachThings_L24 f_X0_reachThings_J24_74
    rw [show gI N 90 6 = nI T from h3, if_neg (by rw [nI_leI (by omega) (by omega)]; omega), zJ_Z, if_neg (by rw [cmp_eq (by omega) (by omega) (by omega) (by omega)]; exact hd), hwb, zJ_0, g92]
    have j0 : ∀ q, f_X0_reachThings_J24_75 N (bI fl) (nI v) (zJ (dV v)) (nI t) q 0 = some (.inl (N, bI fl, nI (t + 1))) := fun q => by
      unfold f_X0_reachThings_J24_75
      rw [if_pos rfl, hnx]
    rw [j0]
    by_cases hb : b v = some t
    · rw [if_pos (hob.mpr hb), if_pos hb]
    · rw [if_neg (fun h => hb (hob.mp h)), if_neg hb]
  by_cases g : G t v = true
  · obtain ⟨l1, l2⟩ := h5 t v ht hv2 g
    obtain ⟨w1, w2⟩ := wC_bd (v := v) h1 ht l1 l2
    by_cases hb : b v = some t
    · refine ⟨N, fl, dT, fr, lT, ?_, Fr.rf, ⟨r1, r2, r3⟩, mono (by omega) (fun v' t' _ _ _ e1 e2 hb2 => hb2 (by rw [e1, e2]; exact hb)), fun h => ⟨h, rfl⟩⟩
      rw [head, if_pos g, if_neg (by rw [cmp_le (by omega) (by omega) (by omega) (by omega)]; omega), if_pos hb]
    · by_cases c2 : dV v + wC l t v ≤ dT t
      · refine ⟨N, fl, dT, fr, lT, ?_, Fr.rf, ⟨r1, r2, r3⟩, (skip_ok hA (fun _ _ _ => c2) (fun _ hb2 => absurd hb2 hb) (fun u s hne => ?_)).mono (Nat.le_refl _) (Nat.le_refl _) (by omega) (fun _ _ _ _ _ => Nat.le_refl _), fun h => ⟨h, rfl⟩⟩
        · rw [head, if_pos g, if_neg (by rw [cmp_le (by omega) (by omega) (by omega) (by omega)]; omega), if_neg hb]
          unfold f_X0_reachThings_J24_75
          rw [if_neg (by decide), zJ_add, g95, if_pos (by rw [cmp_le (by omega) (by omega) (by omega) (by omega)]; exact c2), hnx]
        · by_cases e : b u = some s ∨ u < v ∨ (u = v ∧ s < t)
          · rw [if_pos e]
            by_cases e2 : b u = some s ∨ u < v ∨ (u = v ∧ s < t + 1)
            · rw [if_pos e2]; exact Nat.le_refl _
            · rw [if_neg e2]; omega
          · rw [if_neg e, if_neg (fun h => e (h.elim Or.inl (fun h => Or.inr (h.elim Or.inl (fun h => Or.inr ⟨h.1, by omega⟩)))))]
            exact Nat.le_refl _
      · have hr := relaxF (sg2 := fun v' t' => if b v' = some t' ∨ v' < v ∨ (v' = v ∧ t' < t + 1) then 2 * r + 1 else 2 * r) (W := WJ) (tau := 2 * r + 1) hW hP hA hw (by omega) (Nat.le_refl _) (Nat.zero_le _) hv2 ht g hb hd (by omega) (by
          by_cases e : b v = some t ∨ v < v ∨ (v = v ∧ t < t)
          · rw [if_pos e]; omega
          · rw [if_neg e]; omega) (fun u s => by
          by_cases e : b u = some s ∨ u < v ∨ (u = v ∧ s < t + 1)
          · rw [if_pos e]; exact Nat.le_refl _
          · rw [if_neg e]; omega) (fun u s hne => by
          by_cases e : b u = some s ∨ u < v ∨ (u = v ∧ s < t)
          · rw [if_pos e]
            by_cases e2 : b u = some s ∨ u < v ∨ (u = v ∧ s < t + 1)
            · rw [if_pos e2]; exact Nat.le_refl _
            · rw [if_neg e2]; omega
          · rw [if_neg e, if_neg (fun h => e (h.elim Or.inl (fun h => Or.inr (h.elim Or.inl (fun h => Or.inr ⟨h.1, by omega⟩)))))]
            exact Nat.le_refl _)
        refine ⟨sI (sJ N 95 t (zJ (dV v + wC l t v))) 96 t (nI v), true, _, _, _, ?_, (Fr.sJ (by simp)).tr (Fr.sI (by simp)), ⟨fun s hs2 => ?_, fun u hu => ?_, fun s hs2 hds => ?_⟩, hr, fun h => nomatch h⟩
        · rw [head, if_pos g, if_neg (by rw [cmp_le (by omega) (by omega) (by omega) (by omega)]; omega), if_neg hb]
          unfold f_X0_reachThings_J24_75
          rw [if_neg (by decide), zJ_add, g95, if_neg (by rw [cmp_le (by omega) (by omega) (by omega) (by omega)]; exact c2), p95 (by omega), Option.bind_some, p96 (by omega), Option.bind_some, hnx]
          rfl
        · rw [sI_J, sJ_at]
          by_cases e : s = t
          · subst e; rw [if_pos ⟨rfl, rfl⟩, upI_eq]
          · rw [if_neg (fun h => e h.2), upI_ne e]; exact r1 s hs2
        · rw [sI_J, sJ_fn (by decide)]; exact r2 u hu
        · rw [sI_at]
          by_cases e : s = t
          · subst e; rw [if_pos ⟨rfl, rfl⟩, upN_eq]
          · rw [upI_ne e] at hds
            rw [if_neg (fun h => e h.2), upN_ne e, sJ_1]; exact r3 s hs2 hds
  · refine ⟨N, fl, dT, fr, lT, ?_, Fr.rf, ⟨r1, r2, r3⟩, mono (by omega) (fun v' t' _ _ g4 e1 e2 _ => g (by rw [← e1, ← e2]; exact g4)), fun h => ⟨h, rfl⟩⟩
    rw [head, if_neg g, if_pos (by rw [cmp_le (by omega) (by omega) (by omega) (by omega)]; omega)]
end GAIN
