/-! tomorrow's day on both sides; sets read off it -/
section DAYS
variable {LR : Mm → Nat → (Nat → Int32) → Prop} {LK : (Nat → Int32) → Nat → Nat → Int32 → Int32} {n : Nat} {M Mc Mr Nc Nr : Mm} {q L B : Nat} {m : Nat → Int32} {nx dw : Int32 → Int32} {dr : Bool}
def S0 (LK : (Nat → Int32) → Nat → Nat → Int32 → Int32) (m : Nat → Int32) : LdS := ldS nxs drw m LK false (vN m)
def cntB (p : Nat → Bool) (n : Nat) : Nat := iter (fun v s => if p v = true then s + 1 else s) n 0
theorem cntB_succ {p : Nat → Bool} {n : Nat} : cntB p (n + 1) = if p n = true then cntB p n + 1 else cntB p n := rfl
theorem cntB_cg {p r : Nat → Bool} {n : Nat} (h : ∀ v, v < n → p v = r v) : cntB p n = cntB r n := iter_cg (fun i s hi => by rw [h i hi])
theorem cntB_le (p : Nat → Bool) (n : Nat) : cntB p n ≤ n := by
  induction n with
  | zero => exact Nat.le_refl _
  | succ n ih => rw [cntB_succ]; by_cases h : p n = true <;> simp [h] <;> omega
theorem ldP_none {v : Nat} {s : LdS} {sd : Int32} (h : pkL m LK v s.2.1 = none) : ldP m LK v s sd = (s.1, s.2.1, sd, s.2.2.2) := by unfold ldP; rw [h]
theorem ldP_some {v t : Nat} {s : LdS} {sd : Int32} (h : pkL m LK v s.2.1 = some t) : ldP m LK v s sd = ((fun u => if u = v then some t else s.1 u), (fun u => if u = t then s.2.1 u + 1 else s.2.1 u), sd, s.2.2.2 + 1) := by unfold ldP; rw [h]
theorem ldN_cases (v : Nat) (s : LdS) : ((ldN nx dw m LK dr v s).1 = s.1 ∧ (ldN nx dw m LK dr v s).2.1 = s.2.1 ∧ (ldN nx dw m LK dr v s).2.2.2 = s.2.2.2) ∨ ∃ t, t < tN m ∧ (ldN nx dw m LK dr v s).1 = (fun u => if u = v then some t else s.1 u) ∧ (ldN nx dw m LK dr v s).2.1 = (fun u => if u = t then s.2.1 u + 1 else s.2.1 u) ∧ (ldN nx dw m LK dr v s).2.2.2 = s.2.2.2 + 1 := by
  unfold ldN
  by_cases ha : awy nx dw m dr v s.2.2.1 = true
  · rw [if_pos ha]; exact Or.inl ⟨rfl, rfl, rfl⟩
  · rw [if_neg ha]
    cases hp : pkL m LK v s.2.1 with
    | none => rw [ldP_none hp]; exact Or.inl ⟨rfl, rfl, rfl⟩
    | some t => rw [ldP_some hp]; exact Or.inr ⟨t, (pk_ok hp).1, rfl, rfl, rfl⟩
theorem ld_more (dr : Bool) : ∀ n, (∀ t, (ldS nx dw m LK dr n).2.1 t = cntB (fun v => decide ((ldS nx dw m LK dr n).1 v = some t)) n) ∧ (ldS nx dw m LK dr n).2.2.2 = cntB (fun v => ((ldS nx dw m LK dr n).1 v).isSome) n := by
  intro n
  induction n with
  | zero => exact ⟨fun t => rfl, rfl⟩
  | succ n ih =>
    obtain ⟨ih1, ih2⟩ := ih
    have i1 := (ld_inv (nx := nx) (dw := dw) (m := m) (LK := LK) dr n).1
    have hn : (ldS nx dw m LK dr n).1 n = none := by
      cases hx : (ldS nx dw m LK dr n).1 n with
      | none => rfl
      | some t => have := (i1 n t hx).1; omega
    rw [ldS_succ]
    rcases ldN_cases (nx := nx) (dw := dw) (m := m) (LK := LK) (dr := dr) n (ldS nx dw m LK dr n) with ⟨c1, c2, c3⟩ | ⟨t, ct, c1, c2, c3⟩
    · rw [c1, c2, c3]
      refine ⟨fun t => ?_, ?_⟩
      · rw [cntB_succ, hn]; exact ih1 t
      · rw [cntB_succ, hn]; exact ih2
    · rw [c1, c2, c3]
      refine ⟨fun u => ?_, ?_⟩
      · rw [cntB_succ]
        have e : cntB (fun v => decide ((if v = n then some t else (ldS nx dw m LK dr n).1 v) = some u)) n = cntB (fun v => decide ((ldS nx dw m LK dr n).1 v = some u)) n := cntB_cg (fun v hv => by rw [if_neg (by omega)])
        rw [e, ← ih1 u]
        by_cases h : u = t
        · subst h; simp
        · have : ¬ t = u := fun e => h e.symm
          simp [h, this]
      · rw [cntB_succ]
        have e : cntB (fun v => (if v = n then some t else (ldS nx dw m LK dr n).1 v).isSome) n = cntB (fun v => ((ldS nx dw m LK dr n).1 v).isSome) n := cntB_cg (fun v hv => by rw [if_neg (by omega)])
        rw [e, ← ih2]
        simp
theorem S0_inv : (∀ v t, (S0 LK m).1 v = some t → v < vN m ∧ t < tN m) ∧ (∀ t, (S0 LK m).2.1 t ≤ rmN m t) ∧ (S0 LK m).2.2.2 ≤ vN m := ld_inv false _
theorem S0_more : (∀ t, (S0 LK m).2.1 t = cntB (fun v => decide ((S0 LK m).1 v = some t)) (vN m)) ∧ (S0 LK m).2.2.2 = cntB (fun v => ((S0 LK m).1 v).isSome) (vN m) := ld_more false _
def DayC (LK : (Nat → Int32) → Nat → Nat → Int32 → Int32) (m : Nat → Int32) (S : LdS) (N : Mm) : Prop := (∀ t v, t < tN m → v < vN m → N.1 83 (t * 10 + v) = lkv LK m t v) ∧ (∀ t, t < tN m → N.1 84 t = clr LK m t) ∧ ∀ v, v < 10 → N.1 85 v = oI (S.1 v)
def DayR (LK : (Nat → Int32) → Nat → Nat → Int32 → Int32) (m : Nat → Int32) (S : LdS) (N : Mm) : Prop := (∀ t v, t < tN m → v < vN m → N.1 116 (10 * t + v) = lkv LK m t v) ∧ LdH m N S
theorem tomC (HL : LSpec LR LK) (hk : kd q = 4) (hkL : kd L = 2) (hL : M.2.2 1 5 = L) (h : MR M q m) (hI : Inv m B) (hR : LR M L m) : Tr (f_X9_tomorrow M q) (fun r => r.1 = nI (S0 LK m).2.2.2 ∧ Fr [L + 5, 83, 84, 85, 86] M r.2 ∧ DayC LK m (S0 LK m) r.2) := by
  have hq := md4 hk
  have hl := (lnL hkL).2.2.2.2.2
  have e : gR M 1 5 = L := hL
  unfold f_X9_tomorrow
  rw [Option.bind_some, e, if_pos hkL]
  refine Tr.bind (weighC HL hk hkL h hI hR) (fun N hN => ?_)
  obtain ⟨hF, h83, h84⟩ := hN
  have hM : MR N q m := h.fr (fun j h1 h2 => (hF j (by simp; omega)).1)
  have hl2 := leadC2 HL hk hM hI false h83 h84
  refine Tr.bind hl2 (fun r hr => ?_)
  obtain ⟨r1, r2, r3, r4⟩ := hr
  have r3 : Fr [85, 86] N r.2 := r3
  refine Tr.some ⟨r1, (hF.mono (by simp)).tr (r3.mono (by simp)), fun t v h1 h2 => ?_, fun t ht => ?_, r4⟩
  · rw [(r3 83 (by simp)).1]; exact h83 t v h1 h2
  · rw [(r3 84 (by simp)).1]; exact h84 t ht
theorem tomR (HL : LSpec LR LK) (hm : M.1 110 = m) (hI : Inv m B) (hR : LR Mc L m) : Tr (f_X10_tomorrow M) (fun N => FrQ [109, 110, 115, 116, 117, 118, 119] M N ∧ N.1 110 = m ∧ DayR LK m (S0 LK m) N) := by
  unfold f_X10_tomorrow
  refine Tr.bind (asksR HL hm hI hR) (fun N hN => ?_)
  obtain ⟨hF, h116⟩ := hN
  have hN0 : N.1 110 = m := by rw [(hF.1 110 (by simp)).1]; exact hm
  have hl2 := leadsR2 HL hI hN0 h116 false
  refine Tr.bind hl2 (fun K hK => ?_)
  obtain ⟨k1, k2, k3⟩ := hK
  rw [ld_seed0, u9_self] at k1
  refine Tr.some ⟨(hF.mono (by simp)).tr (FrQ.of (k2.mono (by simp)) (by simp) |>.mono (S := [110, 117, 118, 119]) (by simp)), k1, fun t v h1 h2 => ?_, k3⟩
  rw [(k2 116 (by simp)).1]; exact h116 t v h1 h2
theorem KpR.of2 {N : Mm} {S : List Nat} (h : FrQ S Mr N) (h0 : N.1 110 = Mr.1 110) (h1 : 111 ∉ S) (h3 : 113 ∉ S) (h4 : 114 ∉ S) : KpR Mr N := ⟨h0, (h.1 _ h1).1, (h.1 _ h3).1, (h.1 _ h4).1, fun k hk => h.2 k (by omega)⟩
theorem oI_m1 {o : Option Nat} (h : ∀ t, o = some t → t < 2 ^ 31) : (oI o = -1) = (o.isSome = false) := by
  cases o with
  | none => simp [oI]
  | some t => rw [oI, nI_ne_m1 (h t rfl)]; simp
theorem oI_eq {o : Option Nat} {t : Nat} (h : ∀ t, o = some t → t < 2 ^ 31) (ht : t < 2 ^ 31) : (oI o = nI t) = (o = some t) := by
  cases o with
  | none => rw [oI, nI_m1_ne ht]; simp
  | some u => rw [oI, nI_eq (h u rfl) ht]; simp
theorem hadAtAllC {f : Nat → Option Nat} (h : ∀ v, v < 10 → M.1 85 v = oI (f v)) (hb : ∀ v t, f v = some t → t < 2 ^ 31) : f_X6_hadAtAll M = some (bset (fun v => (f v).isSome) 10) := by
  unfold f_X6_hadAtAll
  have : loop FU (fun a_2 => f_X6_hadAtAll_L4 M a_2.1 a_2.2) (0, 0) = some (bset (fun v => (f v).isSome) 10) := by
    refine lpI (fun v s => (s, nI v)) 10 (fun v s => if (f v).isSome = true then s ||| b1 v else s) id (by omega) 0 rfl (fun v s hv => ?_) (fun s => ?_)
    · unfold f_X6_hadAtAll_L4
      simp (disch := omega) only [a2, a83, a84, a85, a86, a88, a89, a92, a93, a96, p2, p83, p84, p85, p86, p88, p89, p92, p93, p96, a91, a94, a95, p91, p94, p95, gI, gR, sA_nI, gA_nI, at_nI, put_nI, ibs_nI, nI_add, nI_mulI, nI_subI, nI_neg1, nI_leI, nI_ltI, nI_eq, nI_ne_m1, nI_m1_ne, nI_nlt0, Option.bind_some, bnd_some, iteP, iteN, reduceIte, b1_def, or0, if_true, if_false, eq_self, Bool.false_eq_true, l_0, l_1, l_2, l_3, l_4, l_5, l_6, l_7, l_8, l_9, l_10, l_11, l_12, l_13, l_14, l_15, l_16, l_17, l_18, l_19, l_20, l_24, l_30, l_31, l_40, l_45, l_50, l_57, l_58, l_59, l_60, l_61, l_62, l_63, l_64, l_90, l_99, l_100, l_107, l_108, l_109, l_110, l_111, l_299, l_300, l_400, l_407, l_807, h, oI_m1 (hb v)]
      by_cases c : (f v).isSome = true
      · simp [c]
      · have c : (f v).isSome = false := by simpa using c
        simp [c]
    · unfold f_X6_hadAtAll_L4
      simp (disch := omega) only [a2, a83, a84, a85, a86, a88, a89, a92, a93, a96, p2, p83, p84, p85, p86, p88, p89, p92, p93, p96, a91, a94, a95, p91, p94, p95, gI, gR, sA_nI, gA_nI, at_nI, put_nI, ibs_nI, nI_add, nI_mulI, nI_subI, nI_neg1, nI_leI, nI_ltI, nI_eq, nI_ne_m1, nI_m1_ne, nI_nlt0, Option.bind_some, bnd_some, iteP, iteN, reduceIte, b1_def, or0, if_true, if_false, eq_self, Bool.false_eq_true, l_0, l_1, l_2, l_3, l_4, l_5, l_6, l_7, l_8, l_9, l_10, l_11, l_12, l_13, l_14, l_15, l_16, l_17, l_18, l_19, l_20, l_24, l_30, l_31, l_40, l_45, l_50, l_57, l_58, l_59, l_60, l_61, l_62, l_63, l_64, l_90, l_99, l_100, l_107, l_108, l_109, l_110, l_111, l_299, l_300, l_400, l_407, l_807]
      rfl
  rw [this]; rfl
theorem hadNowR (hm : M.1 110 = m) (hI : Inv m B) {f : Nat → Option Nat} (h : ∀ v, v < 10 → M.1 117 v = oI (f v)) (hb : ∀ v t, f v = some t → t < 2 ^ 31) : f_X10_hadNow M = some (bset (fun v => (f v).isSome) (vN m)) := by
  obtain ⟨e4, hV⟩ := hI.v
  have g4 : M.1 110 4 = nI (vN m) := by rw [hm]; exact e4
  unfold f_X10_hadNow
  have : loop FU (fun a_2 => f_X10_hadNow_L4 M a_2.1 a_2.2) (0, 0) = some (bset (fun v => (f v).isSome) (vN m)) := by
    refine lpI (fun v s => (s, nI v)) (vN m) (fun v s => if (f v).isSome = true then s ||| b1 v else s) id (by omega) 0 rfl (fun v s hv => ?_) (fun s => ?_)
    · unfold f_X10_hadNow_L4
      simp (disch := omega) only [a2, a83, a84, a85, a86, a88, a89, a92, a93, a96, p2, p83, p84, p85, p86, p88, p89, p92, p93, p96, a91, a94, a95, p91, p94, p95, gI, gR, sA_nI, gA_nI, at_nI, put_nI, ibs_nI, nI_add, nI_mulI, nI_subI, nI_neg1, nI_leI, nI_ltI, nI_eq, nI_ne_m1, nI_m1_ne, nI_nlt0, Option.bind_some, bnd_some, iteP, iteN, reduceIte, b1_def, or0, if_true, if_false, eq_self, Bool.false_eq_true, l_0, l_1, l_2, l_3, l_4, l_5, l_6, l_7, l_8, l_9, l_10, l_11, l_12, l_13, l_14, l_15, l_16, l_17, l_18, l_19, l_20, l_24, l_30, l_31, l_40, l_45, l_50, l_57, l_58, l_59, l_60, l_61, l_62, l_63, l_64, l_90, l_99, l_100, l_107, l_108, l_109, l_110, l_111, l_299, l_300, l_400, l_407, l_807, g4, h, oI_m1 (hb v)]
      by_cases c : (f v).isSome = true
      · simp [c]
      · have c : (f v).isSome = false := by simpa using c
        simp [c]
    · unfold f_X10_hadNow_L4
      simp (disch := omega) only [a2, a83, a84, a85, a86, a88, a89, a92, a93, a96, p2, p83, p84, p85, p86, p88, p89, p92, p93, p96, a91, a94, a95, p91, p94, p95, gI, gR, sA_nI, gA_nI, at_nI, put_nI, ibs_nI, nI_add, nI_mulI, nI_subI, nI_neg1, nI_leI, nI_ltI, nI_eq, nI_ne_m1, nI_m1_ne, nI_nlt0, Option.bind_some, bnd_some, iteP, iteN, reduceIte, b1_def, or0, if_true, if_false, eq_self, Bool.false_eq_true, l_0, l_1, l_2, l_3, l_4, l_5, l_6, l_7, l_8, l_9, l_10, l_11, l_12, l_13, l_14, l_15, l_16, l_17, l_18, l_19, l_20, l_24, l_30, l_31, l_40, l_45, l_50, l_57, l_58, l_59, l_60, l_61, l_62, l_63, l_64, l_90, l_99, l_100, l_107, l_108, l_109, l_110, l_111, l_299, l_300, l_400, l_407, l_807, g4]
      rfl
  rw [this]; rfl
end DAYS
