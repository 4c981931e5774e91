/-! dearest: the reference's exchanges; the greatest sum -/
section DFROM
variable {T V f n m k i v t j : Nat} {G : Nat → Nat → Bool} {R : Nat → Nat} {l : Nat → Nat → Nat} {b b2 bc : Nat → Option Nat} {U p : Nat → Int} {fr fr2 : Nat → Nat} {dT dV : Nat → Int} {lT lV : Nat → Nat} {mu lam X a c : Int} {o : Option Nat} {tau : Nat} {sg sg2 : Nat → Nat → Nat} {M N K : Mm} {x y z : Int32}
def RmR (T : Nat) (R : Nat → Nat) (N : Mm) : Prop := ∀ t, t < T → N.1 122 t = nI (R t) ∧ R t ≤ 3
def ByR (T V : Nat) (b : Nat → Option Nat) (N : Mm) : Prop := (∀ v, v < V → N.1 120 v = oI (b v)) ∧ ∀ t, t < T → N.1 119 t = nI (cn b t V)
theorem nI_zle {k : Nat} (hk : k < 2147483648) : nI k = zI (k : Int) := nI_z k
/-- the best end -/
def Btt (T V : Nat) (R : Nat → Nat) (b : Nat → Option Nat) (dT : Nat → Int) (k : Nat) (o : Option Nat) : Prop := (o = none → ∀ t, t < k → cn b t V < R t → dT t ≤ 0) ∧ ∀ s, o = some s → s < k ∧ cn b s V < R s ∧ 0 < dT s ∧ ∀ t, t < k → cn b t V < R t → dT t ≤ dT s
theorem btt_skip (h : Btt T V R b dT k o) (h2 : cn b k V < R k → dT k ≤ 0 ∨ ∃ s, o = some s ∧ dT k ≤ dT s) : Btt T V R b dT (k + 1) o := by
  obtain ⟨h3, h4⟩ := h
  refine ⟨fun ho t ht hc => ?_, fun s hs => ?_⟩
  · by_cases e : t = k
    · subst e
      rcases h2 hc with h5 | ⟨s, h5, h6⟩
      · exact h5
      · rw [ho] at h5; exact nomatch h5
    · exact h3 ho t (by omega) hc
  · obtain ⟨s1, s2, s3, s4⟩ := h4 s hs
    refine ⟨by omega, s2, s3, fun t ht hc => ?_⟩
    by_cases e : t = k
    · subst e
      rcases h2 hc with h5 | ⟨s', h5, h6⟩
      · omega
      · rw [hs] at h5; cases h5; exact h6
    · exact s4 t (by omega) hc
theorem btt_take (h : Btt T V R b dT k o) (hc : cn b k V < R k) (h0 : 0 < dT k) (h2 : ∀ s, o = some s → dT s < dT k) : Btt T V R b dT (k + 1) (some k) := by
  obtain ⟨h3, h4⟩ := h
  refine ⟨fun ho => (nomatch ho), fun s hs => ?_⟩
  cases hs
  refine ⟨by omega, hc, h0, fun t ht hct => ?_⟩
  by_cases e : t = k
  · subst e; exact Int.le_refl _
  · cases ho : o with
    | none =>
      have := h3 ho t (by omega) hct
      omega
    | some s =>
      have := (h4 s ho).2.2.2 t (by omega) hct
      have := h2 s ho
      omega
theorem bestR (hC : CxR T V G l N) (hRm : RmR T R N) (hBy : ByR T V b N) (hd : ∀ t, t < T → N.1 123 t = zI (dT t)) (hb : ∀ t, t < T → -2000000000 ≤ dT t ∧ dT t ≤ 1000000000) : Tr (loop FU (fun a_12 => f_X10_stepsOn_L306 N a_12.1 a_12.2) ((-1), 0)) (fun r => ∃ o, r = oI o ∧ Btt T V R b dT T o) := by
  obtain ⟨h1, h2, h3, h4, h5, h6⟩ := hC
  have i3 : ibs (3 : Int32) 807 = true := by decide
  have g3 : gA N 110 3 = nI T := h3
  refine lp0 (fun k (o : Option Nat) => (oI o, nI k)) T (fun k o => Btt T V R b dT k o ∧ k ≤ T) (by omega) none rfl ⟨⟨fun _ t ht => absurd ht (Nat.not_lt_zero _), fun s hs => nomatch hs⟩, Nat.zero_le _⟩ (fun k o hk hP => ?_) (fun o hP => ?_)
  · obtain ⟨hP, -⟩ := hP
    show Tr (f_X10_stepsOn_L306 N (oI o) (nI k)) _
    have ik : ibs (nI k) 19 = true := ibs_nI (by omega) (by decide)
    have ik9 : ibs (nI k) 9 = true := ibs_nI (by omega) (by decide)
    have gk : gA N 123 (nI k) = zI (dT k) := by rw [gA_nI (by omega)]; exact hd k hk
    obtain ⟨d1, d2⟩ := hb k hk
    obtain ⟨q1, q2⟩ := hRm k hk
    have gm : gA N 119 (nI k) = nI (cn b k V) := by rw [gA_nI (by omega)]; exact hBy.2 k hk
    have gr : gA N 122 (nI k) = nI (R k) := by rw [gA_nI (by omega)]; exact q1
    have hcn : cn b k V ≤ V := by
      have : ∀ n, cn b k n ≤ n := by
        intro n
        induction n with
        | zero => exact Nat.le_refl _
        | succ n ih =>
          show cn b k n + (if b n = some k then 1 else 0) ≤ n + 1
          by_cases c : b n = some k
          · rw [if_pos c]; omega
          · rw [if_neg c]; omega
      exact this V
    have nx : ∀ o2, Btt T V R b dT (k + 1) o2 → Tr (some (.inl (oI o2, nI k + 1)) : Option ((Int32 × Int32) ⊕ Int32)) (fun x => (∃ s', x = .inl (oI s', nI (k + 1)) ∧ Btt T V R b dT (k + 1) s' ∧ k + 1 ≤ T) ∨ ∃ r, x = .inr r ∧ ∃ o, r = oI o ∧ Btt T V R b dT T o) := fun o2 h => by
      rw [l_1, nI_add]
      exact Tr.some (Or.inl ⟨o2, rfl, h, by omega⟩)
    unfold f_X10_stepsOn_L306
    rw [if_pos i3, g3, if_neg (by rw [nI_leI (by omega) (by omega)]; omega), if_pos ik, gk, if_pos ik9, if_pos ik9, gr, gm]
    by_cases c1 : dT k ≤ 0
    · rw [zI_0, if_pos (by rw [zI_le (by omega) (by omega) (by omega) (by omega)]; exact c1)]
      exact nx o (btt_skip hP (fun _ => Or.inl c1))
    · rw [if_neg (by rw [zI_0, zI_le (by omega) (by omega) (by omega) (by omega)]; exact c1)]
      by_cases c2 : R k ≤ cn b k V
      · rw [if_pos (by rw [nI_leI (by omega) (by omega)]; exact c2)]
        exact nx o (btt_skip hP (fun h => by omega))
      · rw [if_neg (by rw [nI_leI (by omega) (by omega)]; exact c2)]
        cases ho : o with
        | none =>
          rw [if_pos (show oI none = -1 from rfl)]
          refine nx (some k) (btt_take hP (by omega) (by omega) (fun s hs => ?_))
          rw [ho] at hs; exact nomatch hs
        | some s =>
          obtain ⟨s1, s2, s3, s4⟩ := hP.2 s ho
          have hsT : s < T := by omega
          have gs : gA N 123 (nI s) = zI (dT s) := by rw [gA_nI (by omega)]; exact hd s hsT
          obtain ⟨e1, e2⟩ := hb s hsT
          rw [if_neg (show ¬ oI (some s) = -1 by rw [oI, nI_ne_m1 (by omega)]; exact not_false), if_pos ik, show oI (some s) = nI s from rfl, if_pos (ibs_nI (show s < 19 by omega) (by decide)), gs]
          by_cases c3 : dT k ≤ dT s
          · rw [if_pos (by rw [zI_le (by omega) (by omega) (by omega) (by omega)]; exact c3)]
            exact nx (some s) (ho ▸ btt_skip hP (fun _ => Or.inr ⟨s, ho, c3⟩))
          · rw [if_neg (by rw [zI_le (by omega) (by omega) (by omega) (by omega)]; exact c3)]
            refine nx (some k) (btt_take hP (by omega) (by omega) (fun s' hs => ?_))
            rw [ho] at hs; cases hs; omega
  · show Tr (f_X10_stepsOn_L306 N (oI o) (nI T)) _
    unfold f_X10_stepsOn_L306
    rw [if_pos i3, g3, if_pos (by rw [nI_leI (by omega) (by omega)]; omega)]
    exact Tr.some ⟨_, rfl, o, rfl, hP.1⟩
/-- the exchange -/
theorem exR (hT : T ≤ 9) (hV : V ≤ 10) (hB : BF T V f G (wR l) ZR b dT dV fr lT lV) (hW : Way T V f G R b) (h124 : ∀ t, t < T → dT t ≠ ZR → N.1 124 t = nI (fr t)) (hBy : ∀ v, v < V → N.1 120 v = oI (b v)) (ht : t < T) (hd : dT t ≠ ZR) (hn : tr b fr n (some t)) : Tr (loop FU (fun a_15 => f_X10_stepsOn_L395 a_15.1 y a_15.2) (N, nI t)) (fun K => Fr [120] N K ∧ ∀ v, v < V → K.1 120 v = oI (exB fr n b (some t) v)) := by
  have hlen := (tr_len hW hB ht hd hn).1
  generalize hE : exB fr n b (some t) = E
  refine lpV (fun m (s : Mm × Int32) => ∃ x bc, s.2 = oI x ∧ Fr [120] N s.1 ∧ (∀ v, v < V → s.1.1 120 v = oI (bc v)) ∧ tr b fr m x ∧ (∀ t, x = some t → t < T ∧ dT t ≠ ZR) ∧ (∀ v, bc v ≠ b v → ∃ k, m ≤ k ∧ tr b fr k (b v)) ∧ exB fr m bc x = E) (fun m s hs => ?_) FU n (N, nI t) (by show n < 10000; omega) ⟨some t, b, rfl, Fr.rf, hBy, hn, fun s hs => by cases hs; exact ⟨ht, hd⟩, fun v hv => absurd rfl hv, hE⟩
  obtain ⟨x, bc, e1, e2, e3, e4, e5, e6, e7⟩ := hs
  obtain ⟨K, q⟩ := s
  have e1 : q = oI x := e1
  have e2 : Fr [120] N K := e2
  have e3 : ∀ v, v < V → K.1 120 v = oI (bc v) := e3
  show Tr (f_X10_stepsOn_L395 K y q) _
  unfold f_X10_stepsOn_L395
  rw [e1]
  cases x with
  | none =>
    rw [if_pos (show oI none = -1 from rfl)]
    have : m = 0 := tr_uq e4 (show tr b fr 0 none from rfl)
    subst this
    refine Tr.some (Or.inr ⟨K, rfl, e2, fun v hv => ?_⟩)
    rw [← e7]; exact e3 v hv
  | some s =>
    obtain ⟨s1, s2⟩ := e5 s rfl
    cases m with
    | zero => exact nomatch (show some s = none from e4)
    | succ m =>
      obtain ⟨c1, c2, c3, c4, c5, c6, c7⟩ := hB.2.2.1 s s1 s2
      obtain ⟨x1, x2, x3⟩ := ex_next e4 e6
      have g : gA K 124 (nI s) = nI (fr s) := by rw [gA_nI (by omega), (e2 124 (by simp)).1]; exact h124 s s1 s2
      rw [show oI (some s) = nI s from rfl, if_neg (show ¬ nI s = -1 by rw [nI_ne_m1 (by omega)]; exact not_false), if_pos (ibs_nI (show s < 19 by omega) (by decide)), g, if_pos (ibs_nI (show fr s < 10 by omega) (by decide)), if_pos (ibs_nI (show fr s < 10 by omega) (by decide)), Option.bind_some, gA_nI (by omega), sA_nI (by omega), e3 _ c2]
      refine Tr.some (Or.inl ⟨m, (sI K 120 (fr s) (nI s), oI (bc (fr s))), rfl, ⟨bc (fr s), upO bc (fr s) (some s), rfl, e2.tr (Fr.sI (by simp)), fun v hv => ?_, x2, fun t ht => ?_, x3, e7⟩, by omega⟩)
      · show (sI K 120 (fr s) (nI s)).1 120 v = _
        rw [sI_at]
        by_cases c : v = fr s
        · subst c; rw [if_pos ⟨rfl, rfl⟩, upO_eq]; rfl
        · rw [if_neg (fun h => c h.2), upO_ne c]; exact e3 v hv
      · rw [x1] at ht
        exact ⟨(hW.1 _ _ c2 ht).2.1, (hB.2.1 _ _ c2 ht c5).1⟩
/-- one step on -/
theorem stepsR (hC : CxR T V G l M) (hRm : RmR T R M) (hBy : ByR T V b M) (hW : Way T V f G R b) (hP : PD T V f G R (wR l) b U p mu) (hf : f ≤ V) : Tr (f_X10_stepsOn M (nI f)) (fun r => Fr [119, 120, 123, 124] M r.2 ∧ ((r.1 = 0 ∧ ∀ b2, Way T V f G R b2 → SW (wR l) b2 V ≤ SW (wR l) b V) ∨ ∃ a b2 U2 p2, r.1 = zI a ∧ 0 < a ∧ a ≤ 1000000000 ∧ Way T V f G R b2 ∧ PD T V f G R (wR l) b2 U2 p2 a ∧ SW (wR l) b2 V = SW (wR l) b V + a ∧ cnA b2 V = cnA b V + 1 ∧ ByR T V b2 r.2)) := by
  have hC0 := hC
  obtain ⟨h1, h2, h3, h4, h5, h6⟩ := hC
  unfold f_X10_stepsOn
  refine Tr.bind (beginR hC0 hBy.1 hW hf) (fun N1 hN1 => ?_)
  obtain ⟨f1, m1⟩ := hN1
  have c1 : CxR T V G l N1 := hC0.to (f1.mono (by simp))
  have y1 : ∀ v, v < V → N1.1 120 v = oI (b v) := fun v hv => by rw [(f1 120 (by simp)).1]; exact hBy.1 v hv
  refine Tr.bind (roundsR c1 y1 hW hP hf m1) (fun N2 hN2 => ?_)
  obtain ⟨f2, dT, dV, fr, lT, lV, hR, hA⟩ := hN2
  have f12 : Fr [123, 124] M N2 := f1.tr f2
  have c2 : CxR T V G l N2 := c1.to (f2.mono (by simp))
  have y2 : ByR T V b N2 := ⟨fun v hv => by rw [(f12 120 (by simp)).1]; exact hBy.1 v hv, fun t ht => by rw [(f12 119 (by simp)).1]; exact hBy.2 t ht⟩
  have rm2 : RmR T R N2 := fun t ht => by rw [(f12 122 (by simp)).1]; exact hRm t ht
  have hZ : ZR = -2000000000 := rfl
  have hX : FX T V f G (wR l) ZR b dT dV := fin_ok (W := 1188) hW hA hC0.w (by omega) (fun v t g1 g2 g3 hd => by have := (late hW hA.1).2 v g1 g2 hd; omega) (fun v t g1 g2 g3 hd => by have := (late hW hA.1).1 t g3 hd; omega)
  have hb : ∀ t, t < T → -2000000000 ≤ dT t ∧ dT t ≤ 1000000000 := fun t ht => by
    by_cases e : dT t = ZR
    · omega
    · have := (hA.2.1 t ht).1 e
      omega
  refine Tr.bind (bestR c2 rm2 y2 hR.1 hb) (fun r hr => ?_)
  obtain ⟨o, rfl, hbt⟩ := hr
  cases o with
  | none =>
    rw [if_pos (show oI none = -1 from rfl)]
    exact Tr.some ⟨f12.mono (by simp), Or.inl ⟨rfl, end_ok hW hP hA.1 hX (by decide) (fun s hs hc _ => hbt.1 rfl s hs hc)⟩⟩
  | some t =>
    obtain ⟨t1, t2, t3, t4⟩ := hbt.2 t rfl
    have hd : dT t ≠ ZR := by omega
    obtain ⟨n, hn⟩ := hA.1.2.2.2 t t1 hd
    obtain ⟨e1, e2, e3, U2, p2, e4⟩ := step_ok hW hP hA.1 hX (by decide) t1 t2 hd t3 (fun s hs hc _ => t4 s hs hc) hn
    have e5 := cnA_ex hA.1 hW n (some t) b hn (fun s hs => by cases hs; exact ⟨t1, hd⟩) (fun v hv => absurd rfl hv)
    rw [if_neg (show ¬ (some t : Option Nat) = none from fun h => nomatch h)] at e5
    have i19 : ibs (nI t) 19 = true := ibs_nI (by omega) (by decide)
    have i9 : ibs (nI t) 9 = true := ibs_nI (by omega) (by decide)
    rw [show oI (some t) = nI t from rfl, if_neg (show ¬ nI t = -1 by rw [nI_ne_m1 (by omega)]; exact not_false), if_pos i19, if_pos i9, if_pos i9, sA_nI (by omega), gA_nI (by omega), y2.2 t t1, gA_nI (by omega), hR.1 t t1, l_1, nI_add, Option.bind_some]
    refine Tr.bind (exR h1 h2 hA.1 hW (fun s hs hds => by rw [sI_fn (by decide)]; exact hR.2.2 s hs hds) (fun v hv => by rw [sI_fn (by decide)]; exact y2.1 v hv) t1 hd hn) (fun K hK => ?_)
    obtain ⟨k1, k2⟩ := hK
    refine Tr.some ⟨(f12.mono (by simp)).tr ((Fr.sI (by simp)).tr (k1.mono (by simp))), Or.inr ⟨dT t, _, U2, p2, rfl, t3, (hb t t1).2, e3, e4, e1, e5, k2, fun s hs => ?_⟩⟩
    show K.1 119 s = _
    rw [(k1 119 (by simp)).1, e2, sI_at]
    by_cases c : s = t
    · subst c; rw [if_pos ⟨rfl, rfl⟩, if_pos rfl]
    · rw [if_neg (fun h => c h.2), if_neg c]; exact y2.2 s hs
theorem SW_bd (hC : CxR T V G l M) (hW : Way T V f G R b) : ∀ n, n ≤ V → 0 ≤ SW (wR l) b n ∧ SW (wR l) b n ≤ 1188 * (n : Int) := by
  intro n
  induction n with
  | zero => intro _; exact ⟨Int.le_refl _, Int.le_refl _⟩
  | succ n ih =>
    intro hn
    obtain ⟨i1, i2⟩ := ih (by omega)
    have e : SW (wR l) b (n + 1) = SW (wR l) b n + wo (wR l) (b n) n := rfl
    rw [e]
    cases hb : b n with
    | none => show 0 ≤ SW (wR l) b n + 0 ∧ SW (wR l) b n + 0 ≤ _; omega
    | some t =>
      have := hC.w n t (by omega) (hW.1 n t (by omega) hb).2.1 (hW.1 n t (by omega) hb).2.2
      show 0 ≤ SW (wR l) b n + wR l t n ∧ SW (wR l) b n + wR l t n ≤ _
      omega
/-- the greatest sum from f on -/
theorem dfromR (hC : CxR T V G l M) (hRm : RmR T R M) (hf : f ≤ V) : Tr (f_X10_dearestFrom M (nI f)) (fun r => Fr [119, 120, 123, 124] M r.2 ∧ ∃ a, r.1 = zI a ∧ 0 ≤ a ∧ a ≤ 11880 ∧ Opt T V f G R (wR l) a) := by
  have hC0 := hC
  obtain ⟨h1, h2, h3, h4, h5, h6⟩ := hC
  unfold f_X10_dearestFrom
  have A1 : Tr (loop FU (fun a_2 => f_X10_dearestFrom_L2 a_2.1 (nI f) a_2.2) (M, 0)) (fun N => Fr [120] M N ∧ ∀ v, v < 10 → N.1 120 v = -1) := by
    refine lp0 (fun k (N : Mm) => (N, nI k)) 10 (fun k N => Fr [120] M N ∧ ∀ v, v < k → N.1 120 v = -1) (by decide) M rfl ⟨Fr.rf, fun v hv => absurd hv (Nat.not_lt_zero _)⟩ (fun k K hk hK => ?_) (fun K hK => ?_)
    · obtain ⟨hF, hK⟩ := hK
      show Tr (f_X10_dearestFrom_L2 K (nI f) (nI k)) _
      unfold f_X10_dearestFrom_L2
      rw [if_neg (show ¬ (10 : Int32) ≤ nI k by rw [l_10, nI_leI (by omega) (by omega)]; omega), if_pos (ibs_nI (by omega) (by decide)), sA_nI (by omega), Option.bind_some, l_1, nI_add]
      refine Tr.some (Or.inl ⟨_, rfl, hF.tr (Fr.sI (by simp)), fun v hv => ?_⟩)
      rw [sI_at]
      by_cases e : v = k
      · rw [if_pos ⟨rfl, e⟩]
      · rw [if_neg (fun h => e h.2)]; exact hK v (by omega)
    · show Tr (f_X10_dearestFrom_L2 K (nI f) (nI 10)) _
      unfold f_X10_dearestFrom_L2
      rw [if_pos (by decide)]
      exact Tr.some ⟨_, rfl, hK⟩
  refine Tr.bind A1 (fun N1 hN1 => ?_)
  obtain ⟨f1, b1⟩ := hN1
  have A2 : Tr (loop FU (fun a_4 => f_X10_dearestFrom_L23 a_4.1 (nI f) a_4.2) (N1, 0)) (fun N => Fr [119] N1 N ∧ ∀ t, t < 9 → N.1 119 t = 0) := by
    refine lp0 (fun k (N : Mm) => (N, nI k)) 9 (fun k N => Fr [119] N1 N ∧ ∀ t, t < k → N.1 119 t = 0) (by decide) N1 rfl ⟨Fr.rf, fun v hv => absurd hv (Nat.not_lt_zero _)⟩ (fun k K hk hK => ?_) (fun K hK => ?_)
    · obtain ⟨hF, hK⟩ := hK
      show Tr (f_X10_dearestFrom_L23 K (nI f) (nI k)) _
      unfold f_X10_dearestFrom_L23
      rw [if_neg (show ¬ (9 : Int32) ≤ nI k by rw [l_9, nI_leI (by omega) (by omega)]; omega), if_pos (ibs_nI (by omega) (by decide)), sA_nI (by omega), Option.bind_some, l_1, nI_add]
      refine Tr.some (Or.inl ⟨_, rfl, hF.tr (Fr.sI (by simp)), fun v hv => ?_⟩)
      rw [sI_at]
      by_cases e : v = k
      · rw [if_pos ⟨rfl, e⟩]
      · rw [if_neg (fun h => e h.2)]; exact hK v (by omega)
    · show Tr (f_X10_dearestFrom_L23 K (nI f) (nI 9)) _
      unfold f_X10_dearestFrom_L23
      rw [if_pos (by decide)]
      exact Tr.some ⟨_, rfl, hK⟩
  refine Tr.bind A2 (fun N2 hN2 => ?_)
  obtain ⟨f2, k2⟩ := hN2
  have f12 : Fr [119, 120, 123, 124] M N2 := (f1.mono (by simp)).tr (f2.mono (by simp))
  have c2 : CxR T V G l N2 := hC0.to (f12.mono (by simp))
  have r2 : RmR T R N2 := fun t ht => by rw [(f12 122 (by simp)).1]; exact hRm t ht
  have y2 : ByR T V (fun _ => none) N2 := ⟨fun v hv => by rw [(f2 120 (by simp)).1]; exact b1 v (by omega), fun t ht => by rw [none_cn]; exact k2 t (by omega)⟩
  have w0 : Way T V f G R (fun _ => none) := none_way
  have p0 : PD T V f G R (wR l) (fun _ => none) (fun _ => 1188) (fun _ => 0) 1188 := none_pd hC0.w (by decide)
  refine Tr.bind (stepsR c2 r2 y2 w0 p0 hf) (fun r1 hr1 => ?_)
  obtain ⟨g1, hr1⟩ := hr1
  obtain ⟨x1, N3⟩ := r1
  have g1 : Fr [119, 120, 123, 124] N2 N3 := g1
  -- the loop
  have lp : ∀ m (s : Mm × Int32 × Int32), m < 9000 → (Fr [119, 120, 123, 124] M s.1 ∧ ∃ a, s.2.1 = zI a ∧ ((m = 0 ∧ s.2.2 = 0 ∧ ∃ b, Way T V f G R b ∧ SW (wR l) b V = a ∧ ∀ b2, Way T V f G R b2 → SW (wR l) b2 V ≤ SW (wR l) b V) ∨ ∃ c b U p, s.2.2 = zI c ∧ 0 < c ∧ c ≤ 1000000000 ∧ Way T V f G R b ∧ PD T V f G R (wR l) b U p c ∧ SW (wR l) b V = a + c ∧ m + cnA b V = V + 1 ∧ ByR T V b s.1)) → Tr (loop FU (fun a_9 => f_X10_dearestFrom_L50 a_9.1 (nI f) a_9.2.1 a_9.2.2) s) (fun e : Mm × Int32 => Fr [119, 120, 123, 124] M e.1 ∧ ∃ a, e.2 = zI a ∧ 0 ≤ a ∧ a ≤ 11880 ∧ Opt T V f G R (wR l) a) := fun m s hm hs => by
    refine lpV (fun m (s : Mm × Int32 × Int32) => Fr [119, 120, 123, 124] M s.1 ∧ ∃ a, s.2.1 = zI a ∧ ((m = 0 ∧ s.2.2 = 0 ∧ ∃ b, Way T V f G R b ∧ SW (wR l) b V = a ∧ ∀ b2, Way T V f G R b2 → SW (wR l) b2 V ≤ SW (wR l) b V) ∨ ∃ c b U p, s.2.2 = zI c ∧ 0 < c ∧ c ≤ 1000000000 ∧ Way T V f G R b ∧ PD T V f G R (wR l) b U p c ∧ SW (wR l) b V = a + c ∧ m + cnA b V = V + 1 ∧ ByR T V b s.1)) (fun m s hs => ?_) FU m s (by show m < 10000; omega) hs
    obtain ⟨N, q1, q2⟩ := s
    obtain ⟨hF, a, e1, hs⟩ := hs
    have hF : Fr [119, 120, 123, 124] M N := hF
    have e1 : q1 = zI a := e1
    show Tr (f_X10_dearestFrom_L50 N (nI f) q1 q2) _
    unfold f_X10_dearestFrom_L50
    rcases hs with ⟨m0, e2, b, w1, w2, w3⟩ | ⟨c, b, U, p, e2, c1, c2', w1, p1, s1, m1, y1⟩
    · have e2 : q2 = 0 := e2
      rw [e2, if_pos (by decide)]
      have := SW_bd hC0 w1 V (Nat.le_refl _)
      exact Tr.some (Or.inr ⟨_, rfl, hF, a, e1, by omega, by omega, ⟨b, w1, w2⟩, fun b2 hb2 => by have := w3 b2 hb2; omega⟩)
    · have e2 : q2 = zI c := e2
      have y1 : ByR T V b N := y1
      have hcA := cnA_le (b := b) V
      rw [e2, zI_0, if_neg (by rw [zI_le (by omega) (by omega) (by omega) (by omega)]; omega)]
      refine Tr.bind (stepsR (hC0.to (hF.mono (by simp))) (fun t ht => by rw [(hF 122 (by simp)).1]; exact hRm t ht) y1 w1 p1 hf) (fun r hr => ?_)
      obtain ⟨x2, K⟩ := r
      obtain ⟨g2, hr⟩ := hr
      have g2 : Fr [119, 120, 123, 124] N K := g2
      rw [e1, zI_add]
      rcases hr with ⟨z1, z2⟩ | ⟨a2, b2, U2, p2, z1, z2, z3, z4, z5, z6, z7, z8⟩
      · exact Tr.some (Or.inl ⟨0, (K, zI (a + c), x2), rfl, ⟨hF.tr g2, a + c, rfl, Or.inl ⟨rfl, z1, b, w1, s1, z2⟩⟩, by omega⟩)
      · exact Tr.some (Or.inl ⟨m - 1, (K, zI (a + c), x2), rfl, ⟨hF.tr g2, a + c, rfl, Or.inr ⟨a2, b2, U2, p2, z1, z2, z3, z4, z5, by rw [z6, s1], by omega, z8⟩⟩, by omega⟩)
  have hS0 : SW (wR l) (fun _ => none) V = 0 := none_SW
  have hA0 : cnA (fun _ => none) V = 0 := by
    have : ∀ n, cnA (fun _ => none) n = 0 := fun n => by
      induction n with
      | zero => rfl
      | succ n ih => show cnA (fun _ => none) n + (if (none : Option Nat) = none then 0 else 1) = 0; rw [ih, if_pos rfl]
    exact this V
  have fin : ∀ (e : Mm × Int32), (Fr [119, 120, 123, 124] M e.1 ∧ ∃ a, e.2 = zI a ∧ 0 ≤ a ∧ a ≤ 11880 ∧ Opt T V f G R (wR l) a) → Tr (some (e.2, e.1)) (fun r : Int32 × Mm => Fr [119, 120, 123, 124] M r.2 ∧ ∃ a, r.1 = zI a ∧ 0 ≤ a ∧ a ≤ 11880 ∧ Opt T V f G R (wR l) a) := fun e he => Tr.some he
  rcases hr1 with ⟨z1, z2⟩ | ⟨a2, b2, U2, p2, z1, z2, z3, z4, z5, z6, z7, z8⟩
  · exact Tr.bind (lp 0 (N3, 0, x1) (by decide) ⟨f12.tr g1, 0, rfl, Or.inl ⟨rfl, z1, _, w0, hS0, z2⟩⟩) fin
  · exact Tr.bind (lp V (N3, 0, x1) (by omega) ⟨f12.tr g1, 0, rfl, Or.inr ⟨a2, b2, U2, p2, z1, z2, z3, z4, z5, by rw [z6, hS0], by omega, z8⟩⟩) fin
end DFROM
