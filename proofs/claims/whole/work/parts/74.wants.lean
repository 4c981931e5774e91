/-! wants, send -/
section WANTS
variable {LR : Mm → Nat → (Nat → Int32) → Prop} {LK : (Nat → Int32) → Nat → Nat → Int32 → Int32} {n : Nat} {M N Mc Mr Nc Nr : Mm} {q B K A : Nat} {m : Nat → Int32} {r x y x1 x2 x3 x4 x5 : Int32} {tp : Nat → Int32}
/-- how many bits a number has -/
def pc (s : Nat) : Nat := cntB (fun k => bt (nI s) k) 31
theorem pc_le (s : Nat) : pc s ≤ 31 := cntB_le _ _
theorem pc_all : ∀ s, s < 1024 → f_J6_bitCount_0f7a4 ((fun _ _ => 0), (fun _ _ => 0), (fun _ _ => 0)) (nI s) = some (nI (pc s)) := by decide +kernel
theorem bitC {s : Nat} (h : s < 1024) : f_J6_bitCount_0f7a4 M (nI s) = some (nI (pc s)) := pc_all s h
theorem bitR (s : Nat) : f_X10_bits M (nI s) = some (nI (pc s)) := bitsR
/-- the set with the fewest bits -/
def swS (f : Nat → Bool) (i : Nat) : Option Nat := iter (fun s o => if f s = true then (match o with | none => some s | some b => if pc b ≤ pc s then some b else some s) else o) i none
theorem swS_succ {f : Nat → Bool} {i : Nat} : swS f (i + 1) = if f i = true then (match swS f i with | none => some i | some b => if pc b ≤ pc i then some b else some i) else swS f i := rfl
theorem swS_lt {f : Nat → Bool} : ∀ i s, swS f i = some s → s < i := by
  intro i
  induction i with
  | zero => intro s h; cases h
  | succ i ih =>
    intro s h
    rw [swS_succ] at h
    by_cases c : f i = true
    · rw [if_pos c] at h
      cases ho : swS f i with
      | none => rw [ho] at h; cases h; omega
      | some b =>
        have := ih b ho
        rw [ho] at h
        have h : (if pc b ≤ pc i then some b else some i) = some s := h
        by_cases d : pc b ≤ pc i
        · rw [if_pos d] at h; cases h; omega
        · rw [if_neg d] at h; cases h; omega
    · rw [if_neg c] at h
      have := ih s h
      omega
theorem lgc {w : Int64} {i : Nat} (hi : i < 64) : (lg_cmp ((lush w (nI i)) &&& 1) 1 = 0) = ((U8 w).testBit i = true) := by
  have e : U8 (lush w (nI i) &&& 1) = (U8 w / 2 ^ i) % 2 := by
    rw [U_and, U_lush w hi, show U8 1 = 1 from rfl, Nat.and_one_is_mod, Nat.shiftRight_eq_div_pow]
  have e2 : lg_cmp (lush w (nI i) &&& 1) 1 = 0 ↔ lush w (nI i) &&& 1 = 1 := by
    generalize lush w (nI i) &&& 1 = z
    unfold lg_cmp
    by_cases c1 : z > 1
    · rw [if_pos c1]
      refine ⟨fun h => absurd h (by decide), fun h => ?_⟩
      rw [h] at c1
      exact absurd c1 (by decide)
    · rw [if_neg c1]
      by_cases c2 : z = 1
      · rw [if_pos c2]; exact ⟨fun _ => c2, fun _ => rfl⟩
      · rw [if_neg c2]; exact ⟨fun h => absurd h (by decide), fun h => absurd h c2⟩
  refine propext (e2.trans ?_)
  rw [Nat.testBit_eq_decide_div_mod_eq]
  refine ⟨fun h => ?_, fun h => U_inj ?_⟩
  · rw [← e, h]; rfl
  · rw [e]
    have := of_decide_eq_true h
    rw [this]; rfl
theorem smallC {w : Int64} {f : Nat → Bool} (hw : ∀ j, j < 64 → (U8 w).testBit j = f j) : f_X9_smallestOf M w = some (oI (swS f 64)) := by
  unfold f_X9_smallestOf
  have : loop FU (fun a_3 => f_X9_smallestOf_L4 M w a_3.1 a_3.2) ((-1), 0) = some (oI (swS f 64)) := by
    refine (lp0 (Q := fun r : Int32 => r = oI (swS f 64)) (fun i (o : Option Nat) => (oI o, nI i)) 64 (fun i o => o = swS f i) (by decide) none rfl rfl (fun i o hi hP => ?_) (fun o hP => ?_)).eq
    · have hlt := swS_lt (f := f) i
      have hs := swS_succ (f := f) (i := i)
      rw [← hP] at hlt hs
      generalize swS f (i + 1) = o2 at hs ⊢
      show Tr (f_X9_smallestOf_L4 M w (oI o) (nI i)) _
      unfold f_X9_smallestOf_L4 f_X9_smallestOf_J4_25
      rw [if_neg (show ¬ (64 : Int32) ≤ nI i by rw [l_64, nI_leI (by omega) (by omega)]; omega), show nI i + 1 = nI (i + 1) from by rw [l_1, nI_add]]
      have hc : (lg_cmp ((lush w (nI i)) &&& 1) 1 = 0) = (f i = true) := by rw [lgc hi, hw i hi]
      by_cases c : f i = true
      · rw [if_pos (by rw [hc]; exact c), if_neg (by decide)]
        rw [if_pos c] at hs
        cases ho : o with
        | none =>
          rw [ho] at hs
          rw [if_pos (show oI none = -1 from rfl)]
          exact Tr.some (Or.inl ⟨o2, by rw [hs]; rfl, rfl⟩)
        | some b =>
          rw [ho] at hs
          have hb := hlt b ho
          have hs : o2 = if pc b ≤ pc i then some b else some i := hs
          rw [if_neg (show ¬ oI (some b) = -1 from by rw [oI, nI_ne_m1 (by omega)]; exact not_false), bitC (by omega), Option.bind_some, oI, bitC (by omega), Option.bind_some]
          have p1 := pc_le b
          have p2 := pc_le i
          by_cases d : pc b ≤ pc i
          · rw [if_pos (by rw [nI_leI (by omega) (by omega)]; exact d)]
            exact Tr.some (Or.inl ⟨o2, by rw [hs, if_pos d]; rfl, rfl⟩)
          · rw [if_neg (by rw [nI_leI (by omega) (by omega)]; exact d)]
            exact Tr.some (Or.inl ⟨o2, by rw [hs, if_neg d]; rfl, rfl⟩)
      · rw [if_neg (by rw [hc]; exact c), if_pos rfl]
        rw [if_neg c] at hs
        exact Tr.some (Or.inl ⟨o2, by rw [hs], rfl⟩)
    · subst hP
      generalize swS f 64 = o
      show Tr (f_X9_smallestOf_L4 M w (oI o) (nI 64)) _
      unfold f_X9_smallestOf_L4
      rw [if_pos (by decide)]
      exact Tr.some ⟨_, rfl, rfl⟩
  rw [this]; rfl
theorem smallR {f : Nat → Bool} (hw : ∀ j, j < 64 → M.1 125 j = bI (f j)) : loop FU (fun a_6 => f_X10_wants_L39 M a_6.1 a_6.2) ((-1), 0) = some (oI (swS f 64)) := by
  refine (lp0 (Q := fun r : Int32 => r = oI (swS f 64)) (fun i (o : Option Nat) => (oI o, nI i)) 64 (fun i o => o = swS f i) (by decide) none rfl rfl (fun i o hi hP => ?_) (fun o hP => ?_)).eq
  · have hlt := swS_lt (f := f) i
    have hs := swS_succ (f := f) (i := i)
    rw [← hP] at hlt hs
    generalize swS f (i + 1) = o2 at hs ⊢
    show Tr (f_X10_wants_L39 M (oI o) (nI i)) _
    unfold f_X10_wants_L39
    rw [if_neg (show ¬ (64 : Int32) ≤ nI i by rw [l_64, nI_leI (by omega) (by omega)]; omega), if_pos (ibs_nI hi (by decide)), show gA M 125 (nI i) = bI (f i) from (gA_nI (by omega)).trans (hw i hi), show nI i + 1 = nI (i + 1) from by rw [l_1, nI_add]]
    by_cases c : f i = true
    · rw [c, if_neg (show ¬ bI true = 0 from by decide)]
      rw [if_pos c] at hs
      cases ho : o with
      | none =>
        rw [ho] at hs
        rw [if_pos (show oI none = -1 from rfl)]
        exact Tr.some (Or.inl ⟨o2, by rw [hs]; rfl, rfl⟩)
      | some b =>
        rw [ho] at hs
        have hb := hlt b ho
        have hs : o2 = if pc b ≤ pc i then some b else some i := hs
        rw [if_neg (show ¬ oI (some b) = -1 from by rw [oI, nI_ne_m1 (by omega)]; exact not_false), bitR, Option.bind_some, oI, bitR, Option.bind_some]
        have p1 := pc_le b
        have p2 := pc_le i
        by_cases d : pc b ≤ pc i
        · rw [if_pos (by rw [nI_leI (by omega) (by omega)]; exact d)]
          exact Tr.some (Or.inl ⟨o2, by rw [hs, if_pos d]; rfl, rfl⟩)
        · rw [if_neg (by rw [nI_leI (by omega) (by omega)]; exact d)]
          exact Tr.some (Or.inl ⟨o2, by rw [hs, if_neg d]; rfl, rfl⟩)
    · rw [Bool.eq_false_iff.mpr c, if_pos (show bI false = 0 from rfl)]
      rw [if_neg c] at hs
      exact Tr.some (Or.inl ⟨o2, by rw [hs], rfl⟩)
  · subst hP
    generalize swS f 64 = o
    show Tr (f_X10_wants_L39 M (oI o) (nI 64)) _
    unfold f_X10_wants_L39
    rw [if_pos (by decide)]
    exact Tr.some ⟨_, rfl, rfl⟩
/-- a call that uses the tape up, and changes nothing else -/
theorem RR_told (HL : LSpec LR LK) (h : RR LR n Mc Mr) {N : Mm} (hF : Fr [125] (sI Mr 109 8 0) N) (x : Int32) : RR LR (n + 1) (sI Mc 1 1 0) (sI N 109 0 x) := by
  have g : ∀ i, i ≠ 109 → i ≠ 125 → (sI N 109 0 x).1 i = Mr.1 i := fun i h1 h2 => by rw [sI_fn h1, (hF i (by simpa using h2)).1, sI_fn h1]
  have g9 : ∀ k, k ≠ 0 → (sI N 109 0 x).1 109 k = (sI Mr 109 8 0).1 109 k := fun k hk => by rw [sI_at, if_neg (by omega), (hF 109 (by simp)).1]
  have e8 : (sI N 109 0 x).1 109 8 = nI 0 := by rw [g9 8 (by decide), sI_at, if_pos ⟨rfl, rfl⟩]; rfl
  refine RR_tape HL h (fun i h1 h2 h3 => sI_fn h2) (fun b hb => by rw [sI_at, if_neg (by omega)]) ⟨rfl, rfl⟩ ⟨g 110 (by decide) (by decide), g 111 (by decide) (by decide), g 113 (by decide) (by decide), fun k hk => by rw [g9 k (by omega), sI_at, if_neg (by omega)]⟩ ?_
  rw [e8]
  refine ⟨isN_nI (by decide) (by decide), by rw [sI_at, if_pos ⟨rfl, rfl⟩]; rfl, fun k hk => ?_⟩
  rw [nI_clamp (by decide)] at hk
  omega
theorem s_26 (HL : LSpec LR LK) (h : RR LR n Mc Mr) : ∃ Nc Nr, so_26 x1 x2 x3 x4 x5 Mc Mr Nc Nr ∧ RR LR (n + 1) Nc Nr := by
  obtain ⟨hk, hkL, hM, hI, hR⟩ := h.cur
  have hV := hI.v
  have hqd := md4 hk
  obtain ⟨⟨b1, b1'⟩, b2, b3⟩ := h.2.2.2.1
  generalize hA : (Mr.1 109 8).toNatClampNeg = A at b1 b1' b3
  have tc := toldC (tp := fun k => Mr.1 114 k) hk rfl (hM.2.2.2.1.trans hV.1) hV.2 (b2.trans b1) b1' (fun k hk => (b3 k hk).2) (fun k hk => (b3 k hk).1)
  have wr := wantedR (tp := fun k => Mr.1 114 k) rfl hI b1 b1' (fun k hk => (b3 k hk).2) (fun k hk => rfl)
  rcases tc with ⟨K, rfl, k2, k3, tc⟩ | ⟨hno, tc⟩
  · obtain ⟨g, g1, g2, g3, g4⟩ := wr.1 K rfl k2 k3
    have hMN : MR (sI Mc 1 1 0) (Mc.2.2 1 3) (Mr.1 110) := hM.fr (fun i h1 h2 => sI_fn (by omega))
    obtain ⟨w, w1, w2⟩ := fittingC (M := sI Mc 1 1 0) (tp := fun k => Mr.1 114 k) hk rfl hMN hV.2 k2 (fun k hk => (b3 k hk).2) k3 (fun k hk => by rw [sI_fn (by decide)]; exact (b3 k hk).1)
    have hcnt : cntB (fun i => (U8 w).testBit i) 64 = cntB (fun j => fitF (Mr.1 110) (fun k => Mr.1 114 k) K j) 64 := cntB_cg (fun j hj => w2 j hj)
    have hc64 := cntB_le (fun j => fitF (Mr.1 110) (fun k => Mr.1 114 k) K j) 64
    generalize hc : cntB (fun j => fitF (Mr.1 110) (fun k => Mr.1 114 k) K j) 64 = c at g2 hcnt hc64
    have r4 : ∀ j, j < 64 → (sI g.2 109 0 0).1 125 j = bI (fitF (Mr.1 110) (fun k => Mr.1 114 k) K j) := fun j hj => by rw [sI_fn (by decide)]; exact g4 j hj
    refine ⟨sI Mc 1 1 0, sI g.2 109 0 0, ⟨_, if nb x1 = 0 then nI c else oI (swS (fun j => fitF (Mr.1 110) (fun k => Mr.1 114 k) K j) 64), ?_, ?_, Or.inl ⟨rfl, t0⟩⟩, RR_told HL h g3 0⟩
    · unfold f_X9_wants
      rw [tc, Option.bind_some, if_neg (by rw [nI_ne_m1 (by omega)]; exact not_false), w1, Option.bind_some, bit64, Option.bind_some, hcnt, smallC w2, Option.bind_some]
      by_cases c1 : nb x1 = 0
      · rw [if_pos c1, if_pos c1]
      · rw [if_neg c1, if_neg c1]
    · unfold f_X10_wants f_X10_wants_J16
      rw [g1, Option.bind_some, g2, if_neg (by rw [nI_ne_m1 (by omega)]; exact not_false), Option.bind_some, t0, if_pos (by decide), smallR r4, Option.bind_some]
      by_cases c1 : nb x1 = 0
      · rw [if_pos c1, if_pos c1]
      · rw [if_neg c1, if_neg c1]
  · have wr2 := wr.2 hno
    refine ⟨sI Mc 1 1 0, sI (sI Mr 109 8 0) 109 0 1, ⟨_, 0, ?_, ?_, Or.inr ⟨1, rfl, by rw [t0]; rfl, by rw [t0]; decide⟩⟩, RR_told HL h Fr.rf 1⟩
    · unfold f_X9_wants
      rw [tc, Option.bind_some, if_pos rfl]
    · unfold f_X10_wants f_X10_wants_J16
      rw [wr2, Option.bind_some, if_pos rfl, Option.bind_some, t0, if_neg (by decide)]
/-- the one who parts best -/
def sdS (g : Nat → Nat) (i : Nat) : Option Nat × Nat := iter (fun v s => if s.1.isSome = true ∧ s.2 ≤ g v then s else (some v, g v)) i (none, 0)
theorem sdS_succ {g : Nat → Nat} {i : Nat} : sdS g (i + 1) = if (sdS g i).1.isSome = true ∧ (sdS g i).2 ≤ g i then sdS g i else (some i, g i) := rfl
theorem sdS_le {g : Nat → Nat} (hg : ∀ v, g v ≤ 64) : ∀ i, (sdS g i).2 ≤ 64 := by
  intro i
  induction i with
  | zero => exact Nat.zero_le _
  | succ i ih =>
    rw [sdS_succ]
    by_cases c : (sdS g i).1.isSome = true ∧ (sdS g i).2 ≤ g i
    · rw [if_pos c]; exact ih
    · rw [if_neg c]; exact hg i
def sdB (d : Nat) (s : Option Nat × Nat) : Int32 := if s.1.isSome = true then nI s.2 else nI d
theorem sd_step {g : Nat → Nat} {i d : Nat} (hg : ∀ v, g v ≤ 64) (hd : 64 < d) (hd2 : d < 2 ^ 31) : (sdB d (sdS g i) ≤ nI (g i)) = ((sdS g i).1.isSome = true ∧ (sdS g i).2 ≤ g i) := by
  have h1 := sdS_le hg i
  have h2 := hg i
  unfold sdB
  by_cases c : (sdS g i).1.isSome = true
  · rw [if_pos c, nI_leI (by omega) (by omega)]
    exact propext ⟨fun h => ⟨c, h⟩, fun h => h.2⟩
  · rw [if_neg c, nI_leI (by omega) (by omega)]
    exact propext ⟨fun h => by omega, fun h => absurd h.1 c⟩
theorem sendC (hk : kd q = 4) (hq : M.2.2 1 3 = q) (h : MR M q m) (hI : Inv m B) {w : Int64} {f : Nat → Bool} (hw : ∀ j, j < 64 → (U8 w).testBit j = f j) {c : Nat} (hc : c = cntB f 64) : loop FU (fun a_9 => f_X9_send_L51 M w (nI c) a_9.1 a_9.2.1 a_9.2.2) ((-1), 65, 0) = some (oI (sdS (fun v => max (cntB (fun j => f j && inn (m (57 + 5 * v + 4)) j) 64) (c - cntB (fun j => f j && inn (m (57 + 5 * v + 4)) j) 64)) (vN m)).1) := by
  obtain ⟨e4, hV⟩ := hI.v
  generalize hgg : (fun v => max (cntB (fun j => f j && inn (m (57 + 5 * v + 4)) j) 64) (c - cntB (fun j => f j && inn (m (57 + 5 * v + 4)) j) 64)) = g
  have hc64 := cntB_le f 64
  have hp : ∀ v, cntB (fun j => f j && inn (m (57 + 5 * v + 4)) j) 64 ≤ c := fun v => by
    rw [hc]
    have : ∀ n, cntB (fun j => f j && inn (m (57 + 5 * v + 4)) j) n ≤ cntB f n := by
      intro n
      induction n with
      | zero => exact Nat.le_refl _
      | succ n ih =>
        rw [cntB_succ, cntB_succ]
        cases hf : f n <;> cases inn (m (57 + 5 * v + 4)) n <;> simp <;> omega
    exact this 64
  have hg : ∀ v, g v ≤ 64 := fun v => by
    rw [← hgg]
    have := hp v
    show max _ _ ≤ 64
    omega
  have g4 : gI M q 4 = nI (vN m) := h.2.2.2.1.trans e4
  refine (lp0 (Q := fun r : Int32 => r = oI (sdS g (vN m)).1) (fun i (s : Option Nat × Nat) => (oI s.1, sdB 65 s, nI i)) (vN m) (fun i s => s = sdS g i) (by omega) (none, 0) rfl rfl (fun v s hv hP => ?_) (fun s hP => ?_)).eq
  · subst hP
    have hst := sd_step (i := v) hg (show 64 < 65 by decide) (by decide)
    have hss := sdS_succ (g := g) (i := v)
    have hgv : g v = max (cntB (fun j => f j && inn (m (57 + 5 * v + 4)) j) 64) (c - cntB (fun j => f j && inn (m (57 + 5 * v + 4)) j) 64) := by rw [← hgg]
    have hpv := hp v
    show Tr (f_X9_send_L51 M w (nI c) (oI (sdS g v).1) (sdB 65 (sdS g v)) (nI v)) _
    generalize sdS g (v + 1) = s2 at hss ⊢
    generalize sdS g v = s at hst hss ⊢
    unfold f_X9_send_L51
    rw [Option.bind_some, show gR M 1 3 = q from hq, if_pos hk, g4, if_neg (by rw [nI_leI (by omega) (by omega)]; omega), Option.bind_some, if_pos hk, show f_X4_ofVisitor M q (nI v) 4 = m (57 + 5 * v + 4) from ofV (c := 4) hk h (by omega) (by decide)]
    refine Tr.bind setsC (fun z hz => ?_)
    have hz2 : cntB (fun i => (U8 (w &&& z)).testBit i) 64 = cntB (fun j => f j && inn (m (57 + 5 * v + 4)) j) 64 := cntB_cg (fun j hj => by rw [U_and, Nat.testBit_and, hw j hj, hz j hj])
    rw [bit64, Option.bind_some, hz2, nI_subI hpv, mx_nI (by omega) (by omega), ← hgv, show nI v + 1 = nI (v + 1) from by rw [l_1, nI_add]]
    by_cases d : s.1.isSome = true ∧ s.2 ≤ g v
    · rw [if_pos (by rw [hst]; exact d)]
      rw [if_pos d] at hss
      exact Tr.some (Or.inl ⟨s2, by rw [hss], rfl⟩)
    · rw [if_neg (by rw [hst]; exact d)]
      rw [if_neg d] at hss
      exact Tr.some (Or.inl ⟨s2, by rw [hss]; rfl, rfl⟩)
  · subst hP
    generalize sdS g (vN m) = s
    show Tr (f_X9_send_L51 M w (nI c) (oI s.1) (sdB 65 s) (nI (vN m))) _
    unfold f_X9_send_L51
    rw [Option.bind_some, show gR M 1 3 = q from hq, if_pos hk, g4, if_pos (by rw [nI_leI (by omega) (by omega)]; omega)]
    exact Tr.some ⟨_, rfl, rfl⟩
theorem sendR (hm : M.1 110 = m) (hI : Inv m B) {f : Nat → Bool} (hw : ∀ j, j < 64 → M.1 125 j = bI (f j)) {c : Nat} (hc : c = cntB f 64) (hc2 : 2 ≤ c) : loop FU (fun a_7 => f_X10_send_L37 M (nI c) a_7.1 a_7.2.1 a_7.2.2) ((-1), 2000000000, 0) = some (oI (sdS (fun v => max (cntB (fun j => f j && inn (m (57 + 5 * v + 4)) j) 64) (c - cntB (fun j => f j && inn (m (57 + 5 * v + 4)) j) 64)) (vN m)).1) := by
  obtain ⟨e4, hV⟩ := hI.v
  generalize hgg : (fun v => max (cntB (fun j => f j && inn (m (57 + 5 * v + 4)) j) 64) (c - cntB (fun j => f j && inn (m (57 + 5 * v + 4)) j) 64)) = g
  have hc64 := cntB_le f 64
  have hp : ∀ v, cntB (fun j => f j && inn (m (57 + 5 * v + 4)) j) 64 ≤ c := fun v => by
    rw [hc]
    have : ∀ n, cntB (fun j => f j && inn (m (57 + 5 * v + 4)) j) n ≤ cntB f n := by
      intro n
      induction n with
      | zero => exact Nat.le_refl _
      | succ n ih =>
        rw [cntB_succ, cntB_succ]
        cases hf : f n <;> cases inn (m (57 + 5 * v + 4)) n <;> simp <;> omega
    exact this 64
  have hg : ∀ v, g v ≤ 64 := fun v => by
    rw [← hgg]
    have := hp v
    show max _ _ ≤ 64
    omega
  have i4 : ibs (4 : Int32) 807 = true := by decide
  have g4 : gA M 110 4 = nI (vN m) := by show M.1 110 4 = _; rw [hm]; exact e4
  refine (lp0 (Q := fun r : Int32 => r = oI (sdS g (vN m)).1) (fun i (s : Option Nat × Nat) => (oI s.1, sdB 2000000000 s, nI i)) (vN m) (fun i s => s = sdS g i) (by omega) (none, 0) rfl rfl (fun v s hv hP => ?_) (fun s hP => ?_)).eq
  · subst hP
    have hst := sd_step (i := v) hg (show 64 < 2000000000 by decide) (by decide)
    have hss := sdS_succ (g := g) (i := v)
    have hgv : g v = max (cntB (fun j => f j && inn (m (57 + 5 * v + 4)) j) 64) (c - cntB (fun j => f j && inn (m (57 + 5 * v + 4)) j) 64) := by rw [← hgg]
    have hpv := hp v
    show Tr (f_X10_send_L37 M (nI c) (oI (sdS g v).1) (sdB 2000000000 (sdS g v)) (nI v)) _
    generalize sdS g (v + 1) = s2 at hss ⊢
    generalize sdS g v = s at hst hss ⊢
    have lp : ∀ y2 y3 : Int32, loop FU (fun a_5 => f_X10_send_L59 M (nI c) y2 y3 (nI v) a_5.1 a_5.2) (0, 0) = some (nI (cntB (fun j => f j && inn (m (57 + 5 * v + 4)) j) 64)) := fun y2 y3 => by
      refine lpI (fun j (s : Nat) => (nI s, nI j)) 64 (fun j s => if (f j && inn (m (57 + 5 * v + 4)) j) = true then s + 1 else s) nI (by omega) 0 rfl (fun j s hj => ?_) (fun s => ?_)
      · show f_X10_send_L59 M (nI c) y2 y3 (nI v) (nI s) (nI j) = _
        unfold f_X10_send_L59 f_X10_send_J59_97
        rw [if_neg (show ¬ (64 : Int32) ≤ nI j by rw [l_64, nI_leI (by omega) (by omega)]; omega), if_pos (ibs_nI hj (by decide)), show gA M 125 (nI j) = bI (f j) from (gA_nI (by omega)).trans (hw j hj), show f_X10_ofOne M (nI v) 4 = some (m (57 + 5 * v + 4)) from by rw [← hm]; exact ofOneR (c := 4) (by omega) (by decide), Option.bind_some, Int32.add_zero, show nI j + 1 = nI (j + 1) from by rw [l_1, nI_add], show nI s + 1 = nI (s + 1) from by rw [l_1, nI_add]]
        cases hf : f j with
        | false => rw [if_pos (show bI false = 0 from rfl)]; simp
        | true =>
          rw [if_neg (show ¬ bI true = 0 from by decide)]
          by_cases d : inn (m (57 + 5 * v + 4)) j = true
          · rw [if_pos (by rw [innE]; exact d)]; simp [d]
          · rw [if_neg (by rw [innE]; exact d)]; simp [d]
      · show f_X10_send_L59 M (nI c) y2 y3 (nI v) (nI s) (nI 64) = _
        unfold f_X10_send_L59
        rw [if_pos (by decide)]
    unfold f_X10_send_L37
    rw [if_pos i4, g4, if_neg (by rw [nI_leI (by omega) (by omega)]; omega), if_neg (show ¬ nI c ≤ 1 by rw [l_1, nI_leI (by omega) (by omega)]; omega), lp, Option.bind_some, nI_subI hpv, grt_nI (by omega) (by omega), ← hgv, Option.bind_some, show nI v + 1 = nI (v + 1) from by rw [l_1, nI_add]]
    by_cases d : s.1.isSome = true ∧ s.2 ≤ g v
    · rw [if_neg (by rw [Int32.not_lt, hst]; exact d)]
      rw [if_pos d] at hss
      exact Tr.some (Or.inl ⟨s2, by rw [hss], rfl⟩)
    · rw [if_pos (by rw [← Int32.not_le, hst]; exact d)]
      rw [if_neg d] at hss
      exact Tr.some (Or.inl ⟨s2, by rw [hss]; rfl, rfl⟩)
  · subst hP
    generalize sdS g (vN m) = s
    show Tr (f_X10_send_L37 M (nI c) (oI s.1) (sdB 2000000000 s) (nI (vN m))) _
    unfold f_X10_send_L37
    rw [if_pos i4, g4, if_pos (by rw [nI_leI (by omega) (by omega)]; omega)]
    exact Tr.some ⟨_, rfl, rfl⟩
theorem sendR1 (hm : M.1 110 = m) (hI : Inv m B) {c : Nat} (hc2 : c < 2) : loop FU (fun a_7 => f_X10_send_L37 M (nI c) a_7.1 a_7.2.1 a_7.2.2) ((-1), 2000000000, 0) = some (-1) := by
  obtain ⟨e4, hV⟩ := hI.v
  have i4 : ibs (4 : Int32) 807 = true := by decide
  have g4 : gA M 110 4 = nI (vN m) := by show M.1 110 4 = _; rw [hm]; exact e4
  refine (lp0 (Q := fun r : Int32 => r = -1) (fun i (_ : Unit) => ((-1 : Int32), (2000000000 : Int32), nI i)) (vN m) (fun i _ => True) (by omega) () rfl trivial (fun v s hv hP => ?_) (fun s hP => ?_)).eq
  · refine ⟨.inr (-1), ?_, Or.inr ⟨_, rfl, rfl⟩⟩
    show f_X10_send_L37 M (nI c) (-1) 2000000000 (nI v) = _
    unfold f_X10_send_L37
    rw [if_pos i4, g4, if_neg (by rw [nI_leI (by omega) (by omega)]; omega), if_pos (show nI c ≤ 1 by rw [l_1, nI_leI (by omega) (by omega)]; omega)]
  · refine ⟨.inr (-1), ?_, _, rfl, rfl⟩
    show f_X10_send_L37 M (nI c) (-1) 2000000000 (nI (vN m)) = _
    unfold f_X10_send_L37
    rw [if_pos i4, g4, if_pos (by rw [nI_leI (by omega) (by omega)]; omega)]
theorem s_27 (HL : LSpec LR LK) (h : RR LR n Mc Mr) : ∃ Nc Nr, so_27 x1 x2 x3 x4 x5 Mc Mr Nc Nr ∧ RR LR (n + 1) Nc Nr := by
  obtain ⟨hk, hkL, hM, hI, hR⟩ := h.cur
  have hV := hI.v
  have hqd := md4 hk
  obtain ⟨⟨b1, b1'⟩, b2, b3⟩ := h.2.2.2.1
  generalize hA : (Mr.1 109 8).toNatClampNeg = A at b1 b1' b3
  have tc := toldC (tp := fun k => Mr.1 114 k) hk rfl (hM.2.2.2.1.trans hV.1) hV.2 (b2.trans b1) b1' (fun k hk => (b3 k hk).2) (fun k hk => (b3 k hk).1)
  have wr := wantedR (tp := fun k => Mr.1 114 k) rfl hI b1 b1' (fun k hk => (b3 k hk).2) (fun k hk => rfl)
  rcases tc with ⟨K, rfl, k2, k3, tc⟩ | ⟨hno, tc⟩
  · obtain ⟨g, g1, g2, g3, g4⟩ := wr.1 K rfl k2 k3
    have hMN : MR (sI Mc 1 1 0) (Mc.2.2 1 3) (Mr.1 110) := hM.fr (fun i h1 h2 => sI_fn (by omega))
    obtain ⟨w, w1, w2⟩ := fittingC (M := sI Mc 1 1 0) (tp := fun k => Mr.1 114 k) hk rfl hMN hV.2 k2 (fun k hk => (b3 k hk).2) k3 (fun k hk => by rw [sI_fn (by decide)]; exact (b3 k hk).1)
    have r110 : (sI g.2 109 0 0).1 110 = Mr.1 110 := by rw [sI_fn (by decide), (g3 110 (by simp)).1, sI_fn (by decide)]
    have r4 : ∀ j, j < 64 → (sI g.2 109 0 0).1 125 j = bI (fitF (Mr.1 110) (fun k => Mr.1 114 k) K j) := fun j hj => by rw [sI_fn (by decide)]; exact g4 j hj
    generalize hff : (fun j => fitF (Mr.1 110) (fun k => Mr.1 114 k) K j) = f at g2
    have w2 : ∀ j, j < 64 → (U8 w).testBit j = f j := fun j hj => by rw [w2 j hj, ← hff]
    have r4 : ∀ j, j < 64 → (sI g.2 109 0 0).1 125 j = bI (f j) := fun j hj => by rw [r4 j hj, ← hff]
    have hcnt : cntB (fun i => (U8 w).testBit i) 64 = cntB f 64 := cntB_cg (fun j hj => w2 j hj)
    have hc64 := cntB_le f 64
    generalize hc : cntB f 64 = c at g2 hcnt hc64
    have fin : ∀ v : Int32, f_X9_send Mc = some (.inl (v, sI Mc 1 1 0)) → f_X10_send Mr = some (v, sI g.2 109 0 0) → ∃ Nc Nr, so_27 x1 x2 x3 x4 x5 Mc Mr Nc Nr ∧ RR LR (n + 1) Nc Nr := fun v v1 v2 => ⟨sI Mc 1 1 0, sI g.2 109 0 0, ⟨_, v, v1, v2, Or.inl ⟨rfl, t0⟩⟩, RR_told HL h g3 0⟩
    have c1 : f_X9_send Mc = if 2 ≤ nI c then ((loop FU (fun a_9 => f_X9_send_L51 (sI Mc 1 1 0) w (nI c) a_9.1 a_9.2.1 a_9.2.2) ((-1), 65, 0)).bind (fun e_9 => some (.inl (e_9, sI Mc 1 1 0)))) else some (.inl (-1, sI Mc 1 1 0)) := by
      unfold f_X9_send
      rw [tc, Option.bind_some, if_neg (by rw [nI_ne_m1 (by omega)]; exact not_false), w1, Option.bind_some, bit64, Option.bind_some, hcnt]
    have c2 : f_X10_send Mr = (loop FU (fun a_7 => f_X10_send_L37 (sI g.2 109 0 0) (nI c) a_7.1 a_7.2.1 a_7.2.2) ((-1), 2000000000, 0)).bind (fun e_7 => some (e_7, sI g.2 109 0 0)) := by
      unfold f_X10_send f_X10_send_J16
      rw [g1, Option.bind_some, g2, if_neg (by rw [nI_ne_m1 (by omega)]; exact not_false), Option.bind_some, t0, if_pos (by decide)]
    by_cases d : 2 ≤ c
    · refine fin _ (by rw [c1, if_pos (show (2 : Int32) ≤ nI c by rw [l_2, nI_leI (by omega) (by omega)]; exact d), sendC (M := sI Mc 1 1 0) hk rfl hMN hI w2 hc.symm, Option.bind_some]) (by rw [c2, sendR r110 hI r4 hc.symm d, Option.bind_some])
    · refine fin (-1) (by rw [c1, if_neg (show ¬ (2 : Int32) ≤ nI c by rw [l_2, nI_leI (by omega) (by omega)]; exact d)]) (by rw [c2, sendR1 r110 hI (by omega), Option.bind_some])
  · have wr2 := wr.2 hno
    refine ⟨sI Mc 1 1 0, sI (sI Mr 109 8 0) 109 0 1, ⟨_, 0, ?_, ?_, Or.inr ⟨1, rfl, by rw [t0]; rfl, by rw [t0]; decide⟩⟩, RR_told HL h Fr.rf 1⟩
    · unfold f_X9_send
      rw [tc, Option.bind_some, if_pos rfl]
    · unfold f_X10_send f_X10_send_J16
      rw [wr2, Option.bind_some, if_pos rfl, Option.bind_some, t0, if_neg (by decide)]
end WANTS
