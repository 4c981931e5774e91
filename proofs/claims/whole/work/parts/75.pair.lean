/-! who can be had by what; fewest -/
section PAIR
variable {LR : Mm → Nat → (Nat → Int32) → Prop} {LK : (Nat → Int32) → Nat → Nat → Int32 → Int32} {n : Nat} {M N Mc Mr Nc Nr : Mm} {q B K A T V : Nat} {m : Nat → Int32} {r x y x1 x2 x3 x4 x5 : Int32} {G : Nat → Nat → Bool} {R : Nat → Nat}
def rgG (LK : (Nat → Int32) → Nat → Nat → Int32 → Int32) (m : Nat → Int32) (t v : Nat) : Bool := rgs m t (lkv LK m t v)
theorem clr_G (t : Nat) : clr LK m t = bset (rgG LK m t) (vN m) := rfl
/-- the class's pairing -/
def PC (N : Mm) (T V : Nat) (G : Nat → Nat → Bool) (R : Nat → Nat) : Prop := N.1 87 2 = nI T ∧ N.1 87 3 = nI V ∧ N.1 87 4 = nI (2 ^ V) ∧ ∀ t, t < T → N.1 88 t = bset (G t) V ∧ N.1 89 t = nI (R t)
theorem b1_pow : ∀ V, V < 11 → b1 V = nI (2 ^ V) := by decide +kernel
theorem takeC (hk : kd q = 4) (h : MR M q m) (hI : Inv m B) (h84 : ∀ t, t < tN m → M.1 84 t = clr LK m t) : Tr (f_X5_take M q) (fun N => Fr [87, 88, 89] M N ∧ PC N (tN m) (vN m) (rgG LK m) (rmN m)) := by
  obtain ⟨e3, hT⟩ := hI.t
  obtain ⟨e4, hV⟩ := hI.v
  have hq := md4 hk
  have g3 : ∀ N : Mm, N.1 q = M.1 q → gI N q 3 = nI (tN m) ∧ gI N q 4 = nI (vN m) := fun N hN => ⟨by show N.1 q 3 = _; rw [hN]; exact h.2.2.1.trans e3, by show N.1 q 4 = _; rw [hN]; exact h.2.2.2.1.trans e4⟩
  unfold f_X5_take
  rw [(g3 M rfl).1, Option.bind_some, (g3 (sI M 87 2 (nI (tN m))) (sI_fn (by omega))).2, Option.bind_some]
  rw [show gI (sI (sI M 87 2 (nI (tN m))) 87 3 (nI (vN m))) 87 3 = nI (vN m) from by show (sI _ 87 3 _).1 87 3 = _; rw [sI_at, if_pos ⟨rfl, rfl⟩], show (1 : Int32) <<< (nI (vN m) &&& 31) = nI (2 ^ vN m) from b1_pow _ (by omega), Option.bind_some]
  generalize hM3 : sI (sI (sI M 87 2 (nI (tN m))) 87 3 (nI (vN m))) 87 4 (nI (2 ^ vN m)) = M3
  have f3 : Fr [87, 88, 89] M M3 := by
    rw [← hM3]
    exact ((Fr.sI (by simp)).tr (Fr.sI (by simp))).tr (Fr.sI (by simp))
  have p2 : M3.1 87 2 = nI (tN m) := by rw [← hM3, sI_at, if_neg (by omega), sI_at, if_neg (by omega), sI_at, if_pos ⟨rfl, rfl⟩]
  have p3 : M3.1 87 3 = nI (vN m) := by rw [← hM3, sI_at, if_neg (by omega), sI_at, if_pos ⟨rfl, rfl⟩]
  have p4 : M3.1 87 4 = nI (2 ^ vN m) := by rw [← hM3, sI_at, if_pos ⟨rfl, rfl⟩]
  refine Tr.bind (Q := fun N => Fr [87, 88, 89] M N ∧ PC N (tN m) (vN m) (rgG LK m) (rmN m)) ?_ (fun N hN => Tr.some hN)
  refine lp0 (fun i (N : Mm) => (N, nI i)) (tN m) (fun i N => Fr [87, 88, 89] M N ∧ N.1 87 = M3.1 87 ∧ ∀ t, t < i → N.1 88 t = bset (rgG LK m t) (vN m) ∧ N.1 89 t = nI (rmN m t)) (by omega) M3 rfl ⟨f3, rfl, fun t ht => by omega⟩ (fun i N hi hP => ?_) (fun N hP => ?_)
  · obtain ⟨hF, h87, hP⟩ := hP
    show Tr (f_X5_take_L28 N q (nI i)) _
    have hMN : MR N q m := h.fr (fun j h1 h2 => (hF j (by simp; omega)).1)
    have hr := (hI.rm hi).1
    have o2 : ∀ y, f_X4_ofThing (sI N 88 i y) q (nI i) 2 = nI (rmN m i) := fun y => by
      have h2 : MR (sI N 88 i y) q m := hMN.fr (fun j h1 h2 => sI_fn (by omega))
      exact (ofT (c := 2) hk h2 (by omega) (by decide)).trans hr
    unfold f_X5_take_L28
    rw [show gI N 87 2 = nI (tN m) from by show N.1 87 2 = _; rw [h87]; exact p2, if_neg (by rw [nI_leI (by omega) (by omega)]; omega), a84 (by omega), p88 (by omega), Option.bind_some, o2, p89 (by omega), Option.bind_some, (hF 84 (by simp)).1, h84 i hi, clr_G, show nI i + 1 = nI (i + 1) from by rw [l_1, nI_add]]
    refine Tr.some (Or.inl ⟨_, rfl, (hF.tr (Fr.sI (by simp))).tr (Fr.sI (by simp)), ?_, fun t ht => ?_⟩)
    · rw [sI_fn (by decide), sI_fn (by decide)]; exact h87
    · rw [sI_at, sI_at, sI_at, sI_at]
      by_cases e : t = i
      · subst e; simp
      · simp [e, hP t (by omega)]
  · obtain ⟨hF, h87, hP⟩ := hP
    show Tr (f_X5_take_L28 N q (nI (tN m))) _
    unfold f_X5_take_L28
    rw [show gI N 87 2 = nI (tN m) from by show N.1 87 2 = _; rw [h87]; exact p2, if_pos (by rw [nI_leI (by omega) (by omega)]; omega)]
    exact Tr.some ⟨_, rfl, hF, by rw [h87]; exact p2, by rw [h87]; exact p3, by rw [h87]; exact p4, hP⟩
theorem pairC (HL : LSpec LR LK) (h : RR LR n Mc Mr) : Tr (f_X9_pairUp Mc) (fun N => KpC Mc N ∧ N.2.2 1 = Mc.2.2 1 ∧ N.2.2 3 = Mc.2.2 3 ∧ PC N (tN (Mr.1 110)) (vN (Mr.1 110)) (rgG LK (Mr.1 110)) (rmN (Mr.1 110))) := by
  obtain ⟨hk, hkL, hM, hI, hR⟩ := h.cur
  obtain ⟨N, w1, w2, w3, w4, w5, w6, w7⟩ := qwghC HL h
  obtain ⟨K, t1, t2, t3⟩ := takeC (LK := LK) hk w5 hI w7
  unfold f_X9_pairUp
  rw [Option.bind_some, show gR Mc 1 3 = Mc.2.2 1 3 from rfl, if_pos hk, Option.bind_some, show gR Mc 1 5 = Mc.2.2 1 5 from rfl, if_pos hkL, w1, Option.bind_some, Option.bind_some, show gR N 1 3 = Mc.2.2 1 3 from by show N.2.2 1 3 = _; rw [w3], if_pos hk, t1, Option.bind_some]
  refine Tr.some ⟨fun i h1 h2 h3 h4 h5 => ?_, by rw [(t2 1 (by simp)).2.2]; exact w3, by rw [(t2 3 (by simp)).2.2]; exact w4, t3⟩
  rw [(t2 i (by simp; omega)).1]
  exact w2 i h1 h2 h3 h4 h5
/-- the reference looks -/
def PR (N : Mm) (T V : Nat) (G : Nat → Nat → Bool) : Prop := ∀ v, v < V → N.1 121 v = bset (fun t => G t v) T
theorem looksR (HL : LSpec LR LK) (h : RR LR n Mc Mr) (x : Int32) : Tr (f_X10_looks (sI Mr 109 0 x)) (fun N => KpR Mr N ∧ N.1 109 0 = x ∧ N.1 110 = Mr.1 110 ∧ (∀ t v, t < tN (Mr.1 110) → v < vN (Mr.1 110) → N.1 116 (10 * t + v) = lkv LK (Mr.1 110) t v) ∧ PR N (tN (Mr.1 110)) (vN (Mr.1 110)) (rgG LK (Mr.1 110))) := by
  obtain ⟨hk, hkL, hM, hI, hR⟩ := h.cur
  obtain ⟨e4, hV⟩ := hI.v
  obtain ⟨N, a1, a2, a3, a4, a5⟩ := qasksR HL h x
  have i4 : ibs (4 : Int32) 807 = true := by decide
  unfold f_X10_looks
  rw [a1, Option.bind_some]
  refine Tr.bind (Q := fun K => Fr [121] N K ∧ PR K (tN (Mr.1 110)) (vN (Mr.1 110)) (rgG LK (Mr.1 110))) ?_ (fun K hK => Tr.some ?_)
  · refine lp0 (fun i (K : Mm) => (K, nI i)) (vN (Mr.1 110)) (fun i K => Fr [121] N K ∧ ∀ v, v < i → K.1 121 v = bset (fun t => rgG LK (Mr.1 110) t v) (tN (Mr.1 110))) (by omega) N rfl ⟨Fr.rf, fun v hv => by omega⟩ (fun i K hi hP => ?_) (fun K hP => ?_)
    · obtain ⟨hF, hP⟩ := hP
      show Tr (f_X10_looks_L6 K (nI i)) _
      have hK : K.1 110 = Mr.1 110 := by rw [(hF 110 (by simp)).1]; exact a4
      unfold f_X10_looks_L6
      rw [if_pos i4, show gA K 110 4 = nI (vN (Mr.1 110)) from by show K.1 110 4 = _; rw [hK]; exact e4, if_neg (by rw [nI_leI (by omega) (by omega)]; omega), ringingR hK hI (fun t v h1 h2 => by rw [(hF 116 (by simp)).1]; exact a5 t v h1 h2) hi, Option.bind_some, if_pos (ibs_nI (by omega) (by decide)), sA_nI (by omega), Option.bind_some, show nI i + 1 = nI (i + 1) from by rw [l_1, nI_add]]
      refine Tr.some (Or.inl ⟨_, rfl, hF.tr (Fr.sI (by simp)), fun v hv => ?_⟩)
      rw [sI_at]
      by_cases e : v = i
      · subst e; rw [if_pos ⟨rfl, rfl⟩]; rfl
      · rw [if_neg (by omega)]; exact hP v (by omega)
    · obtain ⟨hF, hP⟩ := hP
      show Tr (f_X10_looks_L6 K (nI (vN (Mr.1 110)))) _
      have hK : K.1 110 = Mr.1 110 := by rw [(hF 110 (by simp)).1]; exact a4
      unfold f_X10_looks_L6
      rw [if_pos i4, show gA K 110 4 = nI (vN (Mr.1 110)) from by show K.1 110 4 = _; rw [hK]; exact e4, if_pos (by rw [nI_leI (by omega) (by omega)]; omega)]
      exact Tr.some ⟨_, rfl, hF, hP⟩
  · obtain ⟨hF, hP⟩ := hK
    have e : K.1 110 = N.1 110 := (hF 110 (by simp)).1
    exact ⟨a2.tr (KpR.of2 (FrQ.of hF (by simp)) e (by simp) (by simp) (by simp)), by rw [(hF 109 (by simp)).1]; exact a3, e.trans a4, fun t v h1 h2 => by rw [(hF 116 (by simp)).1]; exact a5 t v h1 h2, hP⟩
/-! some, all -/
def anyB (p : Nat → Bool) (n : Nat) : Bool := iter (fun v b => b || p v) n false
theorem anyB_succ {p : Nat → Bool} {n : Nat} : anyB p (n + 1) = (anyB p n || p n) := rfl
theorem anyB_iff {p : Nat → Bool} : ∀ {n : Nat}, (anyB p n = true) ↔ ∃ v, v < n ∧ p v = true := by
  intro n
  induction n with
  | zero => exact ⟨(fun h => (nomatch h)), (fun ⟨v, h, _⟩ => absurd h (Nat.not_lt_zero v))⟩
  | succ n ih =>
    rw [anyB_succ, Bool.or_eq_true, ih]
    refine ⟨fun h => ?_, fun ⟨v, h1, h2⟩ => ?_⟩
    · rcases h with ⟨v, h1, h2⟩ | h
      · exact ⟨v, by omega, h2⟩
      · exact ⟨n, by omega, h⟩
    · by_cases e : v = n
      · subst e; exact Or.inr h2
      · exact Or.inl ⟨v, by omega, h2⟩
def allB (p : Nat → Bool) (n : Nat) : Bool := iter (fun v b => b && p v) n true
theorem allB_succ {p : Nat → Bool} {n : Nat} : allB p (n + 1) = (allB p n && p n) := rfl
theorem allB_iff {p : Nat → Bool} : ∀ {n : Nat}, (allB p n = true) ↔ ∀ v, v < n → p v = true := by
  intro n
  induction n with
  | zero => exact ⟨(fun _ v h => absurd h (Nat.not_lt_zero v)), (fun _ => rfl)⟩
  | succ n ih =>
    rw [allB_succ, Bool.and_eq_true, ih]
    refine ⟨fun ⟨h1, h2⟩ v hv => ?_, fun h => ⟨fun v hv => h v (by omega), h n (by omega)⟩⟩
    by_cases e : v = n
    · subst e; exact h2
    · exact h1 v (by omega)
theorem bt_nI {s i : Nat} (hi : i < 32) : bt (nI s) i = s.testBit i := by
  show (BitVec.ofNat 32 s).getLsbD i = _
  rw [BitVec.getLsbD_ofNat]
  simp [hi]
theorem z_bt {x : Int32} : (x = 0) ↔ ∀ i, i < 32 → bt x i = false := ⟨fun h i hi => by rw [h, b_0], fun h => b_ext (fun i hi => by rw [h i hi, b_0])⟩
theorem bset_and {p : Nat → Bool} {V s : Nat} (hV : V ≤ 31) : (bset p V &&& nI s = 0) = (anyB (fun v => p v && s.testBit v) V = false) := by
  refine propext ⟨fun h => ?_, fun h => z_bt.mpr (fun i hi => ?_)⟩
  · rw [Bool.eq_false_iff]
    intro hc
    obtain ⟨v, h1, h2⟩ := anyB_iff.mp hc
    have := z_bt.mp h v (by omega)
    rw [b_and, bt_bset (by omega) (by omega), bt_nI (by omega)] at this
    rw [Bool.and_eq_true] at h2
    simp [h1, h2.1, h2.2] at this
  · rw [b_and, bt_bset (by omega) hi, bt_nI hi]
    by_cases c : i < V
    · have : (p i && s.testBit i) = false := by
        rw [Bool.eq_false_iff]
        intro hc
        rw [anyB_iff.mpr ⟨i, c, hc⟩] at h
        cases h
      simpa [c] using this
    · simp [c]
theorem bset_z {p : Nat → Bool} {V : Nat} (hV : V ≤ 31) : (bset p V = 0) = (anyB p V = false) := by
  refine propext ((bset_0 (by omega)).trans ⟨fun h => ?_, fun h v hv => ?_⟩)
  · rw [Bool.eq_false_iff]
    intro hc
    obtain ⟨v, h1, h2⟩ := anyB_iff.mp hc
    rw [h v h1] at h2; cases h2
  · rw [Bool.eq_false_iff]
    intro hc
    rw [anyB_iff.mpr ⟨v, hv, hc⟩] at h
    cases h
/-- the things ring for some of these -/
def okB (T V : Nat) (G : Nat → Nat → Bool) (s : Nat) : Bool := allB (fun t => !(anyB (G t) V) || anyB (fun v => G t v && s.testBit v) V) T
theorem allForC (h : PC M T V G R) (hT : T ≤ 9) (hV : V ≤ 10) {s : Nat} : f_X5_ringAllFor M (nI s) = some (okB T V G s) := by
  obtain ⟨h2, h3, h4, h5⟩ := h
  unfold f_X5_ringAllFor
  have g2 : gI M 87 2 = nI T := h2
  have key := lpF (f := fun a_1 => f_X5_ringAllFor_L2 M (nI s) a_1) (fun t => !(!(anyB (G t) V) || anyB (fun v => G t v && s.testBit v) V)) (fun _ => false) T (by omega) (fun i hi hp => by
    show f_X5_ringAllFor_L2 M (nI s) (nI i) = _
    unfold f_X5_ringAllFor_L2
    rw [g2, if_neg (by rw [nI_leI (by omega) (by omega)]; omega), a88 (by omega), (h5 i hi).1, show nI i + 1 = nI (i + 1) from by rw [l_1, nI_add]]
    by_cases c1 : anyB (G i) V = false
    · rw [if_pos (by rw [bset_z (by omega)]; exact c1)]
    · rw [if_neg (by rw [bset_z (by omega)]; exact c1)]
      rw [Bool.not_eq_false] at c1
      have c2 : ¬ anyB (fun v => G i v && s.testBit v) V = false := fun e => by simp [c1, e] at hp
      rw [if_neg (by rw [bset_and (by omega)]; exact c2)]) (fun i hi hp => by
    show f_X5_ringAllFor_L2 M (nI s) (nI i) = _
    unfold f_X5_ringAllFor_L2
    rw [g2, if_neg (by rw [nI_leI (by omega) (by omega)]; omega), a88 (by omega), (h5 i hi).1]
    have c1 : ¬ anyB (G i) V = false := fun e => by simp [e] at hp
    have c2 : anyB (fun v => G i v && s.testBit v) V = false := by
      rw [Bool.eq_false_iff]
      intro e
      simp [e] at hp
    rw [if_neg (by rw [bset_z (by omega)]; exact c1), if_pos (by rw [bset_and (by omega)]; exact c2)]) (by
    show f_X5_ringAllFor_L2 M (nI s) (nI T) = _
    unfold f_X5_ringAllFor_L2
    rw [g2, if_pos (by rw [nI_leI (by omega) (by omega)]; omega)])
  have key : loop FU (fun a_1 => f_X5_ringAllFor_L2 M (nI s) a_1) 0 = _ := key
  rw [key, Option.bind_some]
  cases hf : fnd (fun t => !(!(anyB (G t) V) || anyB (fun v => G t v && s.testBit v) V)) T with
  | none =>
    show some true = _
    congr 1
    refine (allB_iff.mpr (fun t ht => ?_)).symm
    have := fnd_none hf ht
    cases hx : (!(anyB (G t) V) || anyB (fun v => G t v && s.testBit v) V) with
    | true => rfl
    | false => rw [hx] at this; cases this
  | some t =>
    obtain ⟨h6, h7⟩ := fnd_ok hf
    show some false = _
    congr 1
    refine (Bool.eq_false_iff.mpr (fun hc => ?_)).symm
    rw [allB_iff.mp hc t h6] at h7
    cases h7
/-- bits of things, joined for some visitors -/
theorem orR {c : Nat → Int32} {p : Nat → Bool} {i : Nat} : ∀ n, bt (iter (fun v x => if p v = true then x ||| c v else x) n 0) i = anyB (fun v => p v && bt (c v) i) n := by
  intro n
  induction n with
  | zero => exact b_0 i
  | succ n ih =>
    show bt (if p n = true then iter (fun v x => if p v = true then x ||| c v else x) n 0 ||| c n else iter (fun v x => if p v = true then x ||| c v else x) n 0) i = _
    rw [anyB_succ, ← ih]
    by_cases h : p n = true
    · rw [if_pos h, b_or, h, Bool.true_and]
    · rw [if_neg h, Bool.eq_false_iff.mpr h, Bool.false_and, Bool.or_false]
def orS (T V : Nat) (G : Nat → Nat → Bool) (p : Nat → Bool) : Int32 := iter (fun v x => if p v = true then x ||| bset (fun t => G t v) T else x) V 0
theorem orS_ok (hT : T ≤ 9) {s : Nat} : (orS T V G (fun v => s.testBit v) = orS T V G (fun _ => true)) = (okB T V G s = true) := by
  refine propext ⟨fun h => allB_iff.mpr (fun t ht => ?_), fun h => b_ext (fun t ht => ?_)⟩
  · have e : bt (orS T V G (fun v => s.testBit v)) t = bt (orS T V G (fun _ => true)) t := by rw [h]
    unfold orS at e
    rw [orR, orR] at e
    cases ha : anyB (G t) V with
    | false => rfl
    | true =>
      obtain ⟨v, h1, h2⟩ := anyB_iff.mp ha
      have e2 : anyB (fun v => true && bt (bset (fun t => G t v) T) t) V = true := anyB_iff.mpr ⟨v, h1, by rw [bt_bset (by omega) (by omega)]; simp [ht, h2]⟩
      rw [e2] at e
      obtain ⟨w, h3, h4⟩ := anyB_iff.mp e
      rw [bt_bset (by omega) (by omega)] at h4
      have : anyB (fun v => G t v && s.testBit v) V = true := anyB_iff.mpr ⟨w, h3, by simp [ht] at h4; simp [h4]⟩
      rw [this]; rfl
  · unfold orS
    rw [orR, orR]
    by_cases c : t < T
    · have h1 := allB_iff.mp h t c
      refine Bool.eq_iff_iff.mpr ⟨fun e => ?_, fun e => ?_⟩
      · obtain ⟨v, h2, h3⟩ := anyB_iff.mp e
        exact anyB_iff.mpr ⟨v, h2, by rw [Bool.and_eq_true] at h3; rw [h3.2]; rfl⟩
      · obtain ⟨v, h2, h3⟩ := anyB_iff.mp e
        rw [bt_bset (by omega) (by omega)] at h3
        have ha : anyB (G t) V = true := anyB_iff.mpr ⟨v, h2, by simp [c] at h3; exact h3⟩
        rw [ha] at h1
        have h1 : anyB (fun v => G t v && s.testBit v) V = true := by simpa using h1
        obtain ⟨w, h4, h5⟩ := anyB_iff.mp h1
        refine anyB_iff.mpr ⟨w, h4, ?_⟩
        rw [bt_bset (by omega) (by omega)]
        rw [Bool.and_eq_true] at h5
        simp [c, h5.1, h5.2]
    · have z : ∀ p : Nat → Bool, anyB (fun v => p v && bt (bset (fun t => G t v) T) t) V = false := fun p => by
        rw [Bool.eq_false_iff]
        intro e
        obtain ⟨v, h2, h3⟩ := anyB_iff.mp e
        rw [bt_bset (by omega) (by omega)] at h3
        simp [c] at h3
      rw [z, z]
/-- the fewest for all -/
def fwS (ok : Nat → Bool) (i : Nat) : Option Nat := iter (fun s o => match o with | none => if ok s = true then some s else none | some b => if pc b ≤ pc s then some b else if ok s = true then some s else some b) i none
theorem fwS_succ {ok : Nat → Bool} {i : Nat} : fwS ok (i + 1) = match fwS ok i with | none => if ok i = true then some i else none | some b => if pc b ≤ pc i then some b else if ok i = true then some i else some b := rfl
theorem fwS_lt {ok : Nat → Bool} : ∀ i s, fwS ok i = some s → s < i := by
  intro i
  induction i with
  | zero => intro s h; cases h
  | succ i ih =>
    intro s h
    rw [fwS_succ] at h
    cases ho : fwS ok i with
    | none =>
      rw [ho] at h
      have h : (if ok i = true then some i else none) = some s := h
      by_cases c : ok i = true
      · rw [if_pos c] at h; cases h; omega
      · rw [if_neg c] at h; cases h
    | some b =>
      have hb := ih b ho
      rw [ho] at h
      have h : (if pc b ≤ pc i then some b else if ok i = true then some i else some b) = some s := h
      by_cases d : pc b ≤ pc i
      · rw [if_pos d] at h; cases h; omega
      · rw [if_neg d] at h
        by_cases c : ok i = true
        · rw [if_pos c] at h; cases h; omega
        · rw [if_neg c] at h; cases h; omega
def fwB (ok : Nat → Bool) (F i : Nat) : Nat := iter (fun s b => if pc b ≤ pc s then b else if ok s = true then s else b) i F
theorem fwB_succ {ok : Nat → Bool} {F i : Nat} : fwB ok F (i + 1) = if pc (fwB ok F i) ≤ pc i then fwB ok F i else if ok i = true then i else fwB ok F i := rfl
theorem fwB_lt {ok : Nat → Bool} {F : Nat} (hF : F < 1024) : ∀ i, i ≤ 1024 → fwB ok F i < 1024 := by
  intro i
  induction i with
  | zero => intro _; exact hF
  | succ i ih =>
    intro hi
    have := ih (by omega)
    rw [fwB_succ]
    by_cases d : pc (fwB ok F i) ≤ pc i
    · rw [if_pos d]; exact this
    · rw [if_neg d]
      by_cases c : ok i = true
      · rw [if_pos c]; omega
      · rw [if_neg c]; exact this
theorem pcV : ∀ V, V < 11 → pc (2 ^ V - 1) = V ∧ ∀ s, s < 2 ^ V - 1 → pc s < V := by decide +kernel
theorem fw_eq {ok : Nat → Bool} (hV : V ≤ 10) (hok : ok (2 ^ V - 1) = true) : fwS ok (2 ^ V) = some (fwB ok (2 ^ V - 1) (2 ^ V)) := by
  obtain ⟨p1, p2⟩ := pcV V (by omega)
  have h2 : 0 < 2 ^ V := Nat.pow_pos (by decide)
  generalize hF : 2 ^ V - 1 = F at hok p1 p2
  have e : 2 ^ V = F + 1 := by omega
  rw [e]
  have inv : ∀ i, i ≤ F → fwB ok F i = (match fwS ok i with | none => F | some b => b) := by
    intro i
    induction i with
    | zero => intro _; rfl
    | succ i ih =>
      intro hi
      have ih := ih (by omega)
      rw [fwB_succ, fwS_succ, ih]
      cases ho : fwS ok i with
      | none =>
        show (if pc F ≤ pc i then F else if ok i = true then i else F) = _
        rw [if_neg (by have := p2 i (by omega); omega)]
        by_cases c : ok i = true
        · rw [if_pos c, if_pos c]
        · rw [if_neg c, if_neg c]
      | some b =>
        show (if pc b ≤ pc i then b else if ok i = true then i else b) = (match (if pc b ≤ pc i then some b else if ok i = true then some i else some b) with | none => F | some b => b)
        by_cases d : pc b ≤ pc i
        · rw [if_pos d, if_pos d]
        · rw [if_neg d, if_neg d]
          by_cases c : ok i = true
          · rw [if_pos c, if_pos c]
          · rw [if_neg c, if_neg c]
  have hF2 := inv F (Nat.le_refl _)
  rw [fwB_succ, fwS_succ, hF2]
  cases ho : fwS ok F with
  | none =>
    show (if ok F = true then some F else none) = some (if pc F ≤ pc F then F else if ok F = true then F else F)
    rw [if_pos hok, if_pos (Nat.le_refl _)]
  | some b =>
    have hb := fwS_lt F b ho
    have := p2 b hb
    show (if pc b ≤ pc F then some b else if ok F = true then some F else some b) = some (if pc b ≤ pc F then b else if ok F = true then F else b)
    rw [if_pos (by omega), if_pos (by omega)]
theorem fewC (h : PC M T V G R) (hT : T ≤ 9) (hV : V ≤ 10) : f_X5_fewestForAll M = some (nI (fwB (okB T V G) (2 ^ V - 1) (2 ^ V))) := by
  have h4 : gI M 87 4 = nI (2 ^ V) := h.2.2.1
  have h2 : 0 < 2 ^ V := Nat.pow_pos (by decide)
  have h3 : 2 ^ V ≤ 2 ^ 10 := Nat.pow_le_pow_right (by decide) hV
  have h3 : 2 ^ V ≤ 1024 := h3
  unfold f_X5_fewestForAll
  generalize hP : 2 ^ V = P at h4 h2 h3
  have hlt := fwB_lt (ok := okB T V G) (F := P - 1) (by omega)
  have : loop FU (fun a_4 => f_X5_fewestForAll_L9 M a_4.1 a_4.2) (gI M 87 4 - 1, 0) = some (nI (fwB (okB T V G) (P - 1) P)) := by
    refine (lp0 (Q := fun r : Int32 => r = nI (fwB (okB T V G) (P - 1) P)) (fun i (b : Nat) => (nI b, nI i)) P (fun i b => b = fwB (okB T V G) (P - 1) i) (by omega) (P - 1) (by rw [h4, l_1, nI_subI (by omega)]; rfl) rfl (fun s b hs hb => ?_) (fun b hb => ?_)).eq
    · have hb1 := hlt s (by omega)
      rw [← hb] at hb1
      have hss := fwB_succ (ok := okB T V G) (F := P - 1) (i := s)
      rw [← hb] at hss
      generalize fwB (okB T V G) (P - 1) (s + 1) = b2 at hss ⊢
      show Tr (f_X5_fewestForAll_L9 M (nI b) (nI s)) _
      have p1 := pc_le b
      have p2 := pc_le s
      unfold f_X5_fewestForAll_L9
      rw [h4, if_neg (by rw [nI_leI (by omega) (by omega)]; omega), bitC (by omega), Option.bind_some, bitC (by omega), Option.bind_some, show nI s + 1 = nI (s + 1) from by rw [l_1, nI_add], allForC h hT hV, Option.bind_some]
      by_cases d : pc b ≤ pc s
      · rw [if_pos d] at hss
        rw [if_pos (by rw [nI_leI (by omega) (by omega)]; exact d)]
        exact Tr.some (Or.inl ⟨b2, by rw [hss], rfl⟩)
      · rw [if_neg d] at hss
        rw [if_neg (by rw [nI_leI (by omega) (by omega)]; exact d)]
        by_cases c : okB T V G s = true
        · rw [if_pos c] at hss
          rw [if_pos c]
          exact Tr.some (Or.inl ⟨b2, by rw [hss], rfl⟩)
        · rw [if_neg c] at hss
          rw [if_neg c]
          exact Tr.some (Or.inl ⟨b2, by rw [hss], rfl⟩)
    · subst hb
      generalize fwB (okB T V G) (P - 1) P = b
      show Tr (f_X5_fewestForAll_L9 M (nI b) (nI P)) _
      unfold f_X5_fewestForAll_L9
      rw [h4, if_pos (by rw [nI_leI (by omega) (by omega)]; omega)]
      exact Tr.some ⟨_, rfl, rfl⟩
  rw [this]; rfl
theorem fewR (hm4 : M.1 110 4 = nI V) (h : PR M T V G) (hT : T ≤ 9) (hV : V ≤ 10) : Tr ((loop FU (fun a_3 => f_X10_fewest_L13 M a_3.1 a_3.2) (0, 0)).bind (fun e_3 => loop FU (fun a_7 => f_X10_fewest_L42 M e_3 a_7.1 a_7.2) ((-1), 0))) (fun r => r = oI (fwS (okB T V G) (2 ^ V))) := by
  have i4 : ibs (4 : Int32) 807 = true := by decide
  have g4 : gA M 110 4 = nI V := hm4
  have h2 : 0 < 2 ^ V := Nat.pow_pos (by decide)
  have h3 : 2 ^ V ≤ 2 ^ 10 := Nat.pow_le_pow_right (by decide) hV
  have h3 : 2 ^ V ≤ 1024 := h3
  have hp : (1 : Int32) <<< (nI V &&& 31) = nI (2 ^ V) := b1_pow _ (by omega)
  have gv : ∀ v, v < V → gA M 121 (nI v) = bset (fun t => G t v) T := fun v hv => by rw [gA_nI (by omega)]; exact h v hv
  have l1 : loop FU (fun a_3 => f_X10_fewest_L13 M a_3.1 a_3.2) (0, 0) = some (orS T V G (fun _ => true)) := by
    refine lpI (fun v (s : Int32) => (s, nI v)) V (fun v s => if true = true then s ||| bset (fun t => G t v) T else s) id (by omega) 0 rfl (fun v s hv => ?_) (fun s => ?_)
    · show f_X10_fewest_L13 M s (nI v) = _
      unfold f_X10_fewest_L13
      rw [if_pos i4, g4, if_neg (by rw [nI_leI (by omega) (by omega)]; omega), if_pos (ibs_nI (by omega) (by decide)), gv v hv, if_pos rfl, show nI v + 1 = nI (v + 1) from by rw [l_1, nI_add]]
    · show f_X10_fewest_L13 M s (nI V) = _
      unfold f_X10_fewest_L13
      rw [if_pos i4, g4, if_pos (by rw [nI_leI (by omega) (by omega)]; omega)]; rfl
  rw [l1, Option.bind_some]
  have J : ∀ s, s < 1024 → ∀ b : Int32, f_X10_fewest_J42_73 M (orS T V G (fun _ => true)) b (nI s) = if okB T V G s = true then some (.inl (nI s, nI (s + 1))) else some (.inl (b, nI (s + 1))) := fun s hs b => by
    have l2 : loop FU (fun a_4 => f_X10_fewest_L79 M (orS T V G (fun _ => true)) b (nI s) a_4.1 a_4.2) (0, 0) = some (orS T V G (fun v => s.testBit v)) := by
      refine lpI (fun v (s : Int32) => (s, nI v)) V (fun v x => if s.testBit v = true then x ||| bset (fun t => G t v) T else x) id (by omega) 0 rfl (fun v x hv => ?_) (fun x => ?_)
      · show f_X10_fewest_L79 M _ b (nI s) x (nI v) = _
        have hio : (f_X10_isOf M (nI s) (nI v) = true) = (s.testBit v = true) := by
          unfold f_X10_isOf
          have := bt_tst (x := nI s) (v := v) (by omega)
          rw [bt_nI (by omega)] at this
          by_cases c : s.testBit v = true
          · rw [if_pos (show ((nI s >>> (nI v &&& 31)) &&& 1 = 1) from this.mpr c), c]
          · rw [if_neg (show ¬ ((nI s >>> (nI v &&& 31)) &&& 1 = 1) from fun e => c (this.mp e))]
            simp [c]
        unfold f_X10_fewest_L79
        rw [if_pos i4, g4, if_neg (by rw [nI_leI (by omega) (by omega)]; omega), if_pos (ibs_nI (by omega) (by decide)), gv v hv, Int32.or_zero, show nI v + 1 = nI (v + 1) from by rw [l_1, nI_add]]
        by_cases c : s.testBit v = true
        · rw [if_pos (by rw [hio]; exact c), if_pos c]
        · rw [if_neg (by rw [hio]; exact c), if_neg c]
      · show f_X10_fewest_L79 M _ b (nI s) x (nI V) = _
        unfold f_X10_fewest_L79
        rw [if_pos i4, g4, if_pos (by rw [nI_leI (by omega) (by omega)]; omega)]; rfl
    unfold f_X10_fewest_J42_73
    rw [l2, Option.bind_some, show nI s + 1 = nI (s + 1) from by rw [l_1, nI_add]]
    by_cases c : okB T V G s = true
    · rw [if_pos (by rw [orS_ok hT]; exact c), if_pos c]
    · rw [if_neg (by rw [orS_ok hT]; exact c), if_neg c]
  generalize hP : 2 ^ V = P at h2 h3 hp
  refine lp0 (fun i (o : Option Nat) => (oI o, nI i)) P (fun i o => o = fwS (okB T V G) i) (by omega) none rfl rfl (fun s o hs ho => ?_) (fun o ho => ?_)
  · have hlt := fwS_lt (ok := okB T V G) s
    have hss := fwS_succ (ok := okB T V G) (i := s)
    rw [← ho] at hss hlt
    generalize fwS (okB T V G) (s + 1) = o2 at hss ⊢
    show Tr (f_X10_fewest_L42 M _ (oI o) (nI s)) _
    unfold f_X10_fewest_L42
    rw [if_pos i4, g4, hp, if_neg (by rw [nI_leI (by omega) (by omega)]; omega), J s (by omega), show nI s + 1 = nI (s + 1) from by rw [l_1, nI_add]]
    cases hoo : o with
    | none =>
      rw [hoo] at hss
      have hss : o2 = if okB T V G s = true then some s else none := hss
      rw [if_pos (show oI none = -1 from rfl)]
      by_cases c : okB T V G s = true
      · rw [if_pos c]; exact Tr.some (Or.inl ⟨o2, by rw [hss, if_pos c]; rfl, rfl⟩)
      · rw [if_neg c]; exact Tr.some (Or.inl ⟨o2, by rw [hss, if_neg c], rfl⟩)
    | some b =>
      rw [hoo] at hss
      have hb := hlt b hoo
      have hss : o2 = if pc b ≤ pc s then some b else if okB T V G s = true then some s else some b := hss
      have p1 := pc_le b
      have p2 := pc_le s
      rw [if_neg (show ¬ oI (some b) = -1 from by rw [oI, nI_ne_m1 (by omega)]; exact not_false), bitR, Option.bind_some, oI, bitR, Option.bind_some]
      by_cases d : pc b ≤ pc s
      · rw [if_pos d] at hss
        rw [if_neg (by rw [nI_ltI (by omega) (by omega)]; omega)]
        exact Tr.some (Or.inl ⟨o2, by rw [hss]; rfl, rfl⟩)
      · rw [if_neg d] at hss
        rw [if_pos (by rw [nI_ltI (by omega) (by omega)]; omega)]
        by_cases c : okB T V G s = true
        · rw [if_pos c] at hss
          rw [if_pos c]; exact Tr.some (Or.inl ⟨o2, by rw [hss]; rfl, rfl⟩)
        · rw [if_neg c] at hss
          rw [if_neg c]; exact Tr.some (Or.inl ⟨o2, by rw [hss]; rfl, rfl⟩)
  · subst ho
    generalize fwS (okB T V G) P = o
    show Tr (f_X10_fewest_L42 M _ (oI o) (nI P)) _
    unfold f_X10_fewest_L42
    rw [if_pos i4, g4, hp, if_pos (by rw [nI_leI (by omega) (by omega)]; omega)]
    exact Tr.some ⟨_, rfl, rfl⟩
theorem ok_full (hV : V ≤ 10) : okB T V G (2 ^ V - 1) = true := by
  refine allB_iff.mpr (fun t ht => ?_)
  cases ha : anyB (G t) V with
  | false => rfl
  | true =>
    obtain ⟨v, h1, h2⟩ := anyB_iff.mp ha
    have : anyB (fun v => G t v && (2 ^ V - 1).testBit v) V = true := anyB_iff.mpr ⟨v, h1, by rw [h2, Nat.testBit_two_pow_sub_one]; simp [h1]⟩
    rw [this]; rfl
theorem s_22 (HL : LSpec LR LK) (h : RR LR n Mc Mr) : ∃ Nc Nr, so_22 x1 x2 x3 x4 x5 Mc Mr Nc Nr ∧ RR LR (n + 1) Nc Nr := by
  obtain ⟨hk, hkL, hM, hI, hR⟩ := h.cur
  have hT := hI.t
  have hV := hI.v
  obtain ⟨N, c1, c2, c3, c4, c5⟩ := pairC HL h
  obtain ⟨K, d1, d2, d3, d4, d5, d6⟩ := looksR HL h 0
  obtain ⟨r, r1, r2⟩ := fewR (by rw [d4]; exact hV.1) d6 hT.2 hV.2
  rw [fw_eq hV.2 (ok_full hV.2)] at r2
  refine ⟨N, K, ⟨nI (fwB (okB (tN (Mr.1 110)) (vN (Mr.1 110)) (rgG LK (Mr.1 110))) (2 ^ vN (Mr.1 110) - 1) (2 ^ vN (Mr.1 110))), ?_, ?_⟩, RR_q HL h c2 ⟨c3, c4⟩ d2⟩
  · unfold f_X9_fewest
    rw [c1, Option.bind_some, fewC c5 hT.2 hV.2, Option.bind_some]
  · unfold f_X10_fewest
    rw [Option.bind_some, d1, Option.bind_some]
    cases h1 : loop FU (fun a_3 => f_X10_fewest_L13 K a_3.1 a_3.2) (0, 0) with
    | none => rw [h1] at r1; cases r1
    | some e =>
      rw [h1, Option.bind_some] at r1
      rw [Option.bind_some, r1, Option.bind_some, r2]; rfl
end PAIR
