/-! the reference reads a condition: letters, parts, sums -/
section LAWR
variable {tx : Nat → Int32} {e i j k r b N2 f c a : Nat} {M N K : Mm} {p p2 l2 : List Int32} {x T o s mk op : Int32} {P : Nat → Int32} {v v2 : Bool}
theorem lpV {σ ρ : Type} {f : σ → Option (σ ⊕ ρ)} (P : Nat → σ → Prop) {Q : ρ → Prop} (hs : ∀ m s, P m s → Tr (f s) (fun x => (∃ m' s', x = .inl s' ∧ P m' s' ∧ m' < m) ∨ ∃ r, x = .inr r ∧ Q r)) : ∀ k m s, m < k → P m s → Tr (loop k f s) Q := by
  intro k
  induction k with
  | zero => intro m s h; exact absurd h (Nat.not_lt_zero _)
  | succ k ih =>
    intro m s hk hP
    obtain ⟨x, h1, h2⟩ := hs m s hP
    rcases h2 with ⟨m', s', rfl, h3, h4⟩ | ⟨r, rfl, h3⟩
    · obtain ⟨r, h5, h6⟩ := ih m' s' (by omega) h3
      exact ⟨r, by rw [loop, h1]; exact h5, h6⟩
    · exact ⟨r, by rw [loop, h1]; rfl, h3⟩
theorem mkS_one {n s : Nat} (h : mkS tx r (n + 1) = some s) : ∃ b s', mkS tx r n = some s' ∧ s'.testBit b = false ∧ s = s' ||| 2 ^ b := by
  rw [mkS_succ] at h
  cases hm : mkS tx r n with
  | none => rw [hm] at h; exact nomatch h
  | some s' =>
    rw [hm] at h
    have h : (if 6 ≤ (tx (r + n)).toNatClampNeg - 97 ∨ s'.testBit ((tx (r + n)).toNatClampNeg - 97) = true then none else some (s' ||| 2 ^ ((tx (r + n)).toNatClampNeg - 97))) = some s := h
    by_cases c : 6 ≤ (tx (r + n)).toNatClampNeg - 97 ∨ s'.testBit ((tx (r + n)).toNatClampNeg - 97) = true
    · rw [if_pos c] at h; exact nomatch h
    · rw [if_neg c] at h
      cases h
      exact ⟨_, s', rfl, Bool.eq_false_iff.mpr (fun h => c (Or.inr h)), rfl⟩
theorem or_bit (s b : Nat) : (s ||| 2 ^ b).testBit b = true := by rw [Nat.testBit_or, Nat.testBit_two_pow_self, Bool.or_true]
theorem mkS_two {n : Nat} (h : mkS tx r (n + 2) = some (2 ^ k)) : False := by
  obtain ⟨b, s, h1, h2, h3⟩ := mkS_one h
  obtain ⟨b2, s2, h4, h5, h6⟩ := mkS_one h1
  have t1 : (2 ^ k).testBit b = true := by rw [h3]; exact or_bit s b
  have t2 : (2 ^ k).testBit b2 = true := by rw [h3, Nat.testBit_or, h6, or_bit, Bool.true_or]
  rw [Nat.testBit_two_pow] at t1 t2
  have e1 := of_decide_eq_true t1
  have e2 := of_decide_eq_true t2
  have : s.testBit b = true := by rw [← e1, e2, h6]; exact or_bit s2 b2
  rw [h2] at this
  exact nomatch this
theorem str_let : ∀ k, k < 6 → str (423 + k) = [nI (97 + k)] ∧ mkT (nI (97 + k)) (some 0) = some (2 ^ k) ∧ fnd (fun c => decide (nI (2 ^ k) = nI (2 ^ c))) 6 = some k ∧ 2 ^ k < 64 := by decide +kernel
theorem pw_uq : ∀ a, a < 6 → ∀ b, b < 6 → 0 ||| 2 ^ a = 2 ^ b → a = b := by decide +kernel
theorem mkK_ok (h : mkK tx e i = some k) : k < 6 ∧ wdT tx e i = 329 ∧ vl tx e i = nI (2 ^ k) := by
  unfold mkK at h
  by_cases c : wdT tx e i = 329
  · rw [if_pos c] at h
    obtain ⟨h1, h2⟩ := fnd_ok h
    exact ⟨h1, c, of_decide_eq_true h2⟩
  · rw [if_neg c] at h; exact nomatch h
theorem lettT (h : TxR M tx e) (ha : AtR M tx e i) (hk : k < 6) : ∃ a, a ≤ e ∧ f_X10_says M (423 + k) = some (decide (mkK tx e i = some k), sAt M a) ∧ AtR (sAt M a) tx e (if decide (mkK tx e i = some k) = true then i + 1 else i) ∧ (decide (mkK tx e i = some k) = false → a = bg tx e i) := by
  have he := h.1
  obtain ⟨a, a1, a2, a3⟩ := ha
  have hb := bg_le (tx := tx) he i
  obtain ⟨s1, s2, s3, s4⟩ := str_let k hk
  have key := saysR h a1 a2 (q := 423 + k) (by rw [show 423 + k = 400 + (23 + k) by omega]; exact iT (by omega))
  rw [a3, s1] at key
  have hiff : (samW tx (bg tx e i) (lrE tx e (bg tx e i)) [nI (97 + k)] = true) ↔ mkK tx e i = some k := by
    rw [samW_iff]
    refine ⟨fun ⟨g1, g2⟩ => ?_, fun g => ?_⟩
    · have g1 : 1 = lrE tx e (bg tx e i) - bg tx e i := g1
      have g2 : tx (bg tx e i) = nI (97 + k) := g2 0 (by simp)
      rcases wd_cases (tx := tx) he (bg tx e i) with ⟨d1, d2, d3, d4, d5⟩ | ⟨d1, d2, d3, d4, d5, d6⟩ | ⟨d1, d2, d3, d4, d5, d6, d7⟩ | ⟨d1, d2, d3, d4, d5, d6, d7⟩
      · omega
      · have m1 : mkS tx (bg tx e i) (lrE tx e (bg tx e i) - bg tx e i) = some (2 ^ k) := by
          rw [← g1, show (1 : Nat) = 0 + 1 from rfl, mkS_T, Nat.add_zero, g2]; exact s2
        have m2 : wdT tx e i = 329 := d4.trans (mk_spl d2 d3 (by rw [m1]; exact fun h => nomatch h))
        have m3 : vl tx e i = nI (2 ^ k) := d5.trans (by rw [m1]; rfl)
        unfold mkK
        rw [if_pos m2, m3]
        exact s3
      · omega
      · omega
    · obtain ⟨g1, g2, g3⟩ := mkK_ok g
      have hne : vl tx e i ≠ -1 := by rw [g3, Ne, nI_ne_m1 (by omega)]; exact not_false
      obtain ⟨q1, q2, q3⟩ := (wd_mks (tx := tx) he (bg tx e i)).mpr ⟨g2, hne⟩
      rcases wd_cases (tx := tx) he (bg tx e i) with ⟨d1, d2, d3, d4, d5⟩ | ⟨d1, d2, d3, d4, d5, d6⟩ | ⟨d1, d2, d3, d4, d5, d6, d7⟩ | ⟨d1, d2, d3, d4, d5, d6, d7⟩
      · omega
      · have hlt := mkS_lt (tx := tx) (p := bg tx e i) (lrE tx e (bg tx e i) - bg tx e i)
        have hv : oI (mkS tx (bg tx e i) (lrE tx e (bg tx e i) - bg tx e i)) = nI (2 ^ k) := d5.symm.trans g3
        cases hm : mkS tx (bg tx e i) (lrE tx e (bg tx e i) - bg tx e i) with
        | none => exact absurd hm q3
        | some s =>
          have hs := hlt s hm
          rw [hm, oI, nI_eq (by omega) (by omega)] at hv
          rw [hv] at hm
          have hL : lrE tx e (bg tx e i) - bg tx e i = 1 := by
            refine Classical.byContradiction (fun hc => ?_)
            rw [show lrE tx e (bg tx e i) - bg tx e i = (lrE tx e (bg tx e i) - bg tx e i - 2) + 2 by omega] at hm
            exact mkS_two hm
          refine ⟨hL.symm, fun k2 hk2 => ?_⟩
          have hk2 : k2 < 1 := hk2
          obtain rfl : k2 = 0 := by omega
          obtain ⟨z1, z2, z3⟩ := lt_nat (h.2.2.2 _ d1) d2
          rw [hL, show (1 : Nat) = 0 + 1 from rfl, mkS_T, Nat.add_zero] at hm
          have hm : (if 6 ≤ (tx (bg tx e i)).toNatClampNeg - 97 ∨ Nat.testBit 0 ((tx (bg tx e i)).toNatClampNeg - 97) = true then none else some (0 ||| 2 ^ ((tx (bg tx e i)).toNatClampNeg - 97))) = some (2 ^ k) := hm
          by_cases c : 6 ≤ (tx (bg tx e i)).toNatClampNeg - 97 ∨ Nat.testBit 0 ((tx (bg tx e i)).toNatClampNeg - 97) = true
          · rw [if_pos c] at hm; exact nomatch hm
          · rw [if_neg c] at hm
            have := pw_uq _ (by omega) k hk (Option.some.inj hm)
            show tx (bg tx e i + 0) = nI (97 + k)
            rw [Nat.add_zero]
            exact z1.trans (by rw [show (tx (bg tx e i)).toNatClampNeg = 97 + k by omega])
      · rw [q2] at d2; exact nomatch d2
      · rw [q2] at d2; exact nomatch d2
  by_cases c : mkK tx e i = some k
  · have c2 := hiff.mpr c
    have hw : wdT tx e i = 329 := (mkK_ok c).2.1
    rw [c2, if_pos rfl] at key
    rw [decide_eq_true c, if_pos rfl]
    have hsm := (samW_iff.mp c2).1
    have hsm : 1 = lrE tx e (bg tx e i) - bg tx e i := hsm
    have htk : tkE tx e (bg tx e i) = lrE tx e (bg tx e i) := by
      rcases wd_cases (tx := tx) he (bg tx e i) with ⟨d1, d2, d3, d4, d5⟩ | ⟨d1, d2, d3, d4, d5, d6⟩ | ⟨d1, d2, d3, d4, d5, d6, d7⟩ | ⟨d1, d2, d3, d4, d5, d6, d7⟩
      · omega
      · exact d6
      · omega
      · omega
    have hle := tkE_le (tx := tx) he hb
    rw [htk] at hle
    exact ⟨_, hle, key, AtR.of he hle (sk_next htk), fun hc => nomatch hc⟩
  · have c2 : samW tx (bg tx e i) (lrE tx e (bg tx e i)) [nI (97 + k)] = false := Bool.eq_false_iff.mpr (fun hc => c (hiff.mp hc))
    rw [c2, if_neg (by decide)] at key
    rw [decide_eq_false c, if_neg (by decide)]
    exact ⟨_, hb, key, AtR.of he hb (sk_bg he i), fun _ => rfl⟩
/-- six words, one behind another -/
def ch6 {α : Type} (F : Mm → Int32 → Option α) (q : Nat) : Nat → Nat → Mm → Option α
  | 0, _, M => F M (-1)
  | n + 1, c, M => (f_X10_says M (q + c)).bind (fun rr => if rr.1 = true then F rr.2 (nI c) else ch6 F q n (c + 1) rr.2)
theorem ch6T {α : Type} {F : Mm → Int32 → Option α} {q : Nat} {D : Nat → Bool} (he : e ≤ 400) (hD : ∀ c, c < 6 → ∀ N, TxR N tx e → AtR N tx e i → ∃ a, a ≤ e ∧ f_X10_says N (q + c) = some (D c, sAt N a) ∧ AtR (sAt N a) tx e (if D c = true then i + 1 else i) ∧ (D c = false → a = bg tx e i)) : ∀ n c, n + c = 6 → ∀ N, TxR N tx e → AtR N tx e i → N.1 109 11 = nI (bg tx e i) → (∃ d a, d < 6 ∧ a ≤ e ∧ D d = true ∧ ch6 F q n c N = F (sAt N a) (nI d) ∧ AtR (sAt N a) tx e (i + 1)) ∨ ((∀ d, c ≤ d → d < 6 → D d = false) ∧ ch6 F q n c N = F (sAt N (bg tx e i)) (-1)) := by
  intro n
  induction n with
  | zero =>
    intro c hc N hx ha h11
    refine Or.inr ⟨fun d h1 h2 => by omega, ?_⟩
    rw [ch6, sAt, sI_self h11]
  | succ n ih =>
    intro c hc N hx ha h11
    obtain ⟨a, a1, a2, a3, a4⟩ := hD c (by omega) N hx ha
    rw [ch6, a2, Option.bind_some]
    by_cases d : D c = true
    · rw [if_pos d] at a3
      rw [if_pos d]
      exact Or.inl ⟨c, a, by omega, a1, d, rfl, a3⟩
    · rw [if_neg d] at a3
      rw [if_neg d]
      have e4 := a4 (Bool.eq_false_iff.mpr d)
      rcases ih (c + 1) (by omega) (sAt N a) hx.at a3 (by rw [e4]; exact at_sAt) with ⟨d2, a', g1, g2, g3, g4, g5⟩ | ⟨g1, g2⟩
      · rw [sAt_sAt] at g4 g5
        exact Or.inl ⟨d2, a', g1, g2, g3, g4, g5⟩
      · rw [sAt_sAt] at g2
        refine Or.inr ⟨fun d2 h1 h2 => ?_, g2⟩
        by_cases q : d2 = c
        · rw [q]; exact Bool.eq_false_iff.mpr d
        · exact g1 d2 (by omega) h2
theorem ch6_U {α : Type} {F : Mm → Int32 → Option α} {q : Nat} {D : Nat → Bool} (hx : TxR M tx e) (ha : AtR M tx e i) (hD : ∀ c, c < 6 → ∀ N, TxR N tx e → AtR N tx e i → ∃ a, a ≤ e ∧ f_X10_says N (q + c) = some (D c, sAt N a) ∧ AtR (sAt N a) tx e (if D c = true then i + 1 else i) ∧ (D c = false → a = bg tx e i)) : (∃ d a, d < 6 ∧ a ≤ e ∧ D d = true ∧ ch6 F q 6 0 M = F (sAt M a) (nI d) ∧ AtR (sAt M a) tx e (i + 1)) ∨ ((∀ d, d < 6 → D d = false) ∧ ch6 F q 6 0 M = F (sAt M (bg tx e i)) (-1)) := by
  have he := hx.1
  obtain ⟨a, a1, a2, a3, a4⟩ := hD 0 (by decide) M hx ha
  rw [ch6, a2, Option.bind_some]
  by_cases d : D 0 = true
  · rw [if_pos d] at a3
    rw [if_pos d]
    exact Or.inl ⟨0, a, by omega, a1, d, rfl, a3⟩
  · rw [if_neg d] at a3
    rw [if_neg d]
    have e4 := a4 (Bool.eq_false_iff.mpr d)
    rcases ch6T (F := F) he hD 5 1 rfl (sAt M a) hx.at a3 (by rw [e4]; exact at_sAt) with ⟨d2, a', g1, g2, g3, g4, g5⟩ | ⟨g1, g2⟩
    · rw [sAt_sAt] at g4 g5
      exact Or.inl ⟨d2, a', g1, g2, g3, g4, g5⟩
    · rw [sAt_sAt] at g2
      refine Or.inr ⟨fun d2 h1 => ?_, g2⟩
      by_cases q : d2 = 0
      · rw [q]; exact Bool.eq_false_iff.mpr d
      · exact g1 d2 (by omega) h1
theorem s_prt : ∀ k, k < 6 → str (429 + k) = sw1 (16 + k) := by decide +kernel
theorem s_law : str 418 = sw1 9 ∧ str 419 = sw1 10 ∧ str 420 = sw1 11 ∧ str 421 = sw1 12 ∧ str 422 = sw1 13 ∧ str 435 = sw1 14 ∧ str 436 = sw1 15 ∧ (43 : Int32) = (sw1 27).getD 0 0 ∧ (60 : Int32) = (sw1 25).getD 0 0 ∧ (62 : Int32) = (sw1 26).getD 0 0 ∧ (40 : Int32) = (sw1 23).getD 0 0 ∧ (41 : Int32) = (sw1 24).getD 0 0 := by decide +kernel
theorem J52_ch : f_X10_part_J52 M = ch6 f_X10_part_J131 429 6 0 M := rfl
theorem plain_ch : f_X10_plain M = ch6 f_X10_plain_J79 423 6 0 M := rfl
/-- what the reference knows of thing, visitor and day -/
def Evn (P : Nat → Int32) (mk : Int32) (N : Mm) : Prop := (∀ k, k < 6 → N.1 115 k = P k) ∧ N.1 109 16 = mk
theorem Evn.s9 (h : Evn P mk N) (hc : c ≠ 16) : Evn P mk (sI N 109 c x) := ⟨fun k hk => by rw [sI_fn (by decide)]; exact h.1 k hk, by rw [sI_at, if_neg (by omega)]; exact h.2⟩
theorem partR (h : TxR M tx e) (hf : M.1 109 12 = -1) (ha : AtR M tx e i) (hP : Evn P mk M) : (opA tx e i ≠ -1 → ∃ a, a ≤ e ∧ f_X10_part M = some (pv P (opA tx e i), sAt M a) ∧ AtR (sAt M a) tx e (i + 1)) ∧ (opA tx e i = -1 → ∃ x a, a ≤ e ∧ f_X10_part M = some (x, sI (sAt M a) 109 12 (nI (bg tx e i)))) := by
  have he := h.1
  have hb := bg_le (tx := tx) he i
  obtain ⟨pl, pa⟩ := placeT h ha
  have fA : (sAt M (bg tx e i)).1 109 12 = -1 := (sAt_ne (by decide)).trans hf
  have hxA : TxR (sAt M (bg tx e i)) tx e := h.at
  have gA11 : gI (sAt M (bg tx e i)) 109 11 = nI (bg tx e i) := at_sAt
  have gA10 : gI (sAt M (bg tx e i)) 109 10 = nI e := (sAt_ne (by decide)).trans h.2.1
  have hPA : Evn P mk (sAt M (bg tx e i)) := hP.s9 (by decide)
  unfold f_X10_part
  rw [show gI M 109 12 = -1 from hf, if_pos rfl, pl, Option.bind_some, gA11, gA10]
  -- behind: the six words
  have six : wdT tx e i ≠ 328 → (opA tx e i ≠ -1 → ∃ a, a ≤ e ∧ f_X10_part_J52 (sAt M (bg tx e i)) = some (pv P (opA tx e i), sAt M a) ∧ AtR (sAt M a) tx e (i + 1)) ∧ (opA tx e i = -1 → ∃ x a, a ≤ e ∧ f_X10_part_J52 (sAt M (bg tx e i)) = some (x, sI (sAt M a) 109 12 (nI (bg tx e i)))) := fun hn => by
    have hop : opA tx e i = if ptq (wdT tx e i) = -1 then -1 else 1000 + ptq (wdT tx e i) := by
      unfold opA
      rw [if_neg (show ¬ (wdT tx e i = 328 ∧ ¬ vl tx e i < 0 ∧ ¬ 999 < vl tx e i) from fun h => hn h.1)]
    obtain ⟨w, w1, w2⟩ := wd_31 (tx := tx) (e := e) (i := i)
    rcases ch6_U (F := f_X10_part_J131) (q := 429) (D := fun c => decide (wdT tx e i = 316 + c)) hxA pa (fun c hc N hx2 ha2 => by
      obtain ⟨a, a1, a2, a3, a4⟩ := saysT hx2 ha2 (j := 16 + c) (by omega) (q := 429 + c) (by rw [show 429 + c = 400 + (29 + c) by omega]; exact iT (by omega)) (s_prt c hc)
      rw [show 300 + (16 + c) = 316 + c by omega] at a2 a3 a4
      refine ⟨a, a1, a2, ?_, fun hd => a4 (of_decide_eq_false hd)⟩
      by_cases d : wdT tx e i = 316 + c
      · rw [if_pos d] at a3; rw [decide_eq_true d, if_pos rfl]; exact a3
      · rw [if_neg d] at a3; rw [decide_eq_false d, if_neg (by decide)]; exact a3) with ⟨d, a, g1, g2, g3, g4, g5⟩ | ⟨g1, g2⟩
    · rw [sAt_sAt] at g4 g5
      have hd := of_decide_eq_true g3
      have hpt : ptq (wdT tx e i) = nI d := by
        rcases ptq_all (16 + d) (by omega) with ⟨q1, q2⟩ | ⟨q1, q2, q3⟩
        · omega
        · rw [hd, show 316 + d = 300 + (16 + d) by omega, q3, Nat.add_sub_cancel_left]
      rw [hpt, if_neg (by rw [nI_ne_m1 (by omega)]; exact not_false), show (1000 : Int32) = nI 1000 from rfl, nI_add] at hop
      rw [J52_ch, g4, hop]
      refine ⟨fun _ => ⟨a, g2, ?_, g5⟩, fun hh => ?_⟩
      · unfold f_X10_part_J131
        rw [if_neg (by rw [nI_ne_m1 (by omega)]; exact not_false), if_pos (ibs_nI g1 (by decide)), gA_nI (by omega)]
        have e1 : (sAt M a).1 115 d = P d := (congrFun (sAt_fn (by decide)) d).trans (hP.1 d g1)
        rw [e1]
        unfold pv
        rw [show (1000 : Int32) = nI 1000 from rfl, if_pos (by rw [nI_leI (by decide) (by omega)]; omega), nI_subI (by omega), Nat.add_sub_cancel_left, nI_clamp (by omega)]
      · rw [nI_ne_m1 (by omega)] at hh; exact hh.elim
    · rw [sAt_sAt] at g2
      have hpt : ptq (wdT tx e i) = -1 := by
        rcases ptq_all w w1 with ⟨q1, q2⟩ | ⟨q1, q2, q3⟩
        · rw [w2]; exact q1
        · exact absurd (show wdT tx e i = 316 + (w - 16) by omega) (of_decide_eq_false (g1 (w - 16) (by omega)))
      rw [hpt, if_pos rfl] at hop
      refine ⟨fun hh => absurd hop hh, fun _ => ⟨0, bg tx e i, hb, ?_⟩⟩
      rw [J52_ch, g2]
      unfold f_X10_part_J131
      rw [if_pos rfl, gA11, wrongR fA, Option.bind_some]
  by_cases c : e ≤ bg tx e i
  · rw [if_pos (by rw [nI_leI (by omega) (by omega)]; exact c)]
    exact six (by rw [(wd330 he).mpr (by omega)]; decide)
  · rw [if_neg (by rw [nI_leI (by omega) (by omega)]; exact c), letR hxA (by omega), Option.bind_some]
    by_cases d : f_X10_isIn (sAt M (bg tx e i)) (tx (bg tx e i)) 48 57 = true
    · rw [if_pos d]
      have hdg : dgC (tx (bg tx e i)) = true := d
      have hlt : ltC (tx (bg tx e i)) = false := by
        obtain ⟨z1, z2, z3⟩ := dg_nat (h.2.2.2 _ (by omega)) hdg
        unfold ltC
        rw [z1, if_pos (by rw [show (97 : Int32) = nI 97 from rfl, nI_ltI (by omega) (by decide)]; omega)]
      have hw : wdT tx e i = 328 := by
        show wdP tx e (bg tx e i) = 328
        unfold wdP
        rw [if_neg c, hlt, if_neg (by decide), hdg, if_pos rfl]
      have hop : opA tx e i = if wdT tx e i = 328 ∧ ¬ vl tx e i < 0 ∧ ¬ 999 < vl tx e i then vl tx e i else -1 := by
        unfold opA
        rw [hw, if_pos (by decide)]
      obtain ⟨k1, k2⟩ := figT (lo := 0) (hi := 999) hxA fA pa (by decide)
      by_cases g : wdT tx e i = 328 ∧ ¬ vl tx e i < 0 ∧ ¬ 999 < vl tx e i
      · rw [if_pos g] at hop
        obtain ⟨a, a1, a2, a3⟩ := k1 g
        rw [sAt_sAt] at a2 a3
        obtain ⟨z, z1, z2⟩ := idx_of (x := vl tx e i) (n := 1000) (by decide) g.2.1 (fun hh => g.2.2 (Int32.lt_of_lt_of_le (by decide) hh))
        refine ⟨fun _ => ⟨a, a1, ?_, a3⟩, fun hh => ?_⟩
        · rw [a2, Option.bind_some, hop]
          unfold pv
          rw [z2, if_neg (by rw [show (1000 : Int32) = nI 1000 from rfl, nI_leI (by decide) (by omega)]; omega)]
        · rw [hop, z2, nI_ne_m1 (by omega)] at hh; exact hh.elim
      · rw [if_neg g] at hop
        obtain ⟨x, a, a1, a2⟩ := k2 g
        rw [sAt_sAt] at a2
        refine ⟨fun hh => absurd hop hh, fun _ => ⟨x, a, a1, ?_⟩⟩
        rw [a2, Option.bind_some]
    · rw [if_neg d]
      refine six (fun hw => ?_)
      rcases wd_cases (tx := tx) he (bg tx e i) with ⟨d1, d2, d3, d4, d5⟩ | ⟨d1, d2, d3, d4, d5, d6⟩ | ⟨d1, d2, d3, d4, d5, d6, d7⟩ | ⟨d1, d2, d3, d4, d5, d6, d7⟩
      · omega
      · exact (spl_n328 d3).1 (d4.symm.trans hw)
      · exact d d3
      · exact (spl_n328 (by omega)).1 (d4.symm.trans hw)
end LAWR
