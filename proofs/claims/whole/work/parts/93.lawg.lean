/-! a condition of the law: grammar, and the machine with a stack -/
section LAWG
variable {tx : Nat → Int32} {e i j k r b : Nat} {p out st : List Int32} {x : Int32} {R : Nat ⊕ (List Int32 × Nat)}
abbrev GP : Type := Nat ⊕ (List Int32 × Nat)
def opA (tx : Nat → Int32) (e i : Nat) : Int32 := if ptq (wdT tx e i) = -1 then (if wdT tx e i = 328 ∧ ¬ vl tx e i < 0 ∧ ¬ 999 < vl tx e i then vl tx e i else -1) else 1000 + ptq (wdT tx e i)
def suP (tx : Nat → Int32) (e : Nat) : Nat → List Int32 → Nat → GP
  | 0, _, i => .inl i
  | k + 1, p, i => if opA tx e i = -1 then .inl i else if wdT tx e (i + 1) = 327 then suP tx e k (p ++ [opA tx e i]) (i + 2) else .inr (p ++ [opA tx e i], i + 1)
def mkK (tx : Nat → Int32) (e i : Nat) : Option Nat := if wdT tx e i = 329 then fnd (fun k => decide (vl tx e i = nI (2 ^ k))) 6 else none
def cm2 (p : List Int32) (w : Nat) (j : Nat) (G : GP) : GP := if w = 325 ∨ w = 326 then (match G with | .inl b => .inl b | .inr (p2, j2) => .inr (p ++ [1020] ++ p2 ++ [if w = 325 then 1021 else 1022], j2)) else .inl j
def cmP (tx : Nat → Int32) (e i : Nat) : GP := match suP tx e 400 [] i with
  | .inl b => .inl b
  | .inr (p, j) => cm2 p (wdT tx e j) j (suP tx e 400 [] (j + 1))
def plP (tx : Nat → Int32) (e i : Nat) : GP := match mkK tx e i with
  | some k => .inr ([nI (1010 + k)], i + 1)
  | none => cmP tx e i
def chL (tx : Nat → Int32) (e : Nat) (sub : Nat → GP) (w : Nat) (op : Int32) : Nat → List Int32 → Nat → GP
  | 0, p, j => .inr (p, j)
  | k + 1, p, j => if wdT tx e j = w then (match sub (j + 1) with | .inl b => .inl b | .inr (p2, j2) => chL tx e sub w op k (p ++ p2 ++ [op]) j2) else .inr (p, j)
def chP (tx : Nat → Int32) (e : Nat) (sub : Nat → GP) (w : Nat) (op : Int32) (i : Nat) : GP := match sub i with
  | .inl b => .inl b
  | .inr (p, j) => chL tx e sub w op 401 p j
def soP (tx : Nat → Int32) (e : Nat) (sub : Nat → GP) (i : Nat) : GP := chP tx e (chP tx e sub 314 1024) 315 1025 i
def atP (tx : Nat → Int32) (e : Nat) : Nat → Nat → GP
  | 0, i => if wdT tx e i = 313 ∨ wdT tx e i = 323 then .inl i else plP tx e i
  | r + 1, i => if wdT tx e i = 313 then (match atP tx e r (i + 1) with | .inl b => .inl b | .inr (p, j) => .inr (p ++ [1023], j)) else if wdT tx e i = 323 then (match soP tx e (atP tx e r) (i + 1) with | .inl b => .inl b | .inr (p, j) => if wdT tx e j = 324 then .inr (p, j + 1) else .inl j) else plP tx e i
def coP (tx : Nat → Int32) (e i : Nat) : GP := soP tx e (atP tx e 6) i
-- how far
theorem suP_gt : ∀ k p i q j, suP tx e k p i = .inr (q, j) → i < j := by
  intro k
  induction k with
  | zero => intro p i q j h; exact nomatch h
  | succ k ih =>
    intro p i q j h
    unfold suP at h
    by_cases c : opA tx e i = -1
    · rw [if_pos c] at h; exact nomatch h
    · rw [if_neg c] at h
      by_cases d : wdT tx e (i + 1) = 327
      · rw [if_pos d] at h; have := ih _ _ _ _ h; omega
      · rw [if_neg d] at h; cases h; omega
theorem plP_gt (h : plP tx e i = .inr (p, j)) : i < j := by
  unfold plP at h
  cases hm : mkK tx e i with
  | some k => rw [hm] at h; cases h; omega
  | none =>
    rw [hm] at h
    have h : cmP tx e i = .inr (p, j) := h
    unfold cmP at h
    cases hs : suP tx e 400 [] i with
    | inl b => rw [hs] at h; exact nomatch h
    | inr o =>
      obtain ⟨q, k⟩ := o
      have h1 := suP_gt _ _ _ _ _ hs
      rw [hs] at h
      have h : cm2 q (wdT tx e k) k (suP tx e 400 [] (k + 1)) = .inr (p, j) := h
      unfold cm2 at h
      by_cases c : wdT tx e k = 325 ∨ wdT tx e k = 326
      · rw [if_pos c] at h
        cases hs2 : suP tx e 400 [] (k + 1) with
        | inl b => rw [hs2] at h; exact nomatch h
        | inr o =>
          obtain ⟨q2, k2⟩ := o
          have h2 := suP_gt _ _ _ _ _ hs2
          rw [hs2] at h; cases h; omega
      · rw [if_neg c] at h; exact nomatch h
theorem chL_ge {sub : Nat → GP} {w : Nat} {op : Int32} (hs : ∀ i p j, sub i = .inr (p, j) → i < j) : ∀ k p j q j2, chL tx e sub w op k p j = .inr (q, j2) → j ≤ j2 := by
  intro k
  induction k with
  | zero => intro p j q j2 h; cases h; omega
  | succ k ih =>
    intro p j q j2 h
    unfold chL at h
    by_cases c : wdT tx e j = w
    · rw [if_pos c] at h
      cases hq : sub (j + 1) with
      | inl b => rw [hq] at h; exact nomatch h
      | inr o =>
        obtain ⟨q2, k2⟩ := o
        have h1 := hs _ _ _ hq
        rw [hq] at h
        have := ih _ _ _ _ h
        omega
    · rw [if_neg c] at h; cases h; omega
theorem chP_gt {sub : Nat → GP} {w : Nat} {op : Int32} (hs : ∀ i p j, sub i = .inr (p, j) → i < j) : ∀ i p j, chP tx e sub w op i = .inr (p, j) → i < j := by
  intro i p j h
  unfold chP at h
  cases hq : sub i with
  | inl b => rw [hq] at h; exact nomatch h
  | inr o =>
    obtain ⟨q2, k2⟩ := o
    have h1 := hs _ _ _ hq
    rw [hq] at h
    have := chL_ge hs _ _ _ _ _ h
    omega
theorem soP_gt {sub : Nat → GP} (hs : ∀ i p j, sub i = .inr (p, j) → i < j) : ∀ i p j, soP tx e sub i = .inr (p, j) → i < j := chP_gt (chP_gt hs)
theorem atP_gt : ∀ r i p j, atP tx e r i = .inr (p, j) → i < j := by
  intro r
  induction r with
  | zero =>
    intro i p j h
    unfold atP at h
    by_cases c : wdT tx e i = 313 ∨ wdT tx e i = 323
    · rw [if_pos c] at h; exact nomatch h
    · rw [if_neg c] at h; exact plP_gt h
  | succ r ih =>
    intro i p j h
    unfold atP at h
    by_cases c : wdT tx e i = 313
    · rw [if_pos c] at h
      cases hq : atP tx e r (i + 1) with
      | inl b => rw [hq] at h; exact nomatch h
      | inr o =>
        obtain ⟨q2, k2⟩ := o
        have h1 := ih _ _ _ hq
        rw [hq] at h; cases h; omega
    · rw [if_neg c] at h
      by_cases d : wdT tx e i = 323
      · rw [if_pos d] at h
        cases hq : soP tx e (atP tx e r) (i + 1) with
        | inl b => rw [hq] at h; exact nomatch h
        | inr o =>
          obtain ⟨q2, k2⟩ := o
          have h1 := soP_gt ih _ _ _ hq
          rw [hq] at h
          have h : (if wdT tx e k2 = 324 then .inr (q2, k2 + 1) else .inl k2 : GP) = .inr (p, j) := h
          by_cases f : wdT tx e k2 = 324
          · rw [if_pos f] at h; cases h; omega
          · rw [if_neg f] at h; exact nomatch h
      · rw [if_neg d] at h; exact plP_gt h
-- the machine
def dp : List Int32 → Nat
  | [] => 0
  | x :: st => dp st + (if x = 1023 ∨ x = 1026 then 1 else 0)
def sttl (op : Int32) : List Int32 → List Int32 → List Int32 × List Int32
  | [], out => ([], out)
  | x :: st, out => if x ≤ op then sttl op st (out ++ [x]) else (x :: st, out)
def mach (tx : Nat → Int32) (e : Nat) : Nat → Bool → List Int32 → List Int32 → Nat → Option GP
  | 0, _, _, _, _ => none
  | k + 1, true, st, out, i => if wdT tx e i = 313 ∨ wdT tx e i = 323 then (if 6 ≤ dp st then some (.inl i) else mach tx e k true ((if wdT tx e i = 313 then 1023 else 1026) :: st) out (i + 1)) else (match plP tx e i with | .inl b => some (.inl b) | .inr (p, j) => mach tx e k false st (out ++ p) j)
  | k + 1, false, st, out, j => if wdT tx e j = 324 then (if (sttl 1025 st out).1 = [] then some (.inr ((sttl 1025 st out).2, j)) else mach tx e k false (sttl 1025 st out).1.tail (sttl 1025 st out).2 (j + 1)) else if wdT tx e j = 314 then mach tx e k true (1024 :: (sttl 1024 st out).1) (sttl 1024 st out).2 (j + 1) else if wdT tx e j = 315 then mach tx e k true (1025 :: (sttl 1025 st out).1) (sttl 1025 st out).2 (j + 1) else if (sttl 1025 st out).1 = [] then some (.inr ((sttl 1025 st out).2, j)) else some (.inl j)
def MS (tx : Nat → Int32) (e : Nat) (a : Bool) (st out : List Int32) (i : Nat) (R : GP) : Prop := ∃ k, mach tx e k a st out i = some R
theorem pop1 (hx : x ≤ 1024) : ∀ k, mach tx e k false (x :: st) out j = mach tx e k false st (out ++ [x]) j := by
  intro k
  have h2 : x ≤ 1025 := Int32.le_trans hx (by decide)
  have e1 : sttl 1024 (x :: st) out = sttl 1024 st (out ++ [x]) := by rw [sttl, if_pos hx]
  have e2 : sttl 1025 (x :: st) out = sttl 1025 st (out ++ [x]) := by rw [sttl, if_pos h2]
  cases k with
  | zero => rfl
  | succ k => unfold mach; rw [e1, e2]
theorem pop2 (hj : wdT tx e j ≠ 314) : ∀ k, mach tx e k false (1025 :: st) out j = mach tx e k false st (out ++ [1025]) j := by
  intro k
  have e2 : sttl 1025 (1025 :: st) out = sttl 1025 st (out ++ [1025]) := by rw [sttl, if_pos (by decide)]
  cases k with
  | zero => rfl
  | succ k => unfold mach; rw [e2, if_neg hj, if_neg hj]
def tpG (op : Int32) : List Int32 → Prop
  | [] => True
  | x :: _ => ¬ x ≤ op
theorem sttl_id {op : Int32} (h : tpG op st) : sttl op st out = (st, out) := by
  cases st with
  | nil => rfl
  | cons x st => rw [sttl, if_neg h]
/-- what a part of the grammar is to the machine -/
def GQ (tx : Nat → Int32) (e : Nat) (sub : Nat → GP) (T : List Int32 → Prop) (post : Nat → Prop) : Prop := ∀ st out i, T st → (∀ b, sub i = .inl b → MS tx e true st out i (.inl b)) ∧ (∀ p j, sub i = .inr (p, j) → post j ∧ ∀ R, MS tx e false st (out ++ p) j R → MS tx e true st out i R)
theorem chain {sub : Nat → GP} {w : Nat} {op : Int32} {T T2 : List Int32 → Prop} {post : Nat → Prop} (he : e ≤ 400) (hw : w < 330) (hg : ∀ i p j, sub i = .inr (p, j) → i < j) (hs : GQ tx e sub T2 post) (hT : ∀ st, T st → T2 st ∧ T2 (op :: st)) (hpop : ∀ st out j k, post j → mach tx e k false (op :: st) out j = mach tx e k false st (out ++ [op]) j) (hst : ∀ st out j R, T st → wdT tx e j = w → MS tx e true (op :: st) out (j + 1) R → MS tx e false st out j R) : GQ tx e (chP tx e sub w op) T (fun j => post j ∧ wdT tx e j ≠ w) := by
  have lp : ∀ k p j st out, T st → post j → 401 ≤ k + j → (∀ b, chL tx e sub w op k p j = .inl b → MS tx e false st (out ++ p) j (.inl b)) ∧ (∀ q j2, chL tx e sub w op k p j = .inr (q, j2) → (post j2 ∧ wdT tx e j2 ≠ w) ∧ ∀ R, MS tx e false st (out ++ q) j2 R → MS tx e false st (out ++ p) j R) := by
    intro k
    induction k with
    | zero =>
      intro p j st out h1 h2 h3
      refine ⟨fun b h => (nomatch h), fun q j2 h => ?_⟩
      cases h
      refine ⟨⟨h2, ?_⟩, fun R h => h⟩
      have hb : bg tx e j = e := by
        obtain ⟨n, n1, n2, n3⟩ := n_ex (tx := tx) he
        exact bg_ge he n2 j (by omega)
      rw [(wd330 he).mpr hb]; omega
    | succ k ih =>
      intro p j st out h1 h2 h3
      rw [chL]
      by_cases c : wdT tx e j = w
      · rw [if_pos c]
        obtain ⟨s1, s2⟩ := hs (op :: st) (out ++ p) (j + 1) (hT st h1).2
        cases hq : sub (j + 1) with
        | inl b =>
          refine ⟨fun b2 h => ?_, fun q j2 h => nomatch h⟩
          cases h
          exact hst _ _ _ _ h1 c (s1 _ hq)
        | inr o =>
          obtain ⟨p2, j2⟩ := o
          obtain ⟨g1, g2⟩ := s2 _ _ hq
          have g3 := hg _ _ _ hq
          obtain ⟨i1, i2⟩ := ih (p ++ p2 ++ [op]) j2 st out h1 g1 (by omega)
          have back : ∀ R, MS tx e false st (out ++ (p ++ p2 ++ [op])) j2 R → MS tx e false st (out ++ p) j R := fun R ⟨n, hn⟩ => hst _ _ _ _ h1 c (g2 R ⟨n, by rw [hpop _ _ _ _ g1]; simpa using hn⟩)
          refine ⟨fun b h => back _ (i1 b h), fun q j3 h => ?_⟩
          obtain ⟨y1, y2⟩ := i2 q j3 h
          exact ⟨y1, fun R hR => back R (y2 R hR)⟩
      · rw [if_neg c]
        refine ⟨fun b h => (nomatch h), fun q j2 h => ?_⟩
        cases h
        exact ⟨⟨h2, c⟩, fun R h => h⟩
  intro st out i hTt
  obtain ⟨s1, s2⟩ := hs st out i (hT st hTt).1
  unfold chP
  cases hq : sub i with
  | inl b =>
    refine ⟨fun b2 h => ?_, fun q j2 h => nomatch h⟩
    cases h
    exact s1 _ hq
  | inr o =>
    obtain ⟨p, j⟩ := o
    obtain ⟨g1, g2⟩ := s2 _ _ hq
    obtain ⟨l1, l2⟩ := lp 401 p j st out hTt g1 (by omega)
    refine ⟨fun b h => g2 _ (l1 b h), fun q j3 h => ?_⟩
    obtain ⟨y1, y2⟩ := l2 q j3 h
    exact ⟨y1, fun R hR => g2 R (y2 R hR)⟩
theorem MSst (h : ∃ k, mach tx e k true ((if wdT tx e i = 313 then 1023 else 1026) :: st) out (i + 1) = some R) (hw : wdT tx e i = 313 ∨ wdT tx e i = 323) (hd : dp st < 6) : MS tx e true st out i R := by
  obtain ⟨k, hk⟩ := h
  exact ⟨k + 1, by rw [mach, if_pos hw, if_neg (by omega)]; exact hk⟩
theorem someQ {sub : Nat → GP} {r : Nat} (he : e ≤ 400) (hg : ∀ i p j, sub i = .inr (p, j) → i < j) (hs : GQ tx e sub (fun st => dp st + r = 6) (fun _ => True)) : GQ tx e (soP tx e sub) (fun st => dp st + r = 6 ∧ tpG 1025 st) (fun j => (True ∧ wdT tx e j ≠ 314) ∧ wdT tx e j ≠ 315) := by
  have d1 : ∀ st, dp (1024 :: st) = dp st := fun st => by rw [dp, if_neg (by decide), Nat.add_zero]
  have d2 : ∀ st, dp (1025 :: st) = dp st := fun st => by rw [dp, if_neg (by decide), Nat.add_zero]
  have ev : GQ tx e (chP tx e sub 314 1024) (fun st => dp st + r = 6 ∧ tpG 1024 st) (fun j => True ∧ wdT tx e j ≠ 314) := by
    refine chain (T := fun st => dp st + r = 6 ∧ tpG 1024 st) he (by decide) hg hs (fun st h => ⟨h.1, by rw [d1]; exact h.1⟩) (fun st out j k _ => pop1 (by decide) k) (fun st out j R h hw ⟨k, hk⟩ => ⟨k + 1, ?_⟩)
    rw [mach, if_neg (by omega), if_pos hw, sttl_id h.2]
    exact hk
  refine chain (T := fun st => dp st + r = 6 ∧ tpG 1025 st) he (by decide) (chP_gt hg) ev (fun st h => ⟨⟨h.1, ?_⟩, by rw [d2]; exact h.1, show ¬ (1025 : Int32) ≤ 1024 by decide⟩) (fun st out j k h => pop2 h.2 k) (fun st out j R h hw ⟨k, hk⟩ => ⟨k + 1, ?_⟩)
  · have := h.2
    cases st with
    | nil => trivial
    | cons x st => exact fun h2 => this (Int32.le_trans h2 (by decide))
  · rw [mach, if_neg (by omega), if_neg (by omega), if_pos hw, sttl_id h.2]
    exact hk
theorem plQ (hw : ¬ (wdT tx e i = 313 ∨ wdT tx e i = 323)) : (∀ b, plP tx e i = .inl b → MS tx e true st out i (.inl b)) ∧ (∀ p j, plP tx e i = .inr (p, j) → True ∧ ∀ R, MS tx e false st (out ++ p) j R → MS tx e true st out i R) := by
  refine ⟨fun b h => ⟨1, by rw [mach, if_neg hw, h]⟩, fun p j h => ⟨trivial, fun R ⟨k, hk⟩ => ⟨k + 1, by rw [mach, if_neg hw, h]; exact hk⟩⟩⟩
theorem atQ (he : e ≤ 400) : ∀ r, GQ tx e (atP tx e r) (fun st => dp st + r = 6) (fun _ => True) := by
  intro r
  induction r with
  | zero =>
    intro st out i hd
    unfold atP
    by_cases c : wdT tx e i = 313 ∨ wdT tx e i = 323
    · rw [if_pos c]
      refine ⟨fun b h => ?_, fun p j h => nomatch h⟩
      cases h
      exact ⟨1, by rw [mach, if_pos c, if_pos (by omega)]⟩
    · rw [if_neg c]; exact plQ c
  | succ r ih =>
    intro st out i hd
    unfold atP
    by_cases c : wdT tx e i = 313
    · rw [if_pos c]
      have hd2 : dp (1023 :: st) + r = 6 := by rw [dp, if_pos (Or.inl rfl)]; omega
      obtain ⟨s1, s2⟩ := ih (1023 :: st) out (i + 1) hd2
      have up : ∀ R, MS tx e true (1023 :: st) out (i + 1) R → MS tx e true st out i R := fun R h => MSst (by rw [if_pos c]; exact h) (Or.inl c) (by omega)
      cases hq : atP tx e r (i + 1) with
      | inl b =>
        refine ⟨fun b2 h => ?_, fun p j h => nomatch h⟩
        cases h
        exact up _ (s1 _ hq)
      | inr o =>
        obtain ⟨p, j⟩ := o
        refine ⟨fun b2 h => (nomatch h), fun q j2 h => ⟨trivial, fun R hR => ?_⟩⟩
        cases h
        obtain ⟨n, hn⟩ := hR
        exact up _ ((s2 _ _ hq).2 R ⟨n, by rw [pop1 (by decide)]; simpa using hn⟩)
    · rw [if_neg c]
      by_cases d : wdT tx e i = 323
      · rw [if_pos d]
        have hd2 : dp (1026 :: st) + r = 6 := by rw [dp, if_pos (Or.inr rfl)]; omega
        have tp : tpG 1025 (1026 :: st) := show ¬ (1026 : Int32) ≤ 1025 by decide
        obtain ⟨s1, s2⟩ := someQ he (atP_gt r) ih (1026 :: st) out (i + 1) ⟨hd2, tp⟩
        have up : ∀ R, MS tx e true (1026 :: st) out (i + 1) R → MS tx e true st out i R := fun R h => MSst (by rw [if_neg c]; exact h) (Or.inr d) (by omega)
        cases hq : soP tx e (atP tx e r) (i + 1) with
        | inl b =>
          refine ⟨fun b2 h => ?_, fun p j h => nomatch h⟩
          cases h
          exact up _ (s1 _ hq)
        | inr o =>
          obtain ⟨p, j⟩ := o
          obtain ⟨⟨⟨-, g1⟩, g2⟩, g3⟩ := s2 _ _ hq
          by_cases f : wdT tx e j = 324
          · refine ⟨fun b2 h => ?_, fun q j2 h => ⟨trivial, fun R hR => ?_⟩⟩
            · have h : (if wdT tx e j = 324 then .inr (p, j + 1) else .inl j : GP) = .inl b2 := h
              rw [if_pos f] at h; exact nomatch h
            · have h : (if wdT tx e j = 324 then .inr (p, j + 1) else .inl j : GP) = .inr (q, j2) := h
              rw [if_pos f] at h; cases h
              obtain ⟨n, hn⟩ := hR
              refine up _ (g3 R ⟨n + 1, ?_⟩)
              rw [mach, if_pos f, sttl_id tp, if_neg (by simp)]
              exact hn
          · refine ⟨fun b2 h => ?_, fun q j2 h => ?_⟩
            · have h : (if wdT tx e j = 324 then .inr (p, j + 1) else .inl j : GP) = .inl b2 := h
              rw [if_neg f] at h; cases h
              refine up _ (g3 _ ⟨1, ?_⟩)
              rw [mach, if_neg f, if_neg g1, if_neg g2, sttl_id tp, if_neg (by simp)]
            · have h : (if wdT tx e j = 324 then .inr (p, j + 1) else .inl j : GP) = .inr (q, j2) := h
              rw [if_neg f] at h; exact nomatch h
      · rw [if_neg d]; exact plQ (by omega)
/-- the whole condition -/
theorem coQ (he : e ≤ 400) (out : List Int32) (i : Nat) : MS tx e true [] out i (match coP tx e i with | .inl b => .inl b | .inr (p, j) => .inr (out ++ p, j)) := by
  obtain ⟨s1, s2⟩ := someQ he (atP_gt 6) (atQ he 6) [] out i ⟨rfl, trivial⟩
  unfold coP
  cases hq : soP tx e (atP tx e 6) i with
  | inl b => exact s1 _ hq
  | inr o =>
    obtain ⟨p, j⟩ := o
    obtain ⟨⟨⟨-, g1⟩, g2⟩, g3⟩ := s2 _ _ hq
    refine g3 _ ⟨1, ?_⟩
    rw [mach, if_neg g1, if_neg g2]
    by_cases f : wdT tx e j = 324
    · rw [if_pos f, if_pos (show (sttl 1025 [] (out ++ p)).fst = [] from rfl)]; rfl
    · rw [if_neg f, if_pos (show (sttl 1025 [] (out ++ p)).fst = [] from rfl)]; rfl
end LAWG
