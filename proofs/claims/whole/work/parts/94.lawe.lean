/-! a condition of the law reckoned -/
section LAWE
variable {tx : Nat → Int32} {e i j k r b N N2 : Nat} {p p2 l2 : List Int32} {x T o s mk op : Int32} {P : Nat → Int32} {v v2 : Bool} {l : List Bool}
def pv (P : Nat → Int32) (op : Int32) : Int32 := if 1000 ≤ op then P (op - 1000).toNatClampNeg else op
def jn (op t : Int32) : Int32 := if op = 1023 then t ^^^ 1 else if op = 1025 then (t >>> (1 &&& 31)) ||| (t &&& 1) else (t >>> (1 &&& 31)) &&& ((t &&& 1) ||| (-2))
def spO (P : Nat → Int32) (mk : Int32) (s : Int32 × Int32 × Int32) (op : Int32) : Int32 × Int32 × Int32 :=
  if 1010 ≤ op then (if op = 1020 then (s.1, 0, s.2.1) else if op = 1021 then (((s.1 <<< (1 &&& 31)) ||| (if s.2.1 ≤ s.2.2 then 0 else 1)), 0, s.2.2) else if op = 1022 then (((s.1 <<< (1 &&& 31)) ||| (if s.2.2 ≤ s.2.1 then 0 else 1)), 0, s.2.2) else if op < 1023 then (((s.1 <<< (1 &&& 31)) ||| ((mk >>> ((op - 1010) &&& 31)) &&& 1)), s.2.1, s.2.2) else (jn op s.1, s.2.1, s.2.2)) else (s.1, s.2.1 + pv P op, s.2.2)
def rnL (P : Nat → Int32) (mk : Int32) (s : Int32 × Int32 × Int32) (p : List Int32) : Int32 × Int32 × Int32 := p.foldl (spO P mk) s
theorem rnL_app : rnL P mk (T, s, o) (p ++ p2) = rnL P mk (rnL P mk (T, s, o) p) p2 := List.foldl_append ..
def Tb (T : Int32) (l : List Bool) : Prop := ∀ i, i < l.length → bt T i = l.getD i false
theorem b_1 : ∀ i, i < 32 → bt 1 i = decide (i = 0) := by decide +kernel
theorem b_m2 : ∀ i, i < 32 → bt (-2) i = decide (1 ≤ i) := by decide +kernel
theorem b_shl1 (x : Int32) {i : Nat} (hi : i < 32) : bt (x <<< ((1 : Int32) &&& 31)) i = (decide (1 ≤ i) && bt x (i - 1)) := b_shl 1 (by omega) x hi
theorem b_sshr1 (x : Int32) {i : Nat} (hi : i < 32) : bt (x >>> ((1 : Int32) &&& 31)) i = if 1 + i < 32 then bt x (1 + i) else bt x 31 := b_sshr 1 (by omega) x hi
theorem Tb_push (h : Tb T l) (hl : l.length < 31) (h0 : bt x 0 = v) (h1 : ∀ i, 1 ≤ i → i < 32 → bt x i = false) : Tb ((T <<< (1 &&& 31)) ||| x) (v :: l) := by
  intro i hi
  rw [List.length_cons] at hi
  rw [b_or, b_shl1 _ (by omega)]
  cases i with
  | zero => rw [h0]; simp
  | succ i => rw [h1 _ (by omega) (by omega), decide_eq_true (by omega), Bool.true_and, Bool.or_false, Nat.add_sub_cancel, h i (by omega)]; rfl
theorem Tb_not (h : Tb T (v :: l)) (hl : l.length < 31) : Tb (T ^^^ 1) ((!v) :: l) := by
  intro i hi
  rw [List.length_cons] at hi
  have := h i (by rw [List.length_cons]; exact hi)
  rw [b_xor, b_1 _ (by omega), this]
  cases i with
  | zero => simp
  | succ i => simp
theorem Tb_or (h : Tb T (v2 :: v :: l)) (hl : l.length < 30) : Tb ((T >>> (1 &&& 31)) ||| (T &&& 1)) ((v || v2) :: l) := by
  intro i hi
  rw [List.length_cons] at hi
  have h2 := h (1 + i) (by rw [List.length_cons, List.length_cons]; omega)
  have h0 := h 0 (by rw [List.length_cons]; omega)
  rw [b_or, b_and, b_sshr1 _ (by omega), if_pos (by omega), b_1 _ (by omega), h2]
  cases i with
  | zero => rw [h0]; simp
  | succ i => rw [show 1 + (i + 1) = i + 1 + 1 by omega]; simp
theorem Tb_and (h : Tb T (v2 :: v :: l)) (hl : l.length < 30) : Tb ((T >>> (1 &&& 31)) &&& ((T &&& 1) ||| (-2))) ((v && v2) :: l) := by
  intro i hi
  rw [List.length_cons] at hi
  have h2 := h (1 + i) (by rw [List.length_cons, List.length_cons]; omega)
  have h0 := h 0 (by rw [List.length_cons]; omega)
  rw [b_and, b_or, b_and, b_sshr1 _ (by omega), if_pos (by omega), b_1 _ (by omega), b_m2 _ (by omega), h2]
  cases i with
  | zero => rw [h0]; simp
  | succ i => rw [show 1 + (i + 1) = i + 1 + 1 by omega]; simp
/-- the operations of p put one truth on those that wait -/
def Ev (P : Nat → Int32) (mk : Int32) (N : Nat) (p : List Int32) (v : Bool) : Prop := ∀ T l o, Tb T l → l.length ≤ N → ∃ T' o', rnL P mk (T, 0, o) p = (T', 0, o') ∧ Tb T' (v :: l)
theorem Ev.mono (h : Ev P mk N p v) (hN : N2 ≤ N) : Ev P mk N2 p v := fun T l o h1 h2 => h T l o h1 (by omega)
theorem rn1 {q : Int32 × Int32 × Int32} : rnL P mk q [op] = spO P mk q op := rfl
theorem Ev.not (h : Ev P mk N p v) (hN : N < 31) : Ev P mk N (p ++ [1023]) (!v) := by
  intro T l o h1 h2
  obtain ⟨T', o', a1, a2⟩ := h T l o h1 h2
  refine ⟨T' ^^^ 1, o', ?_, Tb_not a2 (by omega)⟩
  rw [rnL_app, a1, rn1]; rfl
theorem Ev.or (h : Ev P mk N p v) (h2 : Ev P mk (N + 1) p2 v2) (hN : N < 30) : Ev P mk N (p ++ p2 ++ [1025]) (v || v2) := by
  intro T l o g1 g2
  obtain ⟨T', o', a1, a2⟩ := h T l o g1 g2
  obtain ⟨T2, o2, c1, c2⟩ := h2 T' (v :: l) o' a2 (by rw [List.length_cons]; omega)
  refine ⟨_, o2, ?_, Tb_or c2 (by omega)⟩
  rw [rnL_app, rnL_app, a1, c1, rn1]; rfl
theorem Ev.and (h : Ev P mk N p v) (h2 : Ev P mk (N + 1) p2 v2) (hN : N < 30) : Ev P mk N (p ++ p2 ++ [1024]) (v && v2) := by
  intro T l o g1 g2
  obtain ⟨T', o', a1, a2⟩ := h T l o g1 g2
  obtain ⟨T2, o2, c1, c2⟩ := h2 T' (v :: l) o' a2 (by rw [List.length_cons]; omega)
  refine ⟨_, o2, ?_, Tb_and c2 (by omega)⟩
  rw [rnL_app, rnL_app, a1, c1, rn1]; rfl
theorem Ev.mark (hk : k < 6) : Ev P mk 30 [nI (1010 + k)] (bt mk k) := by
  intro T l o g1 g2
  refine ⟨(T <<< (1 &&& 31)) ||| ((mk >>> (nI k &&& 31)) &&& 1), o, ?_, Tb_push g1 (by omega) ?_ (fun i h1 h2 => ?_)⟩
  · rw [rn1]
    unfold spO
    have e1 : (1010 : Int32) ≤ nI (1010 + k) := by rw [show (1010 : Int32) = nI 1010 from rfl, nI_leI (by decide) (by omega)]; omega
    have ne : ∀ z : Nat, z < 2000 → 1020 ≤ z → nI (1010 + k) ≠ nI z := fun z h1 h2 h => by rw [nI_eq (by omega) (by omega)] at h; omega
    have e2 : nI (1010 + k) < 1023 := by rw [show (1023 : Int32) = nI 1023 from rfl, nI_ltI (by omega) (by decide)]; omega
    have e3 : nI (1010 + k) - 1010 = nI k := by rw [show (1010 : Int32) = nI 1010 from rfl, nI_subI (by omega), Nat.add_sub_cancel_left]
    rw [if_pos e1, if_neg (show ¬ nI (1010 + k) = 1020 from ne 1020 (by decide) (by decide)), if_neg (show ¬ nI (1010 + k) = 1021 from ne 1021 (by decide) (by decide)), if_neg (show ¬ nI (1010 + k) = 1022 from ne 1022 (by decide) (by decide)), if_pos e2, e3]
  · rw [b_and, b_1 _ (by omega), b_sshr k (by omega) mk (by omega), if_pos (by omega)]; simp
  · rw [b_and, b_1 _ h2, decide_eq_false (by omega), Bool.and_false]
/-- what stands in a sum -/
def isO (op : Int32) : Prop := ∃ z, op = nI z ∧ z ≤ 1005
def smF (P : Nat → Int32) (s : Int32) (p : List Int32) : Int32 := p.foldl (fun s op => s + pv P op) s
theorem smF_app {s : Int32} : smF P s (p ++ p2) = smF P (smF P s p) p2 := List.foldl_append ..
theorem rn_sum : ∀ p s, (∀ op ∈ p, isO op) → rnL P mk (T, s, o) p = (T, smF P s p, o) := by
  intro p
  induction p with
  | nil => intro s _; rfl
  | cons op p ih =>
    intro s h
    obtain ⟨z, hz, hz2⟩ := h op List.mem_cons_self
    have : spO P mk (T, s, o) op = (T, s + pv P op, o) := by
      unfold spO
      rw [if_neg (by rw [hz, show (1010 : Int32) = nI 1010 from rfl, nI_leI (by decide) (by omega)]; omega)]
    show rnL P mk (spO P mk (T, s, o) op) p = _
    rw [this]
    exact ih _ (fun q hq => h q (List.mem_cons_of_mem _ hq))
theorem b_01 {c : Prop} [Decidable c] : bt (if c then 0 else 1) 0 = !decide c ∧ ∀ i, 1 ≤ i → i < 32 → bt (if c then 0 else 1) i = false := by
  by_cases h : c
  · rw [if_pos h, decide_eq_true h]; exact ⟨b_0 0, fun i _ _ => b_0 i⟩
  · rw [if_neg h, decide_eq_false h]; exact ⟨rfl, fun i h1 h2 => by rw [b_1 i h2, decide_eq_false (by omega)]⟩
theorem Ev.less (h1 : ∀ op ∈ p, isO op) (h2 : ∀ op ∈ p2, isO op) : Ev P mk 30 (p ++ [1020] ++ p2 ++ [1021]) (!decide (smF P 0 p2 ≤ smF P 0 p)) := by
  intro T l o g1 g2
  refine ⟨(T <<< (1 &&& 31)) ||| (if smF P 0 p2 ≤ smF P 0 p then 0 else 1), smF P 0 p, ?_, Tb_push g1 (by omega) b_01.1 b_01.2⟩
  rw [rnL_app, rnL_app, rnL_app, rn_sum p 0 h1, show rnL P mk (T, smF P 0 p, o) [1020] = (T, 0, smF P 0 p) from rfl, rn_sum p2 0 h2, rn1]
  rfl
theorem Ev.more (h1 : ∀ op ∈ p, isO op) (h2 : ∀ op ∈ p2, isO op) : Ev P mk 30 (p ++ [1020] ++ p2 ++ [1022]) (!decide (smF P 0 p ≤ smF P 0 p2)) := by
  intro T l o g1 g2
  refine ⟨(T <<< (1 &&& 31)) ||| (if smF P 0 p ≤ smF P 0 p2 then 0 else 1), smF P 0 p, ?_, Tb_push g1 (by omega) b_01.1 b_01.2⟩
  rw [rnL_app, rnL_app, rnL_app, rn_sum p 0 h1, show rnL P mk (T, smF P 0 p, o) [1020] = (T, 0, smF P 0 p) from rfl, rn_sum p2 0 h2, rn1]
  rfl
/-- whether a condition holds; none at all holds -/
def hdP (P : Nat → Int32) (mk : Int32) (p : List Int32) : Bool := if p = [] then true else bt (rnL P mk (0, 0, 0) p).1 0
theorem Ev.hd (h : Ev P mk N p v) : p ≠ [] ∧ hdP P mk p = v := by
  have hp : p ≠ [] := fun hp => by
    subst hp
    obtain ⟨T1, o1, a1, a2⟩ := h 0 [] 0 (fun i hi => absurd hi (Nat.not_lt_zero _)) (Nat.zero_le _)
    obtain ⟨T2, o2, c1, c2⟩ := h (-1) [] 0 (fun i hi => absurd hi (Nat.not_lt_zero _)) (Nat.zero_le _)
    have t1 := a2 0 (by simp)
    have t2 := c2 0 (by simp)
    cases a1; cases c1
    rw [b_0] at t1
    rw [b_m1 0 (by decide)] at t2
    have : false = v := t1
    have : true = v := t2
    simp_all
  refine ⟨hp, ?_⟩
  obtain ⟨T1, o1, a1, a2⟩ := h 0 [] 0 (fun i hi => absurd hi (Nat.not_lt_zero _)) (Nat.zero_le _)
  unfold hdP
  rw [if_neg hp, a1]
  exact a2 0 (by simp)
-- the operations of a sum
theorem ptq_all : ∀ j, j < 31 → (ptq (300 + j) = -1 ∧ (j < 16 ∨ 21 < j)) ∨ (16 ≤ j ∧ j ≤ 21 ∧ ptq (300 + j) = nI (j - 16)) := by decide +kernel
theorem wd_31 : ∃ j, j < 31 ∧ wdT tx e i = 300 + j := isW_of isW_wd
theorem opA_o (h : opA tx e i ≠ -1) : isO (opA tx e i) ∧ wdT tx e i ≠ 330 := by
  obtain ⟨j, h1, h2⟩ := wd_31 (tx := tx) (e := e) (i := i)
  unfold opA at h ⊢
  rcases ptq_all j h1 with ⟨h3, h4⟩ | ⟨h3, h4, h5⟩
  · rw [h2, if_pos h3] at h ⊢
    by_cases c : 300 + j = 328 ∧ ¬ vl tx e i < 0 ∧ ¬ 999 < vl tx e i
    · rw [if_pos c] at h ⊢
      obtain ⟨z, z1, z2⟩ := idx_of (x := vl tx e i) (n := 1000) (by decide) c.2.1 (fun hh => c.2.2 (Int32.lt_of_lt_of_le (by decide) hh))
      exact ⟨⟨z, z2, by omega⟩, by omega⟩
    · rw [if_neg c] at h; exact absurd rfl h
  · rw [h2, h5, if_neg (by rw [nI_ne_m1 (by omega)]; exact not_false)]
    exact ⟨⟨1000 + (j - 16), by rw [show (1000 : Int32) = nI 1000 from rfl, nI_add], by omega⟩, by omega⟩
theorem suP_o : ∀ k p i q j, (∀ op ∈ p, isO op) → suP tx e k p i = .inr (q, j) → ∀ op ∈ q, isO op := by
  intro k
  induction k with
  | zero => intro p i q j hp h; exact nomatch h
  | succ k ih =>
    intro p i q j hp h
    unfold suP at h
    by_cases c : opA tx e i = -1
    · rw [if_pos c] at h; exact nomatch h
    · rw [if_neg c] at h
      have hp2 : ∀ op ∈ p ++ [opA tx e i], isO op := fun op ho => by
        rcases List.mem_append.mp ho with h1 | h1
        · exact hp op h1
        · rw [List.mem_singleton.mp h1]; exact (opA_o c).1
      by_cases d : wdT tx e (i + 1) = 327
      · rw [if_pos d] at h; exact ih _ _ _ _ hp2 h
      · rw [if_neg d] at h; cases h; exact hp2
end LAWE
