/-! a text, word by word -/
section LEX
variable {M N : Mm} {e p r i j : Nat} {q : Nat → Bool} {tx : Nat → Int32}
def IsRun (q : Nat → Bool) (p r : Nat) : Prop := p ≤ r ∧ (∀ i, p ≤ i → i < r → q i = true) ∧ q r = false
def rn (q : Nat → Bool) : Nat → Nat → Nat
  | 0, p => p
  | k + 1, p => if q p = true then rn q k (p + 1) else p
theorem rn_run (hq : ∀ i, e ≤ i → q i = false) : ∀ k p, e ≤ p + k → IsRun q p (rn q k p) := by
  intro k
  induction k with
  | zero => intro p h; exact ⟨Nat.le_refl _, fun i h1 h2 => absurd h1 (Nat.not_le_of_lt h2), hq p h⟩
  | succ k ih =>
    intro p h
    show IsRun q p (if q p = true then rn q k (p + 1) else p)
    by_cases c : q p = true
    · rw [if_pos c]
      obtain ⟨h1, h2, h3⟩ := ih (p + 1) (by omega)
      refine ⟨by omega, fun i h4 h5 => ?_, h3⟩
      by_cases d : i = p
      · rw [d]; exact c
      · exact h2 i (by omega) h5
    · rw [if_neg c]
      exact ⟨Nat.le_refl _, fun i h1 h2 => absurd h1 (Nat.not_le_of_lt h2), by simpa using c⟩
theorem run_uq {r2 : Nat} (h : IsRun q p r) (h2 : IsRun q p r2) : r = r2 := by
  obtain ⟨a1, a2, a3⟩ := h
  obtain ⟨b1, b2, b3⟩ := h2
  refine Classical.byContradiction (fun hne => ?_)
  by_cases c : r < r2
  · rw [b2 r a1 c] at a3; cases a3
  · rw [a2 r2 b1 (by omega)] at b3; cases b3
theorem run_from (h : IsRun q p r) (h1 : p ≤ i) (h2 : i ≤ r) : IsRun q i r := ⟨h2, fun j h3 h4 => h.2.1 j (by omega) h4, h.2.2⟩
def ltC (x : Int32) : Bool := if x < 97 then false else (if 122 < x then false else true)
def dgC (x : Int32) : Bool := if x < 48 then false else (if 57 < x then false else true)
def skQ (tx : Nat → Int32) (e i : Nat) : Bool := decide (i < e) && decide (tx i = 32)
def ltQ (tx : Nat → Int32) (e i : Nat) : Bool := decide (i < e) && ltC (tx i)
def dgQ (tx : Nat → Int32) (e i : Nat) : Bool := decide (i < e) && dgC (tx i)
def sk (tx : Nat → Int32) (e p : Nat) : Nat := rn (skQ tx e) 400 p
def lrE (tx : Nat → Int32) (e p : Nat) : Nat := rn (ltQ tx e) 400 p
def dgE (tx : Nat → Int32) (e p : Nat) : Nat := rn (dgQ tx e) 400 p
theorem skQ_e (i : Nat) (h : e ≤ i) : skQ tx e i = false := by
  have : ¬ i < e := by omega
  simp [skQ, this]
theorem ltQ_e (i : Nat) (h : e ≤ i) : ltQ tx e i = false := by
  have : ¬ i < e := by omega
  simp [ltQ, this]
theorem dgQ_e (i : Nat) (h : e ≤ i) : dgQ tx e i = false := by
  have : ¬ i < e := by omega
  simp [dgQ, this]
theorem sk_run (he : e ≤ 400) (p : Nat) : IsRun (skQ tx e) p (sk tx e p) := rn_run skQ_e 400 p (by omega)
theorem lr_run (he : e ≤ 400) (p : Nat) : IsRun (ltQ tx e) p (lrE tx e p) := rn_run ltQ_e 400 p (by omega)
theorem dg_run (he : e ≤ 400) (p : Nat) : IsRun (dgQ tx e) p (dgE tx e p) := rn_run dgQ_e 400 p (by omega)
theorem run_le (hq : ∀ i, e ≤ i → q i = false) (h : IsRun q p r) (hp : p ≤ e) : r ≤ e := by
  refine Classical.byContradiction (fun hc => ?_)
  have := h.2.1 e hp (by omega)
  rw [hq e (Nat.le_refl _)] at this
  cases this
/-- where a word ends -/
def tkE (tx : Nat → Int32) (e p : Nat) : Nat := if e ≤ p then p else if ltC (tx p) = true then lrE tx e p else if dgC (tx p) = true then dgE tx e p else p + 1
theorem tkE_le (he : e ≤ 400) (hp : p ≤ e) : tkE tx e p ≤ e := by
  unfold tkE
  by_cases c : e ≤ p
  · rw [if_pos c]; exact hp
  · rw [if_neg c]
    by_cases d : ltC (tx p) = true
    · rw [if_pos d]; exact run_le ltQ_e (lr_run he p) hp
    · rw [if_neg d]
      by_cases f : dgC (tx p) = true
      · rw [if_pos f]; exact run_le dgQ_e (dg_run he p) hp
      · rw [if_neg f]; omega
theorem run_lt (h : IsRun q p r) (hp : q p = true) : p < r := by
  refine Classical.byContradiction (fun hc => ?_)
  have : r = p := by have := h.1; omega
  rw [← this, h.2.2] at hp
  cases hp
theorem tkE_lt (he : e ≤ 400) (hp : p < e) : p < tkE tx e p := by
  unfold tkE
  rw [if_neg (by omega)]
  by_cases d : ltC (tx p) = true
  · rw [if_pos d]; exact run_lt (lr_run he p) (by simp [ltQ, hp, d])
  · rw [if_neg d]
    by_cases f : dgC (tx p) = true
    · rw [if_pos f]; exact run_lt (dg_run he p) (by simp [dgQ, hp, f])
    · rw [if_neg f]; omega
/-- the begins of the words -/
def bg (tx : Nat → Int32) (e : Nat) : Nat → Nat
  | 0 => sk tx e 0
  | i + 1 => sk tx e (tkE tx e (bg tx e i))
theorem sk_ge (he : e ≤ 400) : p ≤ sk tx e p := (sk_run he p).1
theorem sk_le (he : e ≤ 400) (hp : p ≤ e) : sk tx e p ≤ e := run_le skQ_e (sk_run he p) hp
theorem bg_le (he : e ≤ 400) : ∀ i, bg tx e i ≤ e := by
  intro i
  induction i with
  | zero => exact sk_le he (Nat.zero_le _)
  | succ i ih => exact sk_le he (tkE_le he ih)
theorem sk_id (he : e ≤ 400) : sk tx e e = e := by
  have h1 := sk_ge (tx := tx) (p := e) he
  have h2 := sk_le (tx := tx) (p := e) he (Nat.le_refl _)
  omega
theorem tkE_e : tkE tx e e = e := by unfold tkE; rw [if_pos (Nat.le_refl _)]
theorem bg_end (he : e ≤ 400) (h : bg tx e i = e) : bg tx e (i + 1) = e := by
  show sk tx e (tkE tx e (bg tx e i)) = e
  rw [h, tkE_e, sk_id he]
theorem bg_lt (he : e ≤ 400) (h : bg tx e i < e) : bg tx e i < bg tx e (i + 1) := by
  have h1 := tkE_lt (tx := tx) he h
  have h2 := sk_ge (tx := tx) (p := tkE tx e (bg tx e i)) he
  show bg tx e i < sk tx e (tkE tx e (bg tx e i))
  omega
theorem sk_bg (he : e ≤ 400) : ∀ i, sk tx e (bg tx e i) = bg tx e i := by
  have key : ∀ p, sk tx e (sk tx e p) = sk tx e p := fun p => by
    have h1 := sk_run (tx := tx) he p
    exact run_uq (sk_run he _) (run_from h1 h1.1 (Nat.le_refl _))
  intro i
  cases i with
  | zero => exact key _
  | succ i => exact key _
/-- how many words there are -/
theorem n_ex (he : e ≤ 400) : ∃ n, n ≤ e ∧ bg tx e n = e ∧ ∀ i, i < n → bg tx e i < e := by
  have h : ∀ k, (∃ n, n ≤ k ∧ bg tx e n = e ∧ ∀ i, i < n → bg tx e i < e) ∨ (k ≤ bg tx e k ∧ ∀ i, i ≤ k → bg tx e i < e) := by
    intro k
    induction k with
    | zero =>
      by_cases c : bg tx e 0 = e
      · exact Or.inl ⟨0, Nat.le_refl _, c, fun i hi => absurd hi (Nat.not_lt_zero i)⟩
      · exact Or.inr ⟨Nat.zero_le _, fun i hi => by rw [show i = 0 by omega]; have := bg_le (tx := tx) he 0; omega⟩
    | succ k ih =>
      rcases ih with ⟨n, n1, n2⟩ | ⟨h1, h2⟩
      · exact Or.inl ⟨n, by omega, n2⟩
      · have h3 := bg_lt (tx := tx) he (h2 k (Nat.le_refl _))
        by_cases c : bg tx e (k + 1) = e
        · exact Or.inl ⟨k + 1, Nat.le_refl _, c, fun i hi => h2 i (by omega)⟩
        · refine Or.inr ⟨by omega, fun i hi => ?_⟩
          by_cases d : i = k + 1
          · rw [d]; have := bg_le (tx := tx) he (k + 1); omega
          · exact h2 i (by omega)
  rcases h e with h | ⟨h1, h2⟩
  · exact h
  · have := h2 e (Nat.le_refl _)
    omega
theorem bg_ge (he : e ≤ 400) {n : Nat} (h : bg tx e n = e) : ∀ i, n ≤ i → bg tx e i = e := by
  intro i
  induction i with
  | zero => intro hi; rw [show n = 0 by omega] at h; exact h
  | succ i ih =>
    intro hi
    by_cases c : n = i + 1
    · rw [← c]; exact h
    · exact bg_end he (ih (by omega))
/-! the words' texts -/
def str (a : Nat) : List Int32 := bq (a + 200)
theorem str_all : ∀ i, i < 75 → f_J0_length_8abf5 ((fun _ _ => 0), (fun _ _ => 0), (fun _ _ => 0)) (400 + i) = nI (str (400 + i)).length ∧ (str (400 + i)).length < 60 ∧ ∀ j, j < (str (400 + i)).length → f_J0_charAt_5068e ((fun _ _ => 0), (fun _ _ => 0), (fun _ _ => 0)) (400 + i) (nI j) = some ((str (400 + i)).getD j 0) := by decide +kernel
theorem strL {i : Nat} (h : i < 75) : f_J0_length_8abf5 M (400 + i) = nI (str (400 + i)).length ∧ (str (400 + i)).length < 60 := ⟨(str_all i h).1, (str_all i h).2.1⟩
theorem strC {i j : Nat} (h : i < 75) (hj : j < (str (400 + i)).length) : f_J0_charAt_5068e M (400 + i) (nI j) = some ((str (400 + i)).getD j 0) := (str_all i h).2.2 j hj
/-- the text from p to r is the word's -/
def samW (tx : Nat → Int32) (p r : Nat) (s : List Int32) : Bool := decide (s.length = r - p) && allB (fun k => decide (tx (p + k) = s.getD k 0)) s.length
def spl (tx : Nat → Int32) (p r : Nat) : Nat := match fnd (fun j => samW tx p r (str (spq (300 + j)))) 31 with | none => 329 | some j => 300 + j
/-- the word that begins at p -/
def wdP (tx : Nat → Int32) (e p : Nat) : Nat := if e ≤ p then 330 else if ltC (tx p) = true then spl tx p (lrE tx e p) else if dgC (tx p) = true then 328 else spl tx p (p + 1)
def wdT (tx : Nat → Int32) (e i : Nat) : Nat := wdP tx e (bg tx e i)
/-- marks of a word, as bits -/
def mkS (tx : Nat → Int32) (p k : Nat) : Option Nat := iter (fun k o => match o with | none => none | some s => if 6 ≤ (tx (p + k)).toNatClampNeg - 97 ∨ s.testBit ((tx (p + k)).toNatClampNeg - 97) = true then none else some (s ||| 2 ^ ((tx (p + k)).toNatClampNeg - 97))) k (some 0)
def nuN (tx : Nat → Int32) (p k : Nat) : Nat := iter (fun k n => n * 10 + ((tx (p + k)).toNatClampNeg - 48)) k 0
def nuV (tx : Nat → Int32) (p r : Nat) : Nat := if r - p ≤ 3 then nuN tx p (r - p) else 1000
def vlP (tx : Nat → Int32) (e p : Nat) : Int32 := if e ≤ p then -1 else if ltC (tx p) = true then oI (mkS tx p (lrE tx e p - p)) else if dgC (tx p) = true then nI (nuV tx p (dgE tx e p)) else -1
def vl (tx : Nat → Int32) (e i : Nat) : Int32 := vlP tx e (bg tx e i)
theorem isW_spl : isW (spl tx p r) = true := by
  unfold spl
  cases h : fnd (fun j => samW tx p r (str (spq (300 + j)))) 31 with
  | none => decide
  | some j =>
    have := (fnd_ok h).1
    show isW (300 + j) = true
    simp [isW]; omega
theorem isW_wd : isW (wdT tx e i) = true := by
  unfold wdT wdP
  generalize bg tx e i = p
  by_cases c : e ≤ p
  · rw [if_pos c]; decide
  · rw [if_neg c]
    by_cases d : ltC (tx p) = true
    · rw [if_pos d]; exact isW_spl
    · rw [if_neg d]
      by_cases f : dgC (tx p) = true
      · rw [if_pos f]; decide
      · rw [if_neg f]; exact isW_spl
end LEX
