/-! the base of the pure side: numbers nI k, memory, loops by a counter, frames -/
theorem iteP {α : Type} {c : Prop} [Decidable c] {a b : α} (h : c) : (if c then a else b) = a := if_pos h
theorem iteN {α : Type} {c : Prop} [Decidable c] {a b : α} (h : ¬ c) : (if c then a else b) = b := if_neg h
theorem bnd_some {α β : Type} {a : α} {f : α → Option β} : (some a).bind f = f a := rfl
theorem l_0 : (0 : Int32) = nI 0 := rfl
theorem l_1 : (1 : Int32) = nI 1 := rfl
theorem l_2 : (2 : Int32) = nI 2 := rfl
theorem l_3 : (3 : Int32) = nI 3 := rfl
theorem l_4 : (4 : Int32) = nI 4 := rfl
theorem l_5 : (5 : Int32) = nI 5 := rfl
theorem l_6 : (6 : Int32) = nI 6 := rfl
theorem l_7 : (7 : Int32) = nI 7 := rfl
theorem l_8 : (8 : Int32) = nI 8 := rfl
theorem l_9 : (9 : Int32) = nI 9 := rfl
theorem l_10 : (10 : Int32) = nI 10 := rfl
theorem l_11 : (11 : Int32) = nI 11 := rfl
theorem l_12 : (12 : Int32) = nI 12 := rfl
theorem l_13 : (13 : Int32) = nI 13 := rfl
theorem l_14 : (14 : Int32) = nI 14 := rfl
theorem l_15 : (15 : Int32) = nI 15 := rfl
theorem l_16 : (16 : Int32) = nI 16 := rfl
theorem l_17 : (17 : Int32) = nI 17 := rfl
theorem l_18 : (18 : Int32) = nI 18 := rfl
theorem l_19 : (19 : Int32) = nI 19 := rfl
theorem l_20 : (20 : Int32) = nI 20 := rfl
theorem l_24 : (24 : Int32) = nI 24 := rfl
theorem l_30 : (30 : Int32) = nI 30 := rfl
theorem l_31 : (31 : Int32) = nI 31 := rfl
theorem l_40 : (40 : Int32) = nI 40 := rfl
theorem l_45 : (45 : Int32) = nI 45 := rfl
theorem l_50 : (50 : Int32) = nI 50 := rfl
theorem l_57 : (57 : Int32) = nI 57 := rfl
theorem l_58 : (58 : Int32) = nI 58 := rfl
theorem l_59 : (59 : Int32) = nI 59 := rfl
theorem l_60 : (60 : Int32) = nI 60 := rfl
theorem l_61 : (61 : Int32) = nI 61 := rfl
theorem l_62 : (62 : Int32) = nI 62 := rfl
theorem l_63 : (63 : Int32) = nI 63 := rfl
theorem l_64 : (64 : Int32) = nI 64 := rfl
theorem l_90 : (90 : Int32) = nI 90 := rfl
theorem l_99 : (99 : Int32) = nI 99 := rfl
theorem l_100 : (100 : Int32) = nI 100 := rfl
theorem l_107 : (107 : Int32) = nI 107 := rfl
theorem l_108 : (108 : Int32) = nI 108 := rfl
theorem l_109 : (109 : Int32) = nI 109 := rfl
theorem l_110 : (110 : Int32) = nI 110 := rfl
theorem l_111 : (111 : Int32) = nI 111 := rfl
theorem l_299 : (299 : Int32) = nI 299 := rfl
theorem l_300 : (300 : Int32) = nI 300 := rfl
theorem l_400 : (400 : Int32) = nI 400 := rfl
theorem l_407 : (407 : Int32) = nI 407 := rfl
theorem l_807 : (807 : Int32) = nI 807 := rfl
theorem ibs_nI {k n : Nat} (h : k < n) (hn : n < 2 ^ 31) : ibs (nI k) n = true := decide_eq_true (nI_in h hn)
theorem gA_nI {M : Mm} {i k : Nat} (h : k < 2 ^ 31) : gA M i (nI k) = M.1 i k := by unfold gA; rw [nI_clamp h]
theorem sA_nI {M : Mm} {i k : Nat} {v : Int32} (h : k < 2 ^ 31) : sA M i (nI k) v = sI M i k v := by unfold sA; rw [nI_clamp h]
theorem at_nIl {M : Mm} {i k : Nat} (h : k < ln i) : t_X9_at M i (nI k) = M.1 i k := by
  have h2 := ln_lt i
  unfold t_X9_at
  rw [if_pos (ibs_nI h h2), gA_nI (by omega)]
theorem put_nIl {M : Mm} {i k : Nat} {v : Int32} (h : k < ln i) : t_X9_put M i (nI k) v = sI M i k v := by
  have h2 := ln_lt i
  unfold t_X9_put
  rw [if_pos (ibs_nI h h2), sA_nI (by omega)]
theorem at_nI {M : Mm} {i k N : Nat} (hl : ln i = N) (h : k < N) : t_X9_at M i (nI k) = M.1 i k := at_nIl (by omega)
theorem put_nI {M : Mm} {i k N : Nat} {v : Int32} (hl : ln i = N) (h : k < N) : t_X9_put M i (nI k) v = sI M i k v := put_nIl (by omega)
theorem at_m1 {M : Mm} {i : Nat} : t_X9_at M i (-1) = 0 := by
  unfold t_X9_at
  rw [ibs_neg (by decide)]; rfl
theorem nI_mulI (a b : Nat) : nI a * nI b = nI (a * b) := (Int32.ofNat_mul a b).symm
theorem nI_subI {a b : Nat} (h : b ≤ a) : nI a - nI b = nI (a - b) := by
  have e : nI a = nI (a - b) + nI b := by rw [nI_add]; congr 1; omega
  rw [e, Int32.add_sub_cancel]
theorem nI_neg1 : -(nI 1) = (-1 : Int32) := rfl
theorem nI_toI {a : Nat} (h : a < 2 ^ 31) : (nI a).toInt = a := nI_toInt h
theorem nI_ne_m1 {a : Nat} (h : a < 2 ^ 31) : (nI a = -1) = False := eq_false (fun e => by
  have e2 := congrArg Int32.toInt e
  rw [nI_toInt h] at e2
  have e3 : ((-1 : Int32)).toInt = -1 := rfl
  omega)
theorem nI_m1_ne {a : Nat} (h : a < 2 ^ 31) : ((-1 : Int32) = nI a) = False := eq_false (fun e => by
  have h2 := nI_ne_m1 h
  rw [e] at h2
  simp at h2)
theorem nI_nlt0 {a : Nat} (h : a < 2 ^ 31) : (nI a < 0) = False := eq_false (nI_pos h)
/-- a number from 0 to b -/
def isN (x : Int32) (b : Nat) : Prop := x = nI x.toNatClampNeg ∧ x.toNatClampNeg ≤ b
theorem isN_nI {a b : Nat} (h : a ≤ b) (hb : b < 2 ^ 31) : isN (nI a) b := by
  unfold isN
  rw [nI_clamp (by omega)]
  exact ⟨rfl, h⟩
/-- an index that a call has let through -/
theorem idx_of {x : Int32} {n : Nat} (hn : n < 2 ^ 31) (h1 : ¬ x < 0) (h2 : ¬ nI n ≤ x) : ∃ k, k < n ∧ x = nI k := by
  obtain ⟨j, hj, rfl⟩ := nI_of h1
  rw [nI_leI hn hj] at h2
  exact ⟨j, by omega, rfl⟩
/-- a fold over 0 .. n-1 -/
def iter {σ : Type} (g : Nat → σ → σ) : Nat → σ → σ
  | 0, s => s
  | n + 1, s => g n (iter g n s)
/-- a loop with a counter: an invariant at each count; it may leave early -/
theorem lpT {σ ρ τ : Type} {f : σ → Option (σ ⊕ ρ)} (enc : Nat → τ → σ) (n : Nat) (P : Nat → τ → Prop) {Q : ρ → Prop}
    (hs : ∀ i s, i < n → P i s → Tr (f (enc i s)) (fun x => (∃ s', x = .inl (enc (i + 1) s') ∧ P (i + 1) s') ∨ ∃ r, x = .inr r ∧ Q r))
    (he : ∀ s, P n s → Tr (f (enc n s)) (fun x => ∃ r, x = .inr r ∧ Q r)) :
    ∀ k i s, i ≤ n → n - i < k → P i s → Tr (loop k f (enc i s)) Q := by
  intro k
  induction k with
  | zero => intro i s _ h; exact absurd h (Nat.not_lt_zero _)
  | succ k ih =>
    intro i s hi hk hP
    by_cases hin : i < n
    · obtain ⟨x, h1, h2⟩ := hs i s hin hP
      rcases h2 with ⟨s', rfl, h3⟩ | ⟨r, rfl, h3⟩
      · obtain ⟨r, h4, h5⟩ := ih (i + 1) s' hin (by omega) h3
        exact ⟨r, by rw [loop, h1]; exact h4, h5⟩
      · exact ⟨r, by rw [loop, h1]; rfl, h3⟩
    · have e : i = n := by omega
      subst e
      obtain ⟨x, h1, r, rfl, h3⟩ := he s hP
      exact ⟨r, by rw [loop, h1]; rfl, h3⟩
theorem lp0 {σ ρ τ : Type} {f : σ → Option (σ ⊕ ρ)} (enc : Nat → τ → σ) (n : Nat) (P : Nat → τ → Prop) {Q : ρ → Prop} (hn : n < 10000) {a : σ} (s0 : τ) (ha : a = enc 0 s0) (h0 : P 0 s0)
    (hs : ∀ i s, i < n → P i s → Tr (f (enc i s)) (fun x => (∃ s', x = .inl (enc (i + 1) s') ∧ P (i + 1) s') ∨ ∃ r, x = .inr r ∧ Q r))
    (he : ∀ s, P n s → Tr (f (enc n s)) (fun x => ∃ r, x = .inr r ∧ Q r)) : Tr (loop FU f a) Q := by
  subst ha
  exact lpT enc n P hs he FU 0 s0 (Nat.zero_le _) (by show n - 0 < 10000; omega) h0
/-- a loop without an early end, its outcome by a fold -/
theorem lpI {σ ρ τ : Type} {f : σ → Option (σ ⊕ ρ)} (enc : Nat → τ → σ) (n : Nat) (g : Nat → τ → τ) (h : τ → ρ) (hn : n < 10000) {a : σ} (s0 : τ) (ha : a = enc 0 s0)
    (hs : ∀ i s, i < n → f (enc i s) = some (.inl (enc (i + 1) (g i s)))) (he : ∀ s, f (enc n s) = some (.inr (h s))) : loop FU f a = some (h (iter g n s0)) := by
  have := lp0 (Q := fun r => r = h (iter g n s0)) enc n (fun i s => s = iter g i s0) hn s0 ha rfl (fun i s hi hP => ⟨_, hs i s hi, Or.inl ⟨_, rfl, by rw [hP]; rfl⟩⟩) (fun s hP => ⟨_, he s, _, rfl, by rw [hP]⟩)
  obtain ⟨r, h1, rfl⟩ := this
  exact h1
/-- what is not among the objects S stays -/
def Fr (S : List Nat) (M N : Mm) : Prop := ∀ i, i ∉ S → N.1 i = M.1 i ∧ N.2.1 i = M.2.1 i ∧ N.2.2 i = M.2.2 i
theorem Fr.rf {S : List Nat} {M : Mm} : Fr S M M := fun _ _ => ⟨rfl, rfl, rfl⟩
theorem Fr.tr {S : List Nat} {M N K : Mm} (h : Fr S M N) (h2 : Fr S N K) : Fr S M K := fun i hi => ⟨(h2 i hi).1.trans (h i hi).1, (h2 i hi).2.1.trans (h i hi).2.1, (h2 i hi).2.2.trans (h i hi).2.2⟩
theorem Fr.mono {S S2 : List Nat} {M N : Mm} (h : Fr S M N) (hs : ∀ i ∈ S, i ∈ S2) : Fr S2 M N := fun i hi => h i (fun q => hi (hs i q))
theorem Fr.sI {S : List Nat} {M : Mm} {i k : Nat} {v : Int32} (h : i ∈ S) : Fr S M (sI M i k v) := fun j hj => ⟨up2_fn (fun e => hj (by rw [e]; exact h)), rfl, rfl⟩
theorem Fr.sJ {S : List Nat} {M : Mm} {i k : Nat} {v : Int64} (h : i ∈ S) : Fr S M (sJ M i k v) := fun j hj => ⟨rfl, up2_fn (fun e => hj (by rw [e]; exact h)), rfl⟩
theorem Fr.sR {S : List Nat} {M : Mm} {i k v : Nat} (h : i ∈ S) : Fr S M (sR M i k v) := fun j hj => ⟨rfl, rfl, up2_fn (fun e => hj (by rw [e]; exact h))⟩
theorem Fr.cpA {S : List Nat} {M : Mm} {a d n : Nat} (h : d ∈ S) : Fr S M (cpA M a d n) := fun j hj => ⟨by
  have : ¬ j = d := fun e => hj (by rw [e]; exact h)
  funext k
  simp [_root_.Jvm.Pilot.@@N@@.cpA, this], rfl, rfl⟩
theorem sI_at {M : Mm} {i k j b : Nat} {v : Int32} : (sI M i k v).1 j b = if j = i ∧ b = k then v else M.1 j b := rfl
theorem sI_2 {M : Mm} {i k : Nat} {v : Int32} : (sI M i k v).2 = M.2 := rfl
theorem sR_1 {M : Mm} {i k v : Nat} : (sR M i k v).1 = M.1 := rfl
theorem sR_at {M : Mm} {i k j b v : Nat} : (sR M i k v).2.2 j b = if j = i ∧ b = k then v else M.2.2 j b := rfl
