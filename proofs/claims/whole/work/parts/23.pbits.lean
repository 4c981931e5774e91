/-! ===== Int32 by its bits: bt x i ===== -/
def bt (x : Int32) (i : Nat) : Bool := x.toBitVec.getLsbD i
theorem b_ext {x y : Int32} (h : ∀ i, i < 32 → bt x i = bt y i) : x = y := Int32.toBitVec_inj.mp (BitVec.eq_of_getLsbD_eq (fun i hi => h i hi))
theorem b_or (x y : Int32) (i : Nat) : bt (x ||| y) i = (bt x i || bt y i) := by unfold bt; rw [Int32.toBitVec_or, BitVec.getLsbD_or]
theorem b_and (x y : Int32) (i : Nat) : bt (x &&& y) i = (bt x i && bt y i) := by unfold bt; rw [Int32.toBitVec_and, BitVec.getLsbD_and]
theorem b_xor (x y : Int32) (i : Nat) : bt (x ^^^ y) i = (bt x i ^^ bt y i) := by unfold bt; rw [Int32.toBitVec_xor, BitVec.getLsbD_xor]
theorem b_big {x : Int32} {i : Nat} (h : 32 ≤ i) : bt x i = false := BitVec.getLsbD_of_ge _ _ h
theorem b_255 (i : Nat) : bt 255 i = decide (i < 8) := by
  rcases Nat.lt_or_ge i 32 with h | h
  · exact (by decide +kernel : ∀ i, i < 32 → bt 255 i = decide (i < 8)) i h
  · rw [b_big h, decide_eq_false (by omega)]
theorem b_65535 (i : Nat) : bt 65535 i = decide (i < 16) := by
  rcases Nat.lt_or_ge i 32 with h | h
  · exact (by decide +kernel : ∀ i, i < 32 → bt 65535 i = decide (i < 16)) i h
  · rw [b_big h, decide_eq_false (by omega)]
theorem b_m1 : ∀ i, i < 32 → bt (-1) i = true := by decide +kernel
theorem b_0 (i : Nat) : bt 0 i = false := BitVec.getLsbD_zero
theorem s_l : ∀ n, n < 32 → ((nI n &&& 31).toBitVec.smod 32).toNat = n := by decide +kernel
theorem s_u : ∀ n, n < 32 → (((nI n).toUInt32 &&& Int32.toUInt32 31).toBitVec % 32).toNat = n := by decide +kernel
theorem b_shl (n : Nat) (hn : n < 32) (x : Int32) {i : Nat} (hi : i < 32) : bt (x <<< (nI n &&& 31)) i = (decide (n ≤ i) && bt x (i - n)) := by
  unfold bt
  rw [Int32.toBitVec_shiftLeft]
  show (x.toBitVec <<< ((nI n &&& 31).toBitVec.smod 32).toNat).getLsbD i = _
  rw [s_l n hn, BitVec.getLsbD_shiftLeft]
  rcases Nat.lt_or_ge i n with h | h
  · simp [h, Nat.not_le.mpr h]
  · simp [hi, h, Nat.not_lt.mpr h]
theorem b_ushr (n : Nat) (hn : n < 32) (x : Int32) (i : Nat) : bt ((x.toUInt32 >>> ((nI n).toUInt32 &&& Int32.toUInt32 31)).toInt32) i = bt x (n + i) := by
  show (x.toUInt32 >>> ((nI n).toUInt32 &&& Int32.toUInt32 31)).toBitVec.getLsbD i = x.toUInt32.toBitVec.getLsbD (n + i)
  rw [UInt32.toBitVec_shiftRight]
  show (x.toUInt32.toBitVec >>> (((nI n).toUInt32 &&& Int32.toUInt32 31).toBitVec % 32).toNat).getLsbD i = _
  rw [s_u n hn, BitVec.getLsbD_ushiftRight]
theorem b_sshr (n : Nat) (hn : n < 32) (x : Int32) {i : Nat} (hi : i < 32) : bt (x >>> (nI n &&& 31)) i = if n + i < 32 then bt x (n + i) else bt x 31 := by
  unfold bt
  rw [Int32.toBitVec_shiftRight]
  show (x.toBitVec.sshiftRight ((nI n &&& 31).toBitVec.smod 32).toNat).getLsbD i = _
  rw [s_l n hn, BitVec.getLsbD_sshiftRight, BitVec.msb_eq_getLsbD_last]
  simp [hi]
theorem b_shl8 (x : Int32) {i : Nat} (hi : i < 32) : bt (x <<< ((8 : Int32) &&& 31)) i = (decide (8 ≤ i) && bt x (i - 8)) := b_shl 8 (by omega) x hi
theorem b_shl16 (x : Int32) {i : Nat} (hi : i < 32) : bt (x <<< ((16 : Int32) &&& 31)) i = (decide (16 ≤ i) && bt x (i - 16)) := b_shl 16 (by omega) x hi
theorem b_shl24 (x : Int32) {i : Nat} (hi : i < 32) : bt (x <<< ((24 : Int32) &&& 31)) i = (decide (24 ≤ i) && bt x (i - 24)) := b_shl 24 (by omega) x hi
theorem b_sshr8 (x : Int32) {i : Nat} (hi : i < 32) : bt (x >>> ((8 : Int32) &&& 31)) i = if 8 + i < 32 then bt x (8 + i) else bt x 31 := b_sshr 8 (by omega) x hi
/-! ===== nI under and, xor, >>>, one bit, 65535 ===== -/
theorem nx_and (a b : Nat) : nI a &&& nI b = nI (a &&& b) := by
  apply Int32.toBitVec_inj.1
  show BitVec.ofNat 32 a &&& BitVec.ofNat 32 b = BitVec.ofNat 32 (a &&& b)
  apply BitVec.eq_of_getLsbD_eq
  intro i hi
  simp [hi]
theorem nx_xor (a b : Nat) : nI a ^^^ nI b = nI (a ^^^ b) := by
  apply Int32.toBitVec_inj.1
  show BitVec.ofNat 32 a ^^^ BitVec.ofNat 32 b = BitVec.ofNat 32 (a ^^^ b)
  apply BitVec.eq_of_getLsbD_eq
  intro i hi
  simp [hi]
/-! sets of numbers as bits -/
def b1 (i : Nat) : Int32 := 1 <<< (nI i &&& 31)
theorem b1_def (i : Nat) : nI 1 <<< (nI i &&& nI 31) = b1 i := rfl
theorem or0 (x : Int32) : x ||| nI 0 = x := Int32.or_zero
theorem bt_b1 {v i : Nat} (hv : v < 32) (hi : i < 32) : bt (b1 v) i = decide (i = v) := by
  have h := b_shl v hv 1 hi
  unfold b1
  rw [h]
  have h1 : ∀ k, k < 32 → bt 1 k = decide (k = 0) := by decide +kernel
  by_cases e : v ≤ i
  · rw [h1 (i - v) (by omega)]
    by_cases e2 : i = v
    · subst e2; simp
    · have : ¬ i - v = 0 := by omega
      simp [e, e2, this]
  · have : ¬ i = v := by omega
    simp [e, this]
theorem bt_tst {x : Int32} {v : Nat} (hv : v < 32) : ((x >>> (nI v &&& nI 31)) &&& nI 1 = nI 1) = (bt x v = true) := by
  apply propext
  have h0 := b_sshr v hv x (i := 0) (by decide)
  rw [Nat.add_zero, if_pos hv] at h0
  have h1 : ∀ k, k < 32 → bt 1 k = decide (k = 0) := by decide +kernel
  constructor
  · intro e
    have e2 := congrArg (fun y => bt y 0) e
    simp only [b_and] at e2
    rw [show bt (x >>> (nI v &&& nI 31)) 0 = bt x v from h0, show nI 1 = 1 from rfl, h1 0 (by decide)] at e2
    simpa using e2
  · intro e
    refine b_ext (fun i hi => ?_)
    rw [b_and, show nI 1 = 1 from rfl, h1 i hi]
    by_cases e0 : i = 0
    · subst e0
      rw [show bt (x >>> (nI v &&& nI 31)) 0 = bt x v from h0, e]; rfl
    · simp [e0]
def bset (p : Nat → Bool) (n : Nat) : Int32 := iter (fun v s => if p v = true then s ||| b1 v else s) n 0
theorem bt_bset {p : Nat → Bool} {n : Nat} (hn : n ≤ 32) : ∀ {i : Nat}, i < 32 → bt (bset p n) i = (decide (i < n) && p i) := by
  induction n with
  | zero => intro i hi; unfold bset iter; rw [b_0]; simp
  | succ n ih =>
    intro i hi
    have h := ih (by omega) hi
    unfold bset iter
    unfold bset at h
    by_cases hp : p n = true
    · rw [if_pos hp, b_or, h, bt_b1 (by omega) hi]
      by_cases e : i = n
      · subst e; simp [hp]
      · have : (i < n + 1) = (i < n) := propext (by omega)
        simp [e, this]
    · rw [if_neg hp, h]
      by_cases e : i = n
      · subst e
        have : p i = false := by simpa using hp
        simp [this]
      · have : (i < n + 1) = (i < n) := propext (by omega)
        simp [this]
theorem bset_eq {p q : Nat → Bool} {n k : Nat} (hn : n ≤ 32) (hk : k ≤ 32) (h : ∀ i, i < 32 → (decide (i < n) && p i) = (decide (i < k) && q i)) : bset p n = bset q k := b_ext (fun i hi => by rw [bt_bset hn hi, bt_bset hk hi, h i hi])
theorem iter_cg {σ : Type} {g h : Nat → σ → σ} {n : Nat} {s : σ} (e : ∀ i s, i < n → g i s = h i s) : iter g n s = iter h n s := by
  induction n with
  | zero => rfl
  | succ n ih =>
    unfold iter
    rw [ih (fun i s hi => e i s (by omega)), e n _ (by omega)]
theorem at_nJ {M : Mm} {i k N : Nat} (hl : ln i = N) (h : k < N) : t_X9_at_ M i (nI k) = M.2.1 i k := by
  have h2 := ln_lt i
  unfold t_X9_at_ gL
  rw [if_pos (ibs_nI (by omega) h2), nI_clamp (by omega)]
theorem put_nJ {M : Mm} {i k N : Nat} {v : Int64} (hl : ln i = N) (h : k < N) : t_X9_put_ M i (nI k) v = sJ M i k v := by
  have h2 := ln_lt i
  unfold t_X9_put_ sL
  rw [if_pos (ibs_nI (by omega) h2), nI_clamp (by omega)]
theorem a2 {M : Mm} {k : Nat} (h : k < 400) : t_X9_at M 2 (nI k) = M.1 2 k := at_nI (by decide) h
theorem p2 {M : Mm} {k : Nat} {v : Int32} (h : k < 400) : t_X9_put M 2 (nI k) v = sI M 2 k v := put_nI (by decide) h
theorem a83 {M : Mm} {k : Nat} (h : k < 90) : t_X9_at M 83 (nI k) = M.1 83 k := at_nI (by decide) h
theorem p83 {M : Mm} {k : Nat} {v : Int32} (h : k < 90) : t_X9_put M 83 (nI k) v = sI M 83 k v := put_nI (by decide) h
theorem a84 {M : Mm} {k : Nat} (h : k < 9) : t_X9_at M 84 (nI k) = M.1 84 k := at_nI (by decide) h
theorem p84 {M : Mm} {k : Nat} {v : Int32} (h : k < 9) : t_X9_put M 84 (nI k) v = sI M 84 k v := put_nI (by decide) h
theorem a85 {M : Mm} {k : Nat} (h : k < 10) : t_X9_at M 85 (nI k) = M.1 85 k := at_nI (by decide) h
theorem p85 {M : Mm} {k : Nat} {v : Int32} (h : k < 10) : t_X9_put M 85 (nI k) v = sI M 85 k v := put_nI (by decide) h
theorem a86 {M : Mm} {k : Nat} (h : k < 9) : t_X9_at M 86 (nI k) = M.1 86 k := at_nI (by decide) h
theorem p86 {M : Mm} {k : Nat} {v : Int32} (h : k < 9) : t_X9_put M 86 (nI k) v = sI M 86 k v := put_nI (by decide) h
theorem a88 {M : Mm} {k : Nat} (h : k < 9) : t_X9_at M 88 (nI k) = M.1 88 k := at_nI (by decide) h
theorem p88 {M : Mm} {k : Nat} {v : Int32} (h : k < 9) : t_X9_put M 88 (nI k) v = sI M 88 k v := put_nI (by decide) h
theorem a89 {M : Mm} {k : Nat} (h : k < 9) : t_X9_at M 89 (nI k) = M.1 89 k := at_nI (by decide) h
theorem p89 {M : Mm} {k : Nat} {v : Int32} (h : k < 9) : t_X9_put M 89 (nI k) v = sI M 89 k v := put_nI (by decide) h
theorem a92 {M : Mm} {k : Nat} (h : k < 10) : t_X9_at M 92 (nI k) = M.1 92 k := at_nI (by decide) h
theorem p92 {M : Mm} {k : Nat} {v : Int32} (h : k < 10) : t_X9_put M 92 (nI k) v = sI M 92 k v := put_nI (by decide) h
theorem a93 {M : Mm} {k : Nat} (h : k < 9) : t_X9_at M 93 (nI k) = M.1 93 k := at_nI (by decide) h
theorem p93 {M : Mm} {k : Nat} {v : Int32} (h : k < 9) : t_X9_put M 93 (nI k) v = sI M 93 k v := put_nI (by decide) h
theorem a96 {M : Mm} {k : Nat} (h : k < 9) : t_X9_at M 96 (nI k) = M.1 96 k := at_nI (by decide) h
theorem p96 {M : Mm} {k : Nat} {v : Int32} (h : k < 9) : t_X9_put M 96 (nI k) v = sI M 96 k v := put_nI (by decide) h
theorem a91 {M : Mm} {k : Nat} (h : k < 90) : t_X9_at_ M 91 (nI k) = M.2.1 91 k := at_nJ (by decide) h
theorem p91 {M : Mm} {k : Nat} {v : Int64} (h : k < 90) : t_X9_put_ M 91 (nI k) v = sJ M 91 k v := put_nJ (by decide) h
theorem a94 {M : Mm} {k : Nat} (h : k < 10) : t_X9_at_ M 94 (nI k) = M.2.1 94 k := at_nJ (by decide) h
theorem p94 {M : Mm} {k : Nat} {v : Int64} (h : k < 10) : t_X9_put_ M 94 (nI k) v = sJ M 94 k v := put_nJ (by decide) h
theorem a95 {M : Mm} {k : Nat} (h : k < 9) : t_X9_at_ M 95 (nI k) = M.2.1 95 k := at_nJ (by decide) h
theorem p95 {M : Mm} {k : Nat} {v : Int64} (h : k < 9) : t_X9_put_ M 95 (nI k) v = sJ M 95 k v := put_nJ (by decide) h
