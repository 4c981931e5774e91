/-! long sets: bits counted -/
theorem tb_by {a b : Nat} (h : b < 256) (j : Nat) : Nat.testBit (256 * a + b) j = if j < 8 then b.testBit j else a.testBit (j - 8) := Nat.testBit_two_pow_mul_add a (i := 8) h j
theorem and_by {a b c d : Nat} (h : b < 256) (h2 : d < 256) : (256 * a + b) &&& (256 * c + d) = 256 * (a &&& c) + (b &&& d) := by
  apply Nat.eq_of_testBit_eq
  intro j
  rw [Nat.testBit_and, tb_by h, tb_by h2, tb_by (Nat.lt_of_le_of_lt Nat.and_le_left h)]
  by_cases hj : j < 8
  · rw [if_pos hj, if_pos hj, if_pos hj, Nat.testBit_and]
  · rw [if_neg hj, if_neg hj, if_neg hj, Nat.testBit_and]
theorem sha_by {a b c d s : Nat} (h : b < 256) (hs : s < 8) (h2 : d < 2 ^ (8 - s)) : ((256 * a + b) >>> s) &&& (256 * c + d) = 256 * ((a >>> s) &&& c) + ((b >>> s) &&& d) := by
  have hd : d < 256 := Nat.lt_of_lt_of_le h2 (show 2 ^ (8 - s) ≤ 2 ^ 8 from Nat.pow_le_pow_right (by decide) (by omega))
  apply Nat.eq_of_testBit_eq
  intro j
  rw [Nat.testBit_and, Nat.testBit_shiftRight, tb_by h, tb_by hd, tb_by (Nat.lt_of_le_of_lt Nat.and_le_right hd)]
  by_cases hj : j < 8
  · rw [if_pos hj, if_pos hj, Nat.testBit_and, Nat.testBit_shiftRight]
    by_cases hk : s + j < 8
    · rw [if_pos hk]
    · have e : d.testBit j = false := Nat.testBit_lt_two_pow (Nat.lt_of_lt_of_le h2 (Nat.pow_le_pow_right (by decide) (by omega)))
      rw [e, Bool.and_false, Bool.and_false]
  · rw [if_neg hj, if_neg hj, if_neg (by omega), Nat.testBit_and, Nat.testBit_shiftRight, show s + j - 8 = s + (j - 8) by omega]
def bys : Nat → (Nat → Nat) → Nat
  | 0, _ => 0
  | k + 1, y => 256 * bys k (fun i => y (i + 1)) + y 0
theorem bys_succ {k : Nat} {y : Nat → Nat} : bys (k + 1) y = 256 * bys k (fun i => y (i + 1)) + y 0 := rfl
theorem bys_of (X : Nat) : ∀ k, X < 256 ^ k → bys k (fun i => X / 256 ^ i % 256) = X := by
  intro k
  induction k generalizing X with
  | zero => intro h; have : X = 0 := by rw [Nat.pow_zero] at h; omega
            rw [this]; rfl
  | succ k ih =>
    intro h
    have e : (fun i => X / 256 ^ (i + 1) % 256) = (fun i => X / 256 / 256 ^ i % 256) := by
      funext i
      rw [Nat.div_div_eq_div_mul, Nat.pow_succ, Nat.mul_comm]
    have h2 : X / 256 < 256 ^ k := by
      rw [Nat.pow_succ] at h
      exact Nat.div_lt_of_lt_mul (by rw [Nat.mul_comm]; exact h)
    rw [bys_succ, e, ih _ h2, Nat.pow_zero, Nat.div_one]
    omega
def pg1 (b : Nat) : Nat := b - ((b >>> 1) &&& 85)
def pg2 (b : Nat) : Nat := (b &&& 51) + ((b >>> 2) &&& 51)
theorem sub_by {a b c d : Nat} (h1 : c ≤ a) (h2 : d ≤ b) : 256 * a + b - (256 * c + d) = 256 * (a - c) + (b - d) := by omega
theorem le_sh {a m s : Nat} : (a >>> s) &&& m ≤ a := Nat.le_trans Nat.and_le_left (by rw [Nat.shiftRight_eq_div_pow]; exact Nat.div_le_self _ _)
theorem bst1 : ∀ k (y : Nat → Nat), (∀ i, y i < 256) → bys k y - ((bys k y >>> 1) &&& bys k (fun _ => 85)) = bys k (fun i => pg1 (y i)) := by
  intro k
  induction k with
  | zero => intro y h; show 0 - ((0 >>> 1) &&& 0) = 0; decide
  | succ k ih =>
    intro y h
    rw [bys_succ, bys_succ (y := fun _ => 85), bys_succ, sha_by (h 0) (by decide) (by decide), sub_by le_sh le_sh, ih _ (fun i => h (i + 1))]
    rfl
theorem bst2 : ∀ k (y : Nat → Nat), (∀ i, y i < 256) → (bys k y &&& bys k (fun _ => 51)) + ((bys k y >>> 2) &&& bys k (fun _ => 51)) = bys k (fun i => pg2 (y i)) := by
  intro k
  induction k with
  | zero => intro y h; show (0 &&& 0) + ((0 >>> 2) &&& 0) = 0; decide
  | succ k ih =>
    intro y h
    rw [bys_succ, bys_succ (y := fun _ => 51), bys_succ, sha_by (h 0) (by decide) (by decide), and_by (h 0) (by decide), ← ih _ (fun i => h (i + 1))]
    unfold pg2
    omega
theorem bst3 : ∀ k (y : Nat → Nat), (∀ i, y i < 256 ∧ y i % 16 ≤ 4 ∧ y i / 16 ≤ 4) → (bys k y + (bys k y >>> 4)) &&& bys k (fun _ => 15) = bys k (fun i => y i % 16 + y i / 16) ∧ bys k y % 16 ≤ 4 := by
  intro k
  induction k with
  | zero => intro y h; exact ⟨(by decide : (0 + (0 >>> 4)) &&& 0 = 0), (by decide : 0 % 16 ≤ 4)⟩
  | succ k ih =>
    intro y h
    obtain ⟨i1, i2⟩ := ih _ (fun i => h (i + 1))
    obtain ⟨h1, h2, h3⟩ := h 0
    rw [bys_succ, bys_succ (y := fun _ => 15), bys_succ]
    generalize bys k (fun i => y (i + 1)) = a at i1 i2 ⊢
    refine ⟨?_, by omega⟩
    rw [← i1]
    have e : 256 * a + y 0 + (256 * a + y 0) >>> 4 = 256 * (a + a >>> 4) + (16 * (y 0 / 16 + a % 16) + (y 0 % 16 + y 0 / 16)) := by
      rw [Nat.shiftRight_eq_div_pow, Nat.shiftRight_eq_div_pow]
      omega
    rw [e, and_by (by omega) (by decide)]
    have e2 : (16 * (y 0 / 16 + a % 16) + (y 0 % 16 + y 0 / 16)) &&& 15 = y 0 % 16 + y 0 / 16 := by
      rw [show (15 : Nat) = 2 ^ 4 - 1 from rfl, Nat.and_two_pow_sub_one_eq_mod]
      omega
    rw [e2]
theorem pg_all : ∀ b, b < 256 → pg1 b < 256 ∧ (pg2 (pg1 b) < 256 ∧ pg2 (pg1 b) % 16 ≤ 4 ∧ pg2 (pg1 b) / 16 ≤ 4) ∧ pg2 (pg1 b) % 16 + pg2 (pg1 b) / 16 = cntB (fun i => b.testBit i) 8 := by decide +kernel
theorem cntB_split {p : Nat → Bool} {a : Nat} : ∀ n, cntB p (a + n) = cntB p a + cntB (fun i => p (a + i)) n := by
  intro n
  induction n with
  | zero => rfl
  | succ n ih =>
    rw [← Nat.add_assoc, cntB_succ, cntB_succ, ih]
    by_cases h : p (a + n) = true
    · rw [if_pos h, if_pos h]; omega
    · rw [if_neg h, if_neg h]
theorem sumN_shift {g : Nat → Nat} : ∀ n, sumN g (n + 1) = sumN (fun i => g (i + 1)) n + g 0 := by
  intro n
  induction n with
  | zero => rfl
  | succ n ih => rw [sumN_succ, ih, sumN_succ]; omega
theorem bys_cnt : ∀ k (y : Nat → Nat), (∀ i, y i < 256) → cntB (fun i => (bys k y).testBit i) (8 * k) = sumN (fun i => cntB (fun j => (y i).testBit j) 8) k := by
  intro k
  induction k with
  | zero => intro y h; rfl
  | succ k ih =>
    intro y h
    rw [show 8 * (k + 1) = 8 + 8 * k by omega, cntB_split, sumN_shift, ← ih _ (fun i => h (i + 1)), Nat.add_comm]
    congr 1
    · refine cntB_cg (fun i hi => ?_)
      rw [bys_succ, tb_by (h 0), if_neg (by omega), show 8 + i - 8 = i by omega]
    · refine cntB_cg (fun i hi => ?_)
      rw [bys_succ, tb_by (h 0), if_pos hi]
theorem sum8 {c0 c1 c2 c3 c4 c5 c6 c7 : Nat} (h0 : c0 ≤ 8) (h1 : c1 ≤ 8) (h2 : c2 ≤ 8) (h3 : c3 ≤ 8) (h4 : c4 ≤ 8) (h5 : c5 ≤ 8) (h6 : c6 ≤ 8) (h7 : c7 ≤ 8) {X Y Z W : Nat} (hX : X = c0 + 256 * (c1 + 256 * (c2 + 256 * (c3 + 256 * (c4 + 256 * (c5 + 256 * (c6 + 256 * c7))))))) (hY : Y = X + X / 256) (hZ : Z = Y + Y / 65536) (hW : W = Z + Z / 4294967296) : W < 18446744073709551616 ∧ W % 128 = c0 + c1 + c2 + c3 + c4 + c5 + c6 + c7 := by
  have dv : ∀ a b : Nat, a < 256 → (a + 256 * b) / 256 = b := fun a b h => by omega
  have dw : ∀ a b c : Nat, a < 256 → b < 256 → (a + 256 * (b + 256 * c)) / 65536 = c := fun a b c h1 h2 => by omega
  have dz : ∀ a b c d e : Nat, a < 256 → b < 256 → c < 256 → d < 256 → (a + 256 * (b + 256 * (c + 256 * (d + 256 * e)))) / 4294967296 = e := fun a b c d e h1 h2 h3 h4 => by omega
  have e1 : X / 256 = c1 + 256 * (c2 + 256 * (c3 + 256 * (c4 + 256 * (c5 + 256 * (c6 + 256 * c7))))) := by rw [hX]; exact dv _ _ (by omega)
  have e2 : Y = (c0 + c1) + 256 * ((c1 + c2) + 256 * ((c2 + c3) + 256 * ((c3 + c4) + 256 * ((c4 + c5) + 256 * ((c5 + c6) + 256 * ((c6 + c7) + 256 * c7)))))) := by rw [hY, e1, hX]; omega
  clear hX hY e1
  have e3 : Y / 65536 = (c2 + c3) + 256 * ((c3 + c4) + 256 * ((c4 + c5) + 256 * ((c5 + c6) + 256 * ((c6 + c7) + 256 * c7)))) := by rw [e2]; exact dw _ _ _ (by omega) (by omega)
  have e4 : Z = (c0 + c1 + c2 + c3) + 256 * ((c1 + c2 + c3 + c4) + 256 * ((c2 + c3 + c4 + c5) + 256 * ((c3 + c4 + c5 + c6) + 256 * ((c4 + c5 + c6 + c7) + 256 * ((c5 + c6 + c7) + 256 * ((c6 + c7) + 256 * c7)))))) := by rw [hZ, e3, e2]; omega
  clear hZ e2 e3
  have e5 : Z / 4294967296 = (c4 + c5 + c6 + c7) + 256 * ((c5 + c6 + c7) + 256 * ((c6 + c7) + 256 * c7)) := by rw [e4]; exact dz _ _ _ _ _ (by omega) (by omega) (by omega) (by omega)
  have e6 : W = (c0 + c1 + c2 + c3 + c4 + c5 + c6 + c7) + 256 * ((c1 + c2 + c3 + c4 + c5 + c6 + c7) + 256 * ((c2 + c3 + c4 + c5 + c6 + c7) + 256 * ((c3 + c4 + c5 + c6 + c7) + 256 * ((c4 + c5 + c6 + c7) + 256 * ((c5 + c6 + c7) + 256 * ((c6 + c7) + 256 * c7)))))) := by rw [hW, e5, e4]; omega
  clear hW e4 e5
  have m1 : ∀ a b : Nat, a < 128 → (a + 256 * b) % 128 = a := fun a b h => by omega
  refine ⟨?_, by rw [e6]; exact m1 _ _ (by omega)⟩
  rw [e6]
  omega
/-- a long as a number -/
def U8 (x : Int64) : Nat := x.toUInt64.toNat
theorem U_lt (x : Int64) : U8 x < 18446744073709551616 := UInt64.toNat_lt _
theorem U_inj {x y : Int64} (h : U8 x = U8 y) : x = y := Int64.toBitVec_inj.mp (BitVec.eq_of_toNat_eq h)
theorem U_and (x y : Int64) : U8 (x &&& y) = U8 x &&& U8 y := UInt64.toNat_and _ _
theorem U_or (x y : Int64) : U8 (x ||| y) = U8 x ||| U8 y := UInt64.toNat_or _ _
theorem U_xor (x y : Int64) : U8 (x ^^^ y) = U8 x ^^^ U8 y := UInt64.toNat_xor _ _
theorem U_add (x y : Int64) : U8 (x + y) = (U8 x + U8 y) % 18446744073709551616 := UInt64.toNat_add _ _
theorem U_sub {x y : Int64} (h : U8 y ≤ U8 x) : U8 (x - y) = U8 x - U8 y := UInt64.toNat_sub_of_le _ _ (UInt64.le_iff_toNat_le.mpr h)
theorem lu_all : ∀ k, k < 64 → ((nI k).toInt64.toUInt64 &&& Int64.toUInt64 63).toNat % 64 = k := by decide +kernel
theorem U_lush (x : Int64) {k : Nat} (hk : k < 64) : U8 (lush x (nI k)) = U8 x >>> k := by
  have e : U8 (lush x (nI k)) = (x.toUInt64 >>> ((nI k).toInt64.toUInt64 &&& Int64.toUInt64 63)).toNat := rfl
  rw [e, UInt64.toNat_shiftRight, lu_all k hk]
  rfl
theorem U_lsh1 : ∀ k, k < 64 → U8 (lsh 1 (nI k)) = 2 ^ k := by decide +kernel
theorem U_32 (x : Int64) : Int64.toInt32 x = nI (U8 x % 4294967296) := by
  rw [i_nI (Int64.toInt32 x)]
  congr 1
  show (x.toBitVec.signExtend 32).toNat = x.toBitVec.toNat % 2 ^ 32
  rw [BitVec.signExtend_eq_setWidth_of_le _ (by decide), BitVec.toNat_setWidth]
theorem bit64 {M : Mm} {x : Int64} : f_J13_bitCount_95d88 M x = some (nI (cntB (fun i => (U8 x).testBit i) 64)) := by
  have hx : U8 x < 256 ^ 8 := U_lt x
  have hy : ∀ i, U8 x / 256 ^ i % 256 < 256 := fun i => Nat.mod_lt _ (by decide)
  have hb := bys_of (U8 x) 8 hx
  generalize hyy : (fun i => U8 x / 256 ^ i % 256) = y at hb
  have hy : ∀ i, y i < 256 := fun i => by rw [← hyy]; exact hy i
  have s1 := bst1 8 y hy
  have s2 := bst2 8 _ (fun i => (pg_all (y i) (hy i)).1)
  have s3 := (bst3 8 _ (fun i => (pg_all (y i) (hy i)).2.1)).1
  have s4 := bys_cnt 8 y hy
  rw [hb] at s1 s4
  have e1 : U8 (x - (lush x 1 &&& 6148914691236517205)) = bys 8 (fun i => pg1 (y i)) := by
    have e : U8 (lush x 1 &&& 6148914691236517205) = (U8 x >>> 1) &&& bys 8 (fun _ => 85) := by
      rw [U_and, show lush x 1 = lush x (nI 1) from rfl, U_lush x (by decide)]; rfl
    rw [U_sub (by rw [e]; exact le_sh), e, s1]
  unfold f_J13_bitCount_95d88
  rw [Option.bind_some]
  generalize x - (lush x 1 &&& 6148914691236517205) = x1 at e1
  have l2 : bys 8 (fun i => pg2 (pg1 (y i))) < 18446744073709551616 := by
    have hb2 : ∀ k (w : Nat → Nat), (∀ i, w i < 256) → bys k w < 256 ^ k := by
      intro k
      induction k with
      | zero => intro w hw; exact (by decide : 0 < 256 ^ 0)
      | succ k ih =>
        intro w hw
        have h1 := ih _ (fun i => hw (i + 1))
        have h2 := hw 0
        rw [bys_succ, Nat.pow_succ]
        omega
    exact hb2 8 _ (fun i => (pg_all (y i) (hy i)).2.1.1)
  have e2 : U8 ((x1 &&& 3689348814741910323) + (lush x1 2 &&& 3689348814741910323)) = bys 8 (fun i => pg2 (pg1 (y i))) := by
    rw [U_add, U_and, U_and, show lush x1 2 = lush x1 (nI 2) from rfl, U_lush x1 (by decide), e1, show U8 3689348814741910323 = bys 8 (fun _ => 51) from rfl, s2]
    exact Nat.mod_eq_of_lt l2
  rw [Option.bind_some]
  generalize (x1 &&& 3689348814741910323) + (lush x1 2 &&& 3689348814741910323) = x2 at e2
  have lb : bys 8 (fun i => pg2 (pg1 (y i))) + bys 8 (fun i => pg2 (pg1 (y i))) >>> 4 < 18446744073709551616 := by
    have hb2 : ∀ k (w : Nat → Nat), (∀ i, w i < 128) → 2 * bys k w < 256 ^ k := by
      intro k
      induction k with
      | zero => intro w hw; exact (by decide : 0 < 256 ^ 0)
      | succ k ih =>
        intro w hw
        have h1 := ih _ (fun i => hw (i + 1))
        have h2 := hw 0
        rw [bys_succ, Nat.pow_succ]
        omega
    have h3 : 2 * bys 8 (fun i => pg2 (pg1 (y i))) < 18446744073709551616 := hb2 8 _ (fun i => by have := (pg_all (y i) (hy i)).2.1; omega)
    rw [Nat.shiftRight_eq_div_pow]
    omega
  have e3 : U8 ((x2 + lush x2 4) &&& 1085102592571150095) = bys 8 (fun i => pg2 (pg1 (y i)) % 16 + pg2 (pg1 (y i)) / 16) := by
    rw [U_and, U_add, show lush x2 4 = lush x2 (nI 4) from rfl, U_lush x2 (by decide), e2, Nat.mod_eq_of_lt lb, show U8 1085102592571150095 = bys 8 (fun _ => 15) from rfl, s3]
  rw [Option.bind_some]
  generalize (x2 + lush x2 4) &&& 1085102592571150095 = x3 at e3
  have hc : ∀ i, pg2 (pg1 (y i)) % 16 + pg2 (pg1 (y i)) / 16 = cntB (fun j => (y i).testBit j) 8 := fun i => (pg_all (y i) (hy i)).2.2
  have hc8 : ∀ i, cntB (fun j => (y i).testBit j) 8 ≤ 8 := fun i => cntB_le _ 8
  simp only [hc] at e3
  generalize hcc : (fun i => cntB (fun j => (y i).testBit j) 8) = c at e3 s4
  have hc8 : ∀ i, c i ≤ 8 := fun i => by rw [← hcc]; exact hc8 i
  have eX : U8 x3 = c 0 + 256 * (c 1 + 256 * (c 2 + 256 * (c 3 + 256 * (c 4 + 256 * (c 5 + 256 * (c 6 + 256 * c 7)))))) := by
    rw [e3]
    show 256 * (256 * (256 * (256 * (256 * (256 * (256 * (256 * 0 + c 7) + c 6) + c 5) + c 4) + c 3) + c 2) + c 1) + c 0 = _
    omega
  have hcnt : cntB (fun i => (U8 x).testBit i) 64 = c 0 + c 1 + c 2 + c 3 + c 4 + c 5 + c 6 + c 7 := by
    have : cntB (fun i => (U8 x).testBit i) (8 * 8) = sumN c 8 := s4
    rw [show 64 = 8 * 8 from rfl, this]
    show 0 + c 0 + c 1 + c 2 + c 3 + c 4 + c 5 + c 6 + c 7 = _
    rw [Nat.zero_add]
  obtain ⟨w1, w2⟩ := sum8 (hc8 0) (hc8 1) (hc8 2) (hc8 3) (hc8 4) (hc8 5) (hc8 6) (hc8 7) eX rfl rfl rfl
  generalize hX : U8 x3 = X at w1 w2
  have a1 : U8 (x3 + lush x3 8) = X + X / 256 := by
    rw [U_add, show lush x3 8 = lush x3 (nI 8) from rfl, U_lush x3 (by decide), hX, Nat.shiftRight_eq_div_pow]
    exact Nat.mod_eq_of_lt (Nat.lt_of_le_of_lt (Nat.le_add_right _ _) (Nat.lt_of_le_of_lt (Nat.le_add_right _ _) w1))
  rw [Option.bind_some]
  generalize x3 + lush x3 8 = x4 at a1
  have a2 : U8 (x4 + lush x4 16) = X + X / 256 + (X + X / 256) / 65536 := by
    rw [U_add, show lush x4 16 = lush x4 (nI 16) from rfl, U_lush x4 (by decide), a1, Nat.shiftRight_eq_div_pow]
    exact Nat.mod_eq_of_lt (Nat.lt_of_le_of_lt (Nat.le_add_right _ _) w1)
  generalize x4 + lush x4 16 = x5 at a2
  have a3 : U8 (x5 + lush x5 32) = X + X / 256 + (X + X / 256) / 65536 + (X + X / 256 + (X + X / 256) / 65536) / 4294967296 := by
    rw [U_add, show lush x5 32 = lush x5 (nI 32) from rfl, U_lush x5 (by decide), a2, Nat.shiftRight_eq_div_pow]
    exact Nat.mod_eq_of_lt w1
  generalize x5 + lush x5 32 = x6 at a3
  rw [U_32, a3]
  generalize X + X / 256 + (X + X / 256) / 65536 + (X + X / 256 + (X + X / 256) / 65536) / 4294967296 = W at w1 w2
  rw [show (127 : Int32) = nI 127 from rfl, nx_and, hcnt, ← w2, show (127 : Nat) = 2 ^ 7 - 1 from rfl, Nat.and_two_pow_sub_one_eq_mod]
  congr 2
  exact Nat.mod_mod_of_dvd W (by decide)
