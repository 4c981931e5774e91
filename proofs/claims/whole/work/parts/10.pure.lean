def rm_J0_isLatin1_aae02 : Room := rmz 0 0
def f_J0_isLatin1_aae02 (M : Mm) (a0 : Nat) : Bool :=
  if (1 : Int32) = 0 then false else (if (0 : Int32) = 0 then true else false)
def rm_J1_charAt_3b067 : Room := rmz 3 81
def f_J1_charAt_3b067 (M : Mm) (a0 : Nat) (a1 : Int32) : Option (Int32) :=
  (f_J0_checkIndex_df160 M a1 (Int32.ofNat (bq a0).length)).bind (fun r1 => if ibs a1 (bq a0).length = true then (some (i2c (((bq a0).getD a1.toNatClampNeg 0) &&& 255))) else none)
def rm_J0_charAt_5068e : Room := rmz 4 102
def f_J0_charAt_5068e (M : Mm) (a0 : Nat) (a1 : Int32) : Option (Int32) :=
  if (f_J0_isLatin1_aae02 M a0) = true then ((f_J1_charAt_3b067 M (a0 + 200) a1).bind (fun r1 => if i2c r1 = r1 then some r1 else none)) else none
def rm_J0_coder_7d493 : Room := rmz 0 0
def f_J0_coder_7d493 (M : Mm) (a0 : Nat) : Int32 :=
  if (1 : Int32) = 0 then 1 else 0
def rm_J0_length_8abf5 : Room := rmz 1 20
def f_J0_length_8abf5 (M : Mm) (a0 : Nat) : Int32 :=
  ((Int32.ofNat (bq (a0 + 200)).length) >>> ((f_J0_coder_7d493 M a0) &&& 31))
def rm_J13_bitCount_95d88 : Room := rmz 0 0
def f_J13_bitCount_95d88 (M : Mm) (a0 : Int64) : Option (Int32) :=
  (some (a0 - ((lush a0 1) &&& 6148914691236517205))).bind (fun x1 => (some ((x1 &&& 3689348814741910323) + ((lush x1 2) &&& 3689348814741910323))).bind (fun x2 => (some ((x2 + (lush x2 4)) &&& 1085102592571150095)).bind (fun x3 => (some ((x3 + (lush x3 8)) + (lush (x3 + (lush x3 8)) 16))).bind (fun x4 => some ((Int64.toInt32 (x4 + (lush x4 32))) &&& 127)))))
def rm_J6_bitCount_0f7a4 : Room := rmz 0 0
def f_J6_bitCount_0f7a4 (M : Mm) (a0 : Int32) : Option (Int32) :=
  (some (a0 - ((iush a0 1) &&& 1431655765))).bind (fun x1 => (some ((x1 &&& 858993459) + ((iush x1 2) &&& 858993459))).bind (fun x2 => (some ((x2 + (iush x2 4)) &&& 252645135)).bind (fun x3 => (some ((x3 + (iush x3 8)) + (iush (x3 + (iush x3 8)) 16))).bind (fun x4 => some (x4 &&& 63)))))
def rm_J6_numberOfTrailingZeros_0f7a4 : Room := rmz 0 0
def f_J6_numberOfTrailingZeros_0f7a4_J74 (M : Mm) (v0 : Int32) (v1 : Int32) : Option (Int32) :=
  some (v1 + (iush v0 1))
def f_J6_numberOfTrailingZeros_0f7a4_J62 (M : Mm) (v0 : Int32) (v1 : Int32) : Option (Int32) :=
  if v0 ≤ 4 then (f_J6_numberOfTrailingZeros_0f7a4_J74 M v0 v1) else (f_J6_numberOfTrailingZeros_0f7a4_J74 M (iush v0 2) (v1 + 2))
def f_J6_numberOfTrailingZeros_0f7a4_J49 (M : Mm) (v0 : Int32) (v1 : Int32) : Option (Int32) :=
  if v0 ≤ 16 then (f_J6_numberOfTrailingZeros_0f7a4_J62 M v0 v1) else (f_J6_numberOfTrailingZeros_0f7a4_J62 M (iush v0 4) (v1 + 4))
def f_J6_numberOfTrailingZeros_0f7a4_J34 (M : Mm) (v0 : Int32) (v1 : Int32) : Option (Int32) :=
  if v0 ≤ 256 then (f_J6_numberOfTrailingZeros_0f7a4_J49 M v0 v1) else (f_J6_numberOfTrailingZeros_0f7a4_J49 M (iush v0 8) (v1 + 8))
def f_J6_numberOfTrailingZeros_0f7a4 (M : Mm) (a0 : Int32) : Option (Int32) :=
  (some ((a0 ^^^ (-1)) &&& (a0 - 1))).bind (fun x1 => if 0 < x1 then (if x1 ≤ 65536 then (f_J6_numberOfTrailingZeros_0f7a4_J34 M x1 1) else (f_J6_numberOfTrailingZeros_0f7a4_J34 M (iush x1 16) (1 + 16))) else (some (x1 &&& 32)))
def rm_J7_fill_53178 : Room := rmz 0 0
def f_J7_fill_53178_L5 (M : Mm) (v0 : Nat) (v1 : Int32) (v2 : Int32) (v3 : Int32) : Option ((Mm × Int32) ⊕ Mm) :=
  if v3 ≤ v2 then (some (.inr M)) else (if ibs v2 (ln v0) = true then (some (sA M v0 v2 v1)).bind (fun M1 => some (.inl (M1, (v2 + 1)))) else none)
def f_J7_fill_53178 (M : Mm) (a0 : Nat) (a1 : Int32) : Option (Mm) :=
  (loop FU (fun a_2 => f_J7_fill_53178_L5 a_2.1 a0 a1 a_2.2 (Int32.ofNat (ln a0))) (M, 0)).bind (fun e_2 => some e_2)
def rm_J7_fill_d0a16 : Room := rmz 0 0
def f_J7_fill_d0a16_L6 (M : Mm) (v0 : Nat) (v1 : Int64) (v3 : Int32) (v4 : Int32) : Option ((Mm × Int32) ⊕ Mm) :=
  if v4 ≤ v3 then (some (.inr M)) else (if ibs v3 (ln v0) = true then (some (sL M v0 v3 v1)).bind (fun M1 => some (.inl (M1, (v3 + 1)))) else none)
def f_J7_fill_d0a16 (M : Mm) (a0 : Nat) (a1 : Int64) : Option (Mm) :=
  (loop FU (fun a_2 => f_J7_fill_d0a16_L6 a_2.1 a0 a1 a_2.2 (Int32.ofNat (ln a0))) (M, 0)).bind (fun e_2 => some e_2)
def rm_X9_at : Room := rmz 0 0
def f_X9_at (M : Mm) (a0 : Nat) (a1 : Int32) : Option (Int32) :=
  if a1 < 0 then (some 0) else (if (Int32.ofNat (ln a0)) ≤ a1 then (some 0) else (if ibs a1 (ln a0) = true then (some (gA M a0 a1)) else none))
theorem ln_lt (i : Nat) : ln i < 2 ^ 31 := by
  unfold ln
  rcases Nat.lt_or_ge i lns.length with h | h
  · exact (show ∀ j, j < lns.length → lns.getD j 0 < 2 ^ 31 by decide +kernel) i h
  · rw [List.getD_eq_getElem?_getD, List.getElem?_eq_none h]
    decide
theorem ibs_neg {x : Int32} {n : Nat} (h : x < 0) : ibs x n = false := decide_eq_false (fun q => q (Or.inl h))
theorem ibs_big {x : Int32} {n : Nat} (hn : n < 2 ^ 31) (h1 : ¬ x < 0) (h : Int32.ofNat n ≤ x) : ibs x n = false := by
  refine decide_eq_false (fun q => q (Or.inr ?_))
  rcases pk_ix x hn with h2 | h2 | ⟨j, h3, h4⟩
  · exact absurd h2 h1
  · rw [Int32.le_iff_toInt_le] at h2
    have e1 : (nI n).toInt = n := nI_toInt hn
    obtain ⟨j, hj, rfl⟩ := nI_of h1
    rw [e1, nI_toInt hj] at h2
    rw [nI_clamp hj]
    omega
  · subst h4
    exact absurd h (nI_ge h3 hn)
theorem ibs_ok {x : Int32} {n : Nat} (hn : n < 2 ^ 31) (h1 : ¬ x < 0) (h : ¬ Int32.ofNat n ≤ x) : ibs x n = true := by
  refine decide_eq_true ?_
  rcases pk_ix x hn with h2 | h2 | ⟨j, h3, h4⟩
  · exact absurd h2 h1
  · exact absurd h2 h
  · subst h4
    exact nI_in h3 hn
def t_X9_at (M : Mm) (a0 : Nat) (a1 : Int32) : Int32 := if ibs a1 (ln a0) = true then gA M a0 a1 else 0
theorem te_X9_at {M : Mm} {a0 : Nat} {a1 : Int32} : f_X9_at M a0 a1 = some (t_X9_at M a0 a1) := by
  unfold f_X9_at t_X9_at
  by_cases h1 : a1 < 0
  · rw [if_pos h1, ibs_neg h1]; rfl
  · rw [if_neg h1]
    by_cases h2 : Int32.ofNat (ln a0) ≤ a1
    · rw [if_pos h2, ibs_big (ln_lt a0) h1 h2]; rfl
    · rw [if_neg h2, ibs_ok (ln_lt a0) h1 h2]; rfl
def rm_X9_put_ : Room := rmz 0 0
def f_X9_put_ (M : Mm) (a0 : Nat) (a1 : Int32) (a2 : Int64) : Option (Mm) :=
  if a1 < 0 then (some M) else (if (Int32.ofNat (ln a0)) ≤ a1 then (some M) else (if ibs a1 (ln a0) = true then (some (sL M a0 a1 a2)).bind (fun M1 => some M1) else none))
def t_X9_put_ (M : Mm) (a0 : Nat) (a1 : Int32) (a2 : Int64) : Mm := if ibs a1 (ln a0) = true then sL M a0 a1 a2 else M
theorem te_X9_put_ {M : Mm} {a0 : Nat} {a1 : Int32} {a2 : Int64} : f_X9_put_ M a0 a1 a2 = some (t_X9_put_ M a0 a1 a2) := by
  unfold f_X9_put_ t_X9_put_
  by_cases h1 : a1 < 0
  · rw [if_pos h1, ibs_neg h1]; rfl
  · rw [if_neg h1]
    by_cases h2 : Int32.ofNat (ln a0) ≤ a1
    · rw [if_pos h2, ibs_big (ln_lt a0) h1 h2]; rfl
    · rw [if_neg h2, ibs_ok (ln_lt a0) h1 h2]; rfl
def rm_X9_at_ : Room := rmz 0 0
def f_X9_at_ (M : Mm) (a0 : Nat) (a1 : Int32) : Option (Int64) :=
  if a1 < 0 then (some 0) else (if (Int32.ofNat (ln a0)) ≤ a1 then (some 0) else (if ibs a1 (ln a0) = true then (some (gL M a0 a1)) else none))
def t_X9_at_ (M : Mm) (a0 : Nat) (a1 : Int32) : Int64 := if ibs a1 (ln a0) = true then gL M a0 a1 else 0
theorem te_X9_at_ {M : Mm} {a0 : Nat} {a1 : Int32} : f_X9_at_ M a0 a1 = some (t_X9_at_ M a0 a1) := by
  unfold f_X9_at_ t_X9_at_
  by_cases h1 : a1 < 0
  · rw [if_pos h1, ibs_neg h1]; rfl
  · rw [if_neg h1]
    by_cases h2 : Int32.ofNat (ln a0) ≤ a1
    · rw [if_pos h2, ibs_big (ln_lt a0) h1 h2]; rfl
    · rw [if_neg h2, ibs_ok (ln_lt a0) h1 h2]; rfl
def rm_X0_worth : Room := rmz 1 21
def f_X0_worth (M : Mm) (a1 : Int32) (a2 : Int32) : Int64 :=
  (t_X9_at_ M 91 ((a1 * 10) + a2))
def rm_X9_put : Room := rmz 0 0
def f_X9_put (M : Mm) (a0 : Nat) (a1 : Int32) (a2 : Int32) : Option (Mm) :=
  if a1 < 0 then (some M) else (if (Int32.ofNat (ln a0)) ≤ a1 then (some M) else (if ibs a1 (ln a0) = true then (some (sA M a0 a1 a2)).bind (fun M1 => some M1) else none))
def t_X9_put (M : Mm) (a0 : Nat) (a1 : Int32) (a2 : Int32) : Mm := if ibs a1 (ln a0) = true then sA M a0 a1 a2 else M
theorem te_X9_put {M : Mm} {a0 : Nat} {a1 : Int32} {a2 : Int32} : f_X9_put M a0 a1 a2 = some (t_X9_put M a0 a1 a2) := by
  unfold f_X9_put t_X9_put
  by_cases h1 : a1 < 0
  · rw [if_pos h1, ibs_neg h1]; rfl
  · rw [if_neg h1]
    by_cases h2 : Int32.ofNat (ln a0) ≤ a1
    · rw [if_pos h2, ibs_big (ln_lt a0) h1 h2]; rfl
    · rw [if_neg h2, ibs_ok (ln_lt a0) h1 h2]; rfl
def rm_X0_reachThings : Room := rmz 2 43
def f_X0_reachThings_J24_75 (M : Mm) (v1 : Int32) (v2 : Int32) (v3 : Int64) (v5 : Int32) (v6 : Int64) (t0 : Int32) : Option ((Mm × Int32 × Int32) ⊕ (Mm × Int32)) :=
  if t0 = 0 then (some (.inl (M, v1, (v5 + 1)))) else (if (lg_cmp (v3 + v6) (t_X9_at_ M 95 v5)) ≤ 0 then (some (.inl (M, v1, (v5 + 1)))) else ((some (t_X9_put_ M 95 v5 (v3 + v6))).bind (fun M1 => (some (t_X9_put M1 96 v5 v2)).bind (fun M2 => some (.inl (M2, 1, (v5 + 1)))))))
def f_X0_reachThings_J24_74 (M : Mm) (v1 : Int32) (v2 : Int32) (v3 : Int64) (v5 : Int32) (v6 : Int64) : Option ((Mm × Int32 × Int32) ⊕ (Mm × Int32)) :=
  f_X0_reachThings_J24_75 M v1 v2 v3 v5 v6 0
def f_X0_reachThings_L24 (M : Mm) (v1 : Int32) (v2 : Int32) (v3 : Int64) (v5 : Int32) : Option ((Mm × Int32 × Int32) ⊕ (Mm × Int32)) :=
  if (gI M 90 6) ≤ v5 then (some (.inr (M, v1))) else (if (lg_cmp v3 (-1000000000000000000)) = 0 then (some (.inr (M, v1))) else (if (lg_cmp (f_X0_worth M v5 v2) 0) ≤ 0 then (f_X0_reachThings_J24_74 M v1 v2 v3 v5 (f_X0_worth M v5 v2)) else (if (t_X9_at M 92 v2) = v5 then (f_X0_reachThings_J24_74 M v1 v2 v3 v5 (f_X0_worth M v5 v2)) else (f_X0_reachThings_J24_75 M v1 v2 v3 v5 (f_X0_worth M v5 v2) 1))))
def f_X0_reachThings_L4 (M : Mm) (v1 : Int32) (v2 : Int32) : Option ((Mm × Int32 × Int32) ⊕ (Mm × Int32)) :=
  if (gI M 90 7) ≤ v2 then (some (.inr (M, v1))) else ((loop FU (fun a_3 => f_X0_reachThings_L24 a_3.1 a_3.2.1 v2 (t_X9_at_ M 94 v2) a_3.2.2) (M, v1, 0)).bind (fun e_3 => some (.inl (e_3.1, e_3.2, (v2 + 1)))))
def f_X0_reachThings (M : Mm)  : Option (Bool × Mm) :=
  (loop FU (fun a_4 => f_X0_reachThings_L4 a_4.1 a_4.2.1 a_4.2.2) (M, 0, 0)).bind (fun e_4 => if e_4.2 = 0 then some (false, e_4.1) else if e_4.2 = 1 then some (true, e_4.1) else none)
def rm_X0_reachVisitors : Room := rmz 2 43
def f_X0_reachVisitors_J4_40 (M : Mm) (v1 : Int32) (v2 : Int32) (v3 : Int32) (t0 : Int64) : Option ((Mm × Int32 × Int32) ⊕ (Mm × Int32)) :=
  if (lg_cmp t0 (-1000000000000000000)) = 0 then (some (.inl (M, v1, (v2 + 1)))) else (if (lg_cmp (t0 - (f_X0_worth M v3 v2)) (t_X9_at_ M 94 v2)) ≤ 0 then (some (.inl (M, v1, (v2 + 1)))) else ((some (t_X9_put_ M 94 v2 (t0 - (f_X0_worth M v3 v2)))).bind (fun M1 => some (.inl (M1, 1, (v2 + 1))))))
def f_X0_reachVisitors_L4 (M : Mm) (v1 : Int32) (v2 : Int32) : Option ((Mm × Int32 × Int32) ⊕ (Mm × Int32)) :=
  if (gI M 90 7) ≤ v2 then (some (.inr (M, v1))) else (if (t_X9_at M 92 v2) = (-1) then (f_X0_reachVisitors_J4_40 M v1 v2 (t_X9_at M 92 v2) (-1000000000000000000)) else (f_X0_reachVisitors_J4_40 M v1 v2 (t_X9_at M 92 v2) (t_X9_at_ M 95 (t_X9_at M 92 v2))))
def f_X0_reachVisitors (M : Mm)  : Option (Bool × Mm) :=
  (loop FU (fun a_2 => f_X0_reachVisitors_L4 a_2.1 a_2.2.1 a_2.2.2) (M, 0, 0)).bind (fun e_2 => if e_2.2 = 0 then some (false, e_2.1) else if e_2.2 = 1 then some (true, e_2.1) else none)
def rm_X0_bestEnd : Room := rmz 3 71
def f_X0_bestEnd_J12_44 (M : Mm) (v1 : Int32) (t0 : Int64) (t1 : Int32) : Option ((Mm × Int32) ⊕ Mm) :=
  (some (t_X9_put_ M 94 t1 t0)).bind (fun M2 => some (.inl (M2, (v1 + 1))))
def f_X0_bestEnd_L12 (M : Mm) (v1 : Int32) : Option ((Mm × Int32) ⊕ Mm) :=
  if (gI M 90 7) ≤ v1 then (some (.inr M)) else (if (t_X9_at M 92 v1) = (-1) then (f_X0_bestEnd_J12_44 M v1 0 v1) else (f_X0_bestEnd_J12_44 M v1 (-1000000000000000000) v1))
def f_X0_bestEnd_J57_85 (M : Mm) (v2 : Int32) : Option ((Mm × Int32 × Int32) ⊕ Mm) :=
  some (.inl (M, 1, (v2 + 1)))
def f_X0_bestEnd_L57 (M : Mm) (v1 : Int32) (v2 : Int32) : Option ((Mm × Int32 × Int32) ⊕ Mm) :=
  if (gI M 90 7) < v2 then (some (.inr M)) else (if v1 = 0 then (some (.inr M)) else ((f_X0_reachThings M ).bind (fun rr5 => (f_X0_reachVisitors rr5.2 ).bind (fun rr7 => if rr7.1 = true then (f_X0_bestEnd_J57_85 rr7.2 v2) else (if rr5.1 = true then (f_X0_bestEnd_J57_85 rr7.2 v2) else (some (.inl (rr7.2, 0, (v2 + 1)))))))))
def f_X0_bestEnd_L101 (M : Mm) (v2 : Int32) (v3 : Int32) : Option ((Int32 × Int32) ⊕ Int32) :=
  if (gI M 90 6) ≤ v3 then (some (.inr v2)) else (if (t_X9_at M 93 v3) ≤ 0 then (some (.inl (v2, (v3 + 1)))) else (if (lg_cmp (t_X9_at_ M 95 v3) 0) ≤ 0 then (some (.inl (v2, (v3 + 1)))) else (if v2 = (-1) then (some (.inl (v3, (v3 + 1)))) else (if (lg_cmp (t_X9_at_ M 95 v3) (t_X9_at_ M 95 v2)) ≤ 0 then (some (.inl (v2, (v3 + 1)))) else (some (.inl (v3, (v3 + 1))))))))
def f_X0_bestEnd (M : Mm)  : Option (Int32 × Mm) :=
  (f_J7_fill_d0a16 M 95 (-1000000000000000000)).bind (fun M1 => (loop FU (fun a_3 => f_X0_bestEnd_L12 a_3.1 a_3.2) (M1, 0)).bind (fun e_3 => (loop FU (fun a_8 => f_X0_bestEnd_L57 a_8.1 a_8.2.1 a_8.2.2) (e_3, 1, 0)).bind (fun e_8 => (loop FU (fun a_9 => f_X0_bestEnd_L101 e_8 a_9.1 a_9.2) ((-1), 0)).bind (fun e_9 => some (e_9, e_8)))))
def rm_X0_exchange : Room := rmz 1 22
def f_X0_exchange_L22 (M : Mm) (v2 : Int32) (v3 : Int32) : Option ((Mm × Int32 × Int32) ⊕ Mm) :=
  if 10 ≤ v3 then (some (.inr M)) else (if v2 = (-1) then (some (.inr M)) else ((some (t_X9_at M 92 (t_X9_at M 96 v2))).bind (fun x2 => (some (t_X9_put M 92 (t_X9_at M 96 v2) v2)).bind (fun M3 => some (.inl (M3, x2, (v3 + 1)))))))
def f_X0_exchange (M : Mm) (a1 : Int32) : Option (Mm) :=
  (some (t_X9_put M 93 a1 ((t_X9_at M 93 a1) - 1))).bind (fun M1 => (loop FU (fun a_4 => f_X0_exchange_L22 a_4.1 a_4.2.1 a_4.2.2) (M1, a1, 0)).bind (fun e_4 => some e_4))
def rm_X4_ofThing : Room := rmz 1 21
def f_X4_ofThing (M : Mm) (a0 : Nat) (a1 : Int32) (a2 : Int32) : Int32 :=
  (t_X9_at M (a0 + 1) ((a1 * 5) + a2))
def rm_X6_likes : Room := rmz 1 21
def f_X6_likes (M : Mm) (a1 : Int32) (a2 : Int32) : Int32 :=
  (t_X9_at M 83 ((a1 * 10) + a2))
def rm_X6_calls : Room := rmz 1 21
def f_X6_calls (M : Mm) (a1 : Int32) (a2 : Int32) : Bool :=
  if (((t_X9_at M 84 a1) >>> (a2 &&& 31)) &&& 1) = 1 then true else false
def rm_X0_setWorths : Room := rmz 2 43
def f_X0_setWorths_J19_84 (M : Mm) (v2 : Int64) (v4 : Int32) (v5 : Int32) (t0 : Int64) (t1 : Int32) : Option ((Mm × Int32) ⊕ Mm) :=
  (some (t_X9_put_ M 91 t1 t0)).bind (fun M2 => some (.inl (M2, (v5 + 1))))
def f_X0_setWorths_L19 (M : Mm) (v2 : Int64) (v4 : Int32) (v5 : Int32) : Option ((Mm × Int32) ⊕ Mm) :=
  if (gI M 90 6) ≤ v5 then (some (.inr M)) else ((some (((Int32.toInt64 (f_X6_likes M v5 v4)) * 10000000000) - ((Int32.toInt64 (v5 + 1)) * v2))).bind (fun x1 => if (f_X6_calls M v5 v4) = true then (f_X0_setWorths_J19_84 M v2 v4 v5 x1 ((v5 * 10) + v4)) else (f_X0_setWorths_J19_84 M v2 v4 v5 0 ((v5 * 10) + v4))))
def f_X0_setWorths_L7 (M : Mm) (v2 : Int64) (v4 : Int32) : Option ((Mm × Int64 × Int32) ⊕ Mm) :=
  if (gI M 90 7) ≤ v4 then (some (.inr M)) else ((loop FU (fun a_3 => f_X0_setWorths_L19 a_3.1 v2 v4 a_3.2) (M, 0)).bind (fun e_3 => some (.inl (e_3, (v2 / 10), (v4 + 1)))))
def f_X0_setWorths (M : Mm)  : Option (Mm) :=
  (loop FU (fun a_4 => f_X0_setWorths_L7 a_4.1 a_4.2.1 a_4.2.2) (M, 1000000000, 0)).bind (fun e_4 => some e_4)
def rm_X0_find : Room := rmz 4 96
def f_X0_find_L26 (M : Mm) (v1 : Nat) (v3 : Int32) : Option ((Mm × Int32) ⊕ Mm) :=
  if (gI M 90 6) ≤ v3 then (some (.inr M)) else ((some (t_X9_put M 93 v3 (f_X4_ofThing M v1 v3 2))).bind (fun M4 => some (.inl (M4, (v3 + 1)))))
def f_X0_find_L61 (M : Mm) (v3 : Int32) : Option ((Mm × Int32) ⊕ ((Mm) ⊕ Mm)) :=
  if (gI M 90 7) ≤ v3 then (some (.inr (.inr M))) else ((f_X0_bestEnd M ).bind (fun rr8 => if rr8.1 = (-1) then (some (.inr (.inl rr8.2))) else ((f_X0_exchange rr8.2 rr8.1).bind (fun M9 => some (.inl (M9, (v3 + 1)))))))
def f_X0_find (M : Mm) (a1 : Nat) : Option (Mm) :=
  (some (sI M 90 6 (gI M a1 3))).bind (fun M1 => (some (sI M1 90 7 (gI M1 a1 4))).bind (fun M2 => (f_J7_fill_53178 M2 92 (-1)).bind (fun M3 => (loop FU (fun a_5 => f_X0_find_L26 a_5.1 a1 a_5.2) (M3, 0)).bind (fun e_5 => (f_X0_setWorths e_5 ).bind (fun M6 => (loop FU (fun a_10 => f_X0_find_L61 a_10.1 a_10.2) (M6, 0)).bind (Sum.elim (fun v => some v) (fun e_10 => some e_10)))))))
def rm_X0_sum : Room := rmz 2 43
def f_X0_sum_L4 (M : Mm) (v2 : Int32) (v3 : Int32) : Option ((Int32 × Int32) ⊕ Int32) :=
  if (gI M 90 7) ≤ v3 then (some (.inr v2)) else (if (t_X9_at M 92 v3) = (-1) then (some (.inl ((v2 + 0), (v3 + 1)))) else ((some (v2 + (f_X6_likes M (t_X9_at M 92 v3) v3))).bind (fun x1 => some (.inl (x1, (v3 + 1))))))
def f_X0_sum (M : Mm)  : Option (Int32) :=
  (loop FU (fun a_2 => f_X0_sum_L4 M a_2.1 a_2.2) (0, 0)).bind (fun e_2 => some e_2)
def rm_X10_isIn : Room := rmz 0 0
def f_X10_isIn (M : Mm) (a0 : Int32) (a1 : Int32) (a2 : Int32) : Bool :=
  if a0 < a1 then false else (if a2 < a0 then false else true)
def rm_X10_isVisitor : Room := rmz 1 22
def f_X10_isVisitor (M : Mm) (a1 : Int32) : Option (Bool) :=
  if ibs 4 807 = true then (some (f_X10_isIn M a1 0 ((gA M 110 4) - 1))) else none
def rm_X10_ofOne : Room := rmz 0 0
def f_X10_ofOne (M : Mm) (a1 : Int32) (a2 : Int32) : Option (Int32) :=
  if ibs ((57 + (5 * a1)) + a2) 807 = true then (some (gA M 110 ((57 + (5 * a1)) + a2))) else none
def rm_X10_of : Room := rmz 0 0
def f_X10_of (M : Mm) (a1 : Int32) (a2 : Int32) : Option (Int32) :=
  if ibs ((12 + (5 * a1)) + a2) 807 = true then (some (gA M 110 ((12 + (5 * a1)) + a2))) else none
def rm_X10_letter : Room := rmz 0 0
def f_X10_letter (M : Mm) (a1 : Int32) : Option (Int32) :=
  if (gI M 109 9) = (-1) then (if ibs a1 400 = true then (some (gA M 114 a1)) else none) else (if ibs ((gI M 109 9) + a1) 807 = true then (some (gA M 110 ((gI M 109 9) + a1))) else none)
def rm_X10_skip : Room := rmz 1 21
def f_X10_skip_L0 (M : Mm)  : Option (Mm ⊕ Mm) :=
  if (gI M 109 10) ≤ (gI M 109 11) then (some (.inr M)) else ((f_X10_letter M (gI M 109 11)).bind (fun r1 => if r1 = 32 then ((some (sI M 109 11 ((gI M 109 11) + 1))).bind (fun M2 => some (.inl M2))) else (some (.inr M))))
def f_X10_skip (M : Mm)  : Option (Mm) :=
  (loop FU (fun a_3 => f_X10_skip_L0 a_3 ) M).bind (fun e_3 => some e_3)
def rm_X10_wrong : Room := rmz 0 0
def f_X10_wrong (M : Mm) (a1 : Int32) : Mm :=
  if (gI M 109 12) = (-1) then ((sI M 109 12 a1)) else M
def rm_X10_says : Room := rmz 5 123
def f_X10_says_L9 (M : Mm) (v1 : Nat) (v2 : Int32) : Option (Int32 ⊕ Int32) :=
  if (gI M 109 10) ≤ v2 then (some (.inr v2)) else ((f_X10_letter M v2).bind (fun r2 => if (f_X10_isIn M r2 97 122) = true then (some (.inl (v2 + 1))) else (some (.inr v2))))
def f_X10_says_L55 (M : Mm) (v1 : Nat) (v2 : Int32) (v3 : Int32) : Option (Int32 ⊕ ((Bool × Mm) ⊕ Unit)) :=
  if (f_J0_length_8abf5 M v1) ≤ v3 then (some (.inr (.inr ()))) else ((f_X10_letter M ((gI M 109 11) + v3)).bind (fun r4 => (f_J0_charAt_5068e M v1 v3).bind (fun r5 => if r4 = r5 then (some (.inl (v3 + 1))) else (some (.inr (.inl (false, M)))))))
def f_X10_says (M : Mm) (a1 : Nat) : Option (Bool × Mm) :=
  (f_X10_skip M ).bind (fun M1 => (loop FU (fun a_3 => f_X10_says_L9 M1 a1 a_3) (gI M1 109 11)).bind (fun e_3 => if (e_3 - (gI M1 109 11)) = (f_J0_length_8abf5 M1 a1) then ((loop FU (fun a_6 => f_X10_says_L55 M1 a1 e_3 a_6) 0).bind (Sum.elim (fun v => some v) (fun e_6 => (some (sI M1 109 11 e_3)).bind (fun M7 => some (true, M7))))) else (some (false, M1))))
def rm_X10_place : Room := rmz 2 41
def f_X10_place (M : Mm)  : Option (Int32 × Mm) :=
  (f_X10_skip M ).bind (fun M1 => some ((gI M1 109 11), M1))
def rm_X10_figures : Room := rmz 3 61
def f_X10_figures_L18 (M : Mm) (v1 : Int32) (v2 : Int32) (v3 : Int32) (v4 : Int32) : Option ((Mm × Int32) ⊕ (Mm × Int32)) :=
  if (gI M 109 10) ≤ (gI M 109 11) then (some (.inr (M, v4))) else ((f_X10_letter M (gI M 109 11)).bind (fun r3 => if (f_X10_isIn M r3 48 57) = true then (if 3 < ((gI M 109 11) - v3) then (some (.inr (M, v4))) else ((f_X10_letter M (gI M 109 11)).bind (fun r4 => (some (sI M 109 11 ((gI M 109 11) + 1))).bind (fun M5 => some (.inl (M5, (((10 * v4) + r4) - 48))))))) else (some (.inr (M, v4)))))
def f_X10_figures_J119 (M : Mm) (v3 : Int32) (v4 : Int32) : Option (Int32 × Mm) :=
  (some (f_X10_wrong M v3)).bind (fun M7 => some (v4, M7))
def f_X10_figures (M : Mm) (a1 : Int32) (a2 : Int32) : Option (Int32 × Mm) :=
  if (gI M 109 12) = (-1) then ((f_X10_place M ).bind (fun rr2 => (loop FU (fun a_6 => f_X10_figures_L18 a_6.1 a1 a2 rr2.1 a_6.2) (rr2.2, 0)).bind (fun e_6 => if (gI e_6.1 109 11) = rr2.1 then (f_X10_figures_J119 e_6.1 rr2.1 e_6.2) else (if 3 < ((gI e_6.1 109 11) - rr2.1) then (f_X10_figures_J119 e_6.1 rr2.1 e_6.2) else (if e_6.2 < a1 then (f_X10_figures_J119 e_6.1 rr2.1 e_6.2) else (if e_6.2 ≤ a2 then (some (e_6.2, e_6.1)) else (f_X10_figures_J119 e_6.1 rr2.1 e_6.2))))))) else (some (0, M))
def rm_X10_isSign : Room := rmz 2 41
def f_X10_isSign (M : Mm) (a1 : Int32) : Option (Bool × Mm) :=
  (f_X10_skip M ).bind (fun M1 => if (gI M1 109 10) ≤ (gI M1 109 11) then (some (false, M1)) else ((f_X10_letter M1 (gI M1 109 11)).bind (fun r2 => if r2 = a1 then (some (true, M1)) else (some (false, M1)))))
def rm_X10_isOf : Room := rmz 0 0
def f_X10_isOf (M : Mm) (a0 : Int32) (a1 : Int32) : Bool :=
  if ((a0 >>> (a1 &&& 31)) &&& 1) = 1 then true else false
def rm_X10_part : Room := rmz 6 146
def f_X10_part_J131 (M : Mm) (t0 : Int32) : Option (Int32 × Mm) :=
  if t0 = (-1) then ((some (f_X10_wrong M (gI M 109 11))).bind (fun M14 => some (0, M14))) else (if ibs t0 6 = true then (some ((gA M 115 t0), M)) else none)
def f_X10_part_J52 (M : Mm)  : Option (Int32 × Mm) :=
  (f_X10_says M 429).bind (fun rr3 => if rr3.1 = true then (f_X10_part_J131 rr3.2 0) else ((f_X10_says rr3.2 430).bind (fun rr5 => if rr5.1 = true then (f_X10_part_J131 rr5.2 1) else ((f_X10_says rr5.2 431).bind (fun rr7 => if rr7.1 = true then (f_X10_part_J131 rr7.2 2) else ((f_X10_says rr7.2 432).bind (fun rr9 => if rr9.1 = true then (f_X10_part_J131 rr9.2 3) else ((f_X10_says rr9.2 433).bind (fun rr11 => if rr11.1 = true then (f_X10_part_J131 rr11.2 4) else ((f_X10_says rr11.2 434).bind (fun rr13 => if rr13.1 = true then (f_X10_part_J131 rr13.2 5) else (f_X10_part_J131 rr13.2 (-1)))))))))))))
def f_X10_part (M : Mm)  : Option (Int32 × Mm) :=
  if (gI M 109 12) = (-1) then ((f_X10_skip M ).bind (fun M1 => if (gI M1 109 10) ≤ (gI M1 109 11) then (f_X10_part_J52 M1 ) else ((f_X10_letter M1 (gI M1 109 11)).bind (fun r15 => if (f_X10_isIn M1 r15 48 57) = true then ((f_X10_figures M1 0 999).bind (fun rr17 => some (rr17.1, rr17.2))) else (f_X10_part_J52 M1 ))))) else (some (0, M))
def rm_X10_sum : Room := rmz 7 167
def f_X10_sum_L5 (M : Mm) (v1 : Int32) : Option ((Mm × Int32) ⊕ (Mm × Int32)) :=
  if (gI M 109 12) = (-1) then ((f_X10_isSign M 43).bind (fun rr4 => if rr4.1 = true then ((some (sI rr4.2 109 11 ((gI rr4.2 109 11) + 1))).bind (fun M5 => (f_X10_part M5 ).bind (fun rr7 => some (.inl (rr7.2, (v1 + rr7.1)))))) else (some (.inr (rr4.2, v1))))) else (some (.inr (M, v1)))
def f_X10_sum (M : Mm)  : Option (Int32 × Mm) :=
  (f_X10_part M ).bind (fun rr2 => (loop FU (fun a_8 => f_X10_sum_L5 a_8.1 a_8.2) (rr2.2, rr2.1)).bind (fun e_8 => some (e_8.2, e_8.1)))
def rm_X10_plain : Room := rmz 8 188
def f_X10_plain_J139 (M : Mm) (v2 : Int32) (v3 : Int32) : Option (Bool × Mm) :=
  (some (sI M 109 11 ((gI M 109 11) + 1))).bind (fun M17 => (f_X10_sum M17 ).bind (fun rr19 => if v3 = 0 then (if v2 ≤ rr19.1 then (some (false, rr19.2)) else (some (true, rr19.2))) else (if rr19.1 ≤ v2 then (some (false, rr19.2)) else (some (true, rr19.2)))))
def f_X10_plain_J79 (M : Mm) (t0 : Int32) : Option (Bool × Mm) :=
  if t0 = (-1) then ((f_X10_sum M ).bind (fun rr14 => if (gI rr14.2 109 12) = (-1) then ((f_X10_isSign rr14.2 60).bind (fun rr16 => if rr16.1 = true then (f_X10_plain_J139 rr16.2 rr14.1 (bI rr16.1)) else ((f_X10_isSign rr16.2 62).bind (fun rr21 => if rr21.1 = true then (f_X10_plain_J139 rr21.2 rr14.1 (bI rr16.1)) else ((some (f_X10_wrong rr21.2 (gI rr21.2 109 11))).bind (fun M22 => some (false, M22))))))) else (some (false, rr14.2)))) else (some ((f_X10_isOf M (gI M 109 16) t0), M))
def f_X10_plain (M : Mm)  : Option (Bool × Mm) :=
  (f_X10_says M 423).bind (fun rr2 => if rr2.1 = true then (f_X10_plain_J79 rr2.2 0) else ((f_X10_says rr2.2 424).bind (fun rr4 => if rr4.1 = true then (f_X10_plain_J79 rr4.2 1) else ((f_X10_says rr4.2 425).bind (fun rr6 => if rr6.1 = true then (f_X10_plain_J79 rr6.2 2) else ((f_X10_says rr6.2 426).bind (fun rr8 => if rr8.1 = true then (f_X10_plain_J79 rr8.2 3) else ((f_X10_says rr8.2 427).bind (fun rr10 => if rr10.1 = true then (f_X10_plain_J79 rr10.2 4) else ((f_X10_says rr10.2 428).bind (fun rr12 => if rr12.1 = true then (f_X10_plain_J79 rr12.2 5) else (f_X10_plain_J79 rr12.2 (-1)))))))))))))
abbrev RT_gatom : Type := (Mm → Option (Bool × Mm)) × (Mm → Option (Bool × Mm)) × (Mm → Option (Bool × Mm))
def rmr_gatom (d : Nat) : Room := rmr 10 213 23 d
def f_X10_atom_J138 (rc : RT_gatom) (M : Mm) (v3 : Int32) : Option (Bool × Mm) :=
  (some (sI M 109 13 ((gI M 109 13) - 1))).bind (fun M10 => if v3 = 0 then some (false, M10) else if v3 = 1 then some (true, M10) else none)
def f_X10_atom_J128 (rc : RT_gatom) (M : Mm) (v3 : Int32) : Option (Bool × Mm) :=
  (some (sI M 109 11 ((gI M 109 11) + 1))).bind (fun M9 => f_X10_atom_J138 rc M9 v3)
def f_X10_atom_J84 (rc : RT_gatom) (M : Mm) (t0 : Int32) : Option (Bool × Mm) :=
  f_X10_atom_J138 rc M t0
def f_X10_atom_J40 (rc : RT_gatom) (M : Mm) (v1 : Int32) (v2 : Int32) : Option (Bool × Mm) :=
  if (gI M 109 13) = 6 then ((some (f_X10_wrong M v1)).bind (fun M16 => some (false, M16))) else ((some (sI M 109 13 ((gI M 109 13) + 1))).bind (fun M5 => if v2 = 0 then ((some (sI M5 109 11 ((gI M5 109 11) + 1))).bind (fun M6 => (rc.2.2 M6 ).bind (fun rr8 => if (gI rr8.2 109 12) = (-1) then ((f_X10_isSign rr8.2 41).bind (fun rr12 => if rr12.1 = true then (f_X10_atom_J128 rc rr12.2 (bI rr8.1)) else ((some (f_X10_wrong rr12.2 (gI rr12.2 109 11))).bind (fun M13 => f_X10_atom_J128 rc M13 (bI rr8.1))))) else (f_X10_atom_J128 rc rr8.2 (bI rr8.1))))) else ((rc.1 M5 ).bind (fun rr15 => if rr15.1 = true then (f_X10_atom_J84 rc rr15.2 0) else (f_X10_atom_J84 rc rr15.2 1)))))
def fB_X10_atom (rc : RT_gatom) (M : Mm)  : Option (Bool × Mm) :=
  if (gI M 109 12) = (-1) then ((f_X10_place M ).bind (fun rr2 => (f_X10_says rr2.2 422).bind (fun rr4 => if rr4.1 = true then (f_X10_atom_J40 rc rr4.2 rr2.1 (bI rr4.1)) else ((f_X10_isSign rr4.2 40).bind (fun rr18 => if rr18.1 = true then (f_X10_atom_J40 rc rr18.2 rr2.1 (bI rr4.1)) else ((f_X10_plain rr18.2 ).bind (fun rr20 => some (rr20.1, rr20.2)))))))) else (some (false, M))
def f_X10_every_L5 (rc : RT_gatom) (M : Mm) (v1 : Int32) : Option ((Mm × Int32) ⊕ (Mm × Int32)) :=
  if (gI M 109 12) = (-1) then ((f_X10_says M 435).bind (fun rr4 => if rr4.1 = true then ((rc.1 rr4.2 ).bind (fun rr6 => if v1 = 0 then (some (.inl (rr6.2, 0))) else (if rr6.1 = true then (some (.inl (rr6.2, 1))) else (some (.inl (rr6.2, 0)))))) else (some (.inr (rr4.2, v1))))) else (some (.inr (M, v1)))
def fB_X10_every (rc : RT_gatom) (M : Mm)  : Option (Bool × Mm) :=
  (rc.1 M ).bind (fun rr2 => (loop FU (fun a_7 => f_X10_every_L5 rc a_7.1 a_7.2) (rr2.2, (bI rr2.1))).bind (fun e_7 => if e_7.2 = 0 then some (false, e_7.1) else if e_7.2 = 1 then some (true, e_7.1) else none))
def f_X10_some_J5_35 (rc : RT_gatom) (M : Mm)  : Option ((Mm × Int32) ⊕ (Mm × Int32)) :=
  some (.inl (M, 1))
def f_X10_some_L5 (rc : RT_gatom) (M : Mm) (v1 : Int32) : Option ((Mm × Int32) ⊕ (Mm × Int32)) :=
  if (gI M 109 12) = (-1) then ((f_X10_says M 436).bind (fun rr4 => if rr4.1 = true then ((rc.2.1 rr4.2 ).bind (fun rr6 => if v1 = 0 then (if rr6.1 = true then (f_X10_some_J5_35 rc rr6.2 ) else (some (.inl (rr6.2, 0)))) else (f_X10_some_J5_35 rc rr6.2 ))) else (some (.inr (rr4.2, v1))))) else (some (.inr (M, v1)))
def fB_X10_some (rc : RT_gatom) (M : Mm)  : Option (Bool × Mm) :=
  (rc.2.1 M ).bind (fun rr2 => (loop FU (fun a_7 => f_X10_some_L5 rc a_7.1 a_7.2) (rr2.2, (bI rr2.1))).bind (fun e_7 => if e_7.2 = 0 then some (false, e_7.1) else if e_7.2 = 1 then some (true, e_7.1) else none))
def f_gatom : Nat → RT_gatom
  | 0 => ((fun _ => none), (fun _ => none), (fun _ => none))
  | d + 1 => (fB_X10_atom (f_gatom d), fB_X10_every (f_gatom d), fB_X10_some (f_gatom d))
def f_X10_atom (M : Mm)  : Option (Bool × Mm) := (f_gatom 40).1 M 
def rm_X10_atom : Room := rmz 50 1133
def f_X10_every (M : Mm)  : Option (Bool × Mm) := (f_gatom 40).2.1 M 
def rm_X10_every : Room := rmz 50 1133
def f_X10_some (M : Mm)  : Option (Bool × Mm) := (f_gatom 40).2.2 M 
def rm_X10_some : Room := rmz 50 1133
def rm_X10_lawLine : Room := rmz 51 1155
def f_X10_lawLine_J136 (M : Mm) (t0 : Int32) (t1 : Int32) : Option (Mm) :=
  (some (sI M 109 17 (t1 + t0))).bind (fun M11 => some M11)
def f_X10_lawLine_J119 (M : Mm) (v1 : Int32) (v4 : Int32) : Option (Mm) :=
  if v1 = 0 then (f_X10_lawLine_J136 M (-v4) (gI M 109 17)) else (f_X10_lawLine_J136 M v4 (gI M 109 17))
def f_X10_lawLine_J91 (M : Mm) (v1 : Int32) (v2 : Int32) (v3 : Int32) (v4 : Int32) (t0 : Int32) : Option (Mm) :=
  if (gI M 109 12) = (-1) then (if t0 = 0 then (some M) else (if v2 = 0 then (if v3 = (gI M 109 15) then (f_X10_lawLine_J119 M v1 v4) else (some M)) else (f_X10_lawLine_J119 M v1 v4))) else (some M)
def f_X10_lawLine_J86 (M : Mm) (v1 : Int32) (v2 : Int32) (v3 : Int32) (v4 : Int32) : Option (Mm) :=
  f_X10_lawLine_J91 M v1 v2 v3 v4 1
def f_X10_lawLine_J51 (M : Mm) (v1 : Int32) (v2 : Int32) (t0 : Int32) : Option (Mm) :=
  (f_X10_figures M 0 99).bind (fun rr8 => if (gI rr8.2 109 12) = (-1) then ((f_X10_says rr8.2 421).bind (fun rr10 => if rr10.1 = true then ((f_X10_some rr10.2 ).bind (fun rr13 => if rr13.1 = true then (f_X10_lawLine_J86 rr13.2 v1 v2 t0 rr8.1) else (f_X10_lawLine_J91 rr13.2 v1 v2 t0 rr8.1 0))) else (f_X10_lawLine_J86 rr10.2 v1 v2 t0 rr8.1))) else (some rr8.2))
def f_X10_lawLine_J29 (M : Mm) (v1 : Int32) : Option (Mm) :=
  (f_X10_says M 420).bind (fun rr4 => if rr4.1 = true then (f_X10_lawLine_J51 rr4.2 v1 (bI rr4.1) (-1)) else ((f_X10_figures rr4.2 0 8).bind (fun rr6 => f_X10_lawLine_J51 rr6.2 v1 (bI rr4.1) rr6.1)))
def f_X10_lawLine (M : Mm)  : Option (Mm) :=
  (f_X10_says M 418).bind (fun rr2 => if rr2.1 = true then (f_X10_lawLine_J29 rr2.2 (bI rr2.1)) else ((f_X10_says rr2.2 419).bind (fun rr15 => if rr15.1 = true then (f_X10_lawLine_J29 rr15.2 (bI rr2.1)) else ((some (f_X10_wrong rr15.2 (gI rr15.2 109 11))).bind (fun M16 => some M16)))))
def rm_X10_thingAt : Room := rmz 1 22
def f_X10_thingAt_L2 (M : Mm) (v1 : Int32) (v2 : Int32) : Option (Int32 ⊕ ((Int32) ⊕ Unit)) :=
  if ibs 3 807 = true then (if (gA M 110 3) ≤ v2 then (some (.inr (.inr ()))) else ((f_X10_of M v2 0).bind (fun r1 => if r1 = v1 then (some (.inr (.inl v2))) else (some (.inl (v2 + 1)))))) else none
def f_X10_thingAt (M : Mm) (a1 : Int32) : Option (Int32) :=
  (loop FU (fun a_2 => f_X10_thingAt_L2 M a1 a_2) 0).bind (Sum.elim (fun v => some v) (fun e_2 => some (-1)))
def rm_X10_after : Room := rmz 6 146
def f_X10_after_J24 (M : Mm) (v2 : Int32) (v3 : Int32) : Option (Int32 × Mm) :=
  (f_X10_figures M v2 v3).bind (fun rr2 => some (rr2.1, rr2.2))
def f_X10_after (M : Mm) (a1 : Nat) (a2 : Int32) (a3 : Int32) : Option (Int32 × Mm) :=
  if (gI M 109 12) = (-1) then ((f_X10_says M a1).bind (fun rr4 => if rr4.1 = true then (f_X10_after_J24 rr4.2 a2 a3) else ((some (f_X10_wrong rr4.2 (gI rr4.2 109 11))).bind (fun M5 => f_X10_after_J24 M5 a2 a3)))) else (f_X10_after_J24 M a2 a3)
def rm_X10_thingLine : Room := rmz 7 169
def f_X10_thingLine_J76 (M : Mm) (v3 : Int32) : Option (Mm) :=
  (f_X10_after M 439 0 99).bind (fun rr6 => (f_X10_after rr6.2 440 1 3).bind (fun rr8 => if (gI rr8.2 109 12) = (-1) then (if ibs 3 807 = true then ((some (12 + (5 * (gA rr8.2 110 3)))).bind (fun x9 => if ibs (x9 + 0) 807 = true then (some (sA rr8.2 110 (x9 + 0) v3)).bind (fun M10 => if ibs (x9 + 1) 807 = true then (some (sA M10 110 (x9 + 1) rr6.1)).bind (fun M11 => if ibs (x9 + 2) 807 = true then (some (sA M11 110 (x9 + 2) rr8.1)).bind (fun M12 => if ibs (x9 + 3) 807 = true then (some (sA M12 110 (x9 + 3) 1)).bind (fun M13 => if ibs (x9 + 4) 807 = true then (some (sA M13 110 (x9 + 4) 0)).bind (fun M14 => if ibs 3 807 = true then (if ibs 3 807 = true then (some (sA M14 110 3 ((gA M14 110 3) + 1))).bind (fun M15 => some M15) else none) else none) else none) else none) else none) else none) else none)) else none) else (some rr8.2)))
def f_X10_thingLine_J41 (M : Mm)  : Option (Mm) :=
  (f_X10_place M ).bind (fun rr2 => (f_X10_figures rr2.2 0 19).bind (fun rr4 => if (gI rr4.2 109 12) = (-1) then ((f_X10_thingAt rr4.2 rr4.1).bind (fun r16 => if r16 = (-1) then (f_X10_thingLine_J76 rr4.2 rr4.1) else ((some (f_X10_wrong rr4.2 rr2.1)).bind (fun M17 => f_X10_thingLine_J76 M17 rr4.1)))) else (f_X10_thingLine_J76 rr4.2 rr4.1)))
def f_X10_thingLine_J16 (M : Mm)  : Option (Mm) :=
  if (gI M 109 12) = (-1) then ((f_X10_says M 438).bind (fun rr19 => if rr19.1 = true then (f_X10_thingLine_J41 rr19.2 ) else ((some (f_X10_wrong rr19.2 (gI rr19.2 109 11))).bind (fun M20 => f_X10_thingLine_J41 M20 )))) else (f_X10_thingLine_J41 M )
def f_X10_thingLine (M : Mm) (a1 : Int32) : Option (Mm) :=
  if ibs 3 807 = true then (if (gA M 110 3) = 9 then ((some (f_X10_wrong M a1)).bind (fun M21 => f_X10_thingLine_J16 M21 )) else (f_X10_thingLine_J16 M )) else none
def rm_X10_marks : Room := rmz 3 61
def f_X10_marks_J9_88 (M : Mm) (v1 : Int32) (v2 : Int32) (v3 : Int32) : Option ((Mm × Int32 × Int32) ⊕ (Mm × Int32 × Int32)) :=
  (some (sI M 109 11 ((gI M 109 11) + 1))).bind (fun M5 => some (.inl (M5, v2, v3)))
def f_X10_marks_J9_76 (M : Mm) (v1 : Int32) (v2 : Int32) (v4 : Int32) (t0 : Int32) : Option ((Mm × Int32 × Int32) ⊕ (Mm × Int32 × Int32)) :=
  if t0 = 0 then (f_X10_marks_J9_88 M v1 v2 t0) else ((some (v2 ||| (1 <<< (v4 &&& 31)))).bind (fun x6 => f_X10_marks_J9_88 M v1 x6 t0))
def f_X10_marks_J9_75 (M : Mm) (v1 : Int32) (v2 : Int32) (v4 : Int32) : Option ((Mm × Int32 × Int32) ⊕ (Mm × Int32 × Int32)) :=
  f_X10_marks_J9_76 M v1 v2 v4 0
def f_X10_marks_L9 (M : Mm) (v1 : Int32) (v2 : Int32) (v3 : Int32) : Option ((Mm × Int32 × Int32) ⊕ (Mm × Int32 × Int32)) :=
  if (gI M 109 10) ≤ (gI M 109 11) then (some (.inr (M, v2, v3))) else ((f_X10_letter M (gI M 109 11)).bind (fun r3 => if (f_X10_isIn M r3 97 122) = true then ((f_X10_letter M (gI M 109 11)).bind (fun r4 => if v3 = 0 then (f_X10_marks_J9_75 M v1 v2 (r4 - 97)) else (if 6 ≤ (r4 - 97) then (f_X10_marks_J9_75 M v1 v2 (r4 - 97)) else (if (f_X10_isOf M v2 (r4 - 97)) = true then (f_X10_marks_J9_75 M v1 v2 (r4 - 97)) else (f_X10_marks_J9_76 M v1 v2 (r4 - 97) 1))))) else (some (.inr (M, v2, v3)))))
def f_X10_marks_J113 (M : Mm) (v1 : Int32) (v2 : Int32) : Option (Int32 × Mm) :=
  (some (f_X10_wrong M v1)).bind (fun M8 => some (v2, M8))
def f_X10_marks (M : Mm)  : Option (Int32 × Mm) :=
  (f_X10_place M ).bind (fun rr2 => (loop FU (fun a_7 => f_X10_marks_L9 a_7.1 rr2.1 a_7.2.1 a_7.2.2) (rr2.2, 0, 1)).bind (fun e_7 => if e_7.2.2 = 0 then (f_X10_marks_J113 e_7.1 rr2.1 e_7.2.1) else (if (gI e_7.1 109 11) = rr2.1 then (f_X10_marks_J113 e_7.1 rr2.1 e_7.2.1) else (some (e_7.2.1, e_7.1)))))
def rm_X10_visitorLine : Room := rmz 7 169
def f_X10_visitorLine_J83 (M : Mm) (v2 : Int32) (v3 : Int32) (v4 : Int32) (v5 : Int32) (t0 : Int32) : Option (Mm) :=
  if (gI M 109 12) = (-1) then (if ibs 4 807 = true then ((some (57 + (5 * (gA M 110 4)))).bind (fun x9 => if ibs (x9 + 0) 807 = true then (some (sA M 110 (x9 + 0) v2)).bind (fun M10 => if ibs (x9 + 1) 807 = true then (some (sA M10 110 (x9 + 1) v3)).bind (fun M11 => if ibs (x9 + 2) 807 = true then (some (sA M11 110 (x9 + 2) v4)).bind (fun M12 => if ibs (x9 + 3) 807 = true then (some (sA M12 110 (x9 + 3) v5)).bind (fun M13 => if ibs (x9 + 4) 807 = true then (some (sA M13 110 (x9 + 4) t0)).bind (fun M14 => if ibs 4 807 = true then (if ibs 4 807 = true then (some (sA M14 110 4 ((gA M14 110 4) + 1))).bind (fun M15 => some M15) else none) else none) else none) else none) else none) else none) else none)) else none) else (some M)
def f_X10_visitorLine_J82 (M : Mm) (v2 : Int32) (v3 : Int32) (v4 : Int32) (v5 : Int32) : Option (Mm) :=
  f_X10_visitorLine_J83 M v2 v3 v4 v5 0
def f_X10_visitorLine_J16 (M : Mm)  : Option (Mm) :=
  (f_X10_after M 429 0 99).bind (fun rr2 => (f_X10_after rr2.2 430 0 9).bind (fun rr4 => (f_X10_after rr4.2 431 0 9).bind (fun rr6 => (f_X10_after rr6.2 442 0 100).bind (fun rr8 => if (gI rr8.2 109 12) = (-1) then ((f_X10_says rr8.2 443).bind (fun rr17 => if rr17.1 = true then ((f_X10_marks rr17.2 ).bind (fun rr19 => f_X10_visitorLine_J83 rr19.2 rr2.1 rr4.1 rr6.1 rr8.1 rr19.1)) else (f_X10_visitorLine_J82 rr17.2 rr2.1 rr4.1 rr6.1 rr8.1))) else (f_X10_visitorLine_J82 rr8.2 rr2.1 rr4.1 rr6.1 rr8.1)))))
def f_X10_visitorLine (M : Mm) (a1 : Int32) : Option (Mm) :=
  if ibs 4 807 = true then (if (gA M 110 4) = 10 then ((some (f_X10_wrong M a1)).bind (fun M20 => f_X10_visitorLine_J16 M20 )) else (f_X10_visitorLine_J16 M )) else none
def rm_X10_hallLine : Room := rmz 8 196
def f_X10_hallLine_J119 (M : Mm)  : Option (Mm) :=
  some M
def f_X10_hallLine_J71 (M : Mm)  : Option (Mm) :=
  some M
def f_X10_hallLine (M : Mm)  : Option (Mm) :=
  (f_X10_place M ).bind (fun rr2 => (f_X10_says rr2.2 437).bind (fun rr4 => if rr4.1 = true then ((f_X10_thingLine rr4.2 rr2.1).bind (fun M19 => some M19)) else ((f_X10_says rr4.2 441).bind (fun rr6 => if rr6.1 = true then ((f_X10_visitorLine rr6.2 rr2.1).bind (fun M18 => some M18)) else ((f_X10_says rr6.2 444).bind (fun rr8 => if rr8.1 = true then ((f_X10_figures rr8.2 1 9).bind (fun rr16 => if (gI rr16.2 109 12) = (-1) then (if ibs 5 807 = true then (some (sA rr16.2 110 5 rr16.1)).bind (fun M17 => f_X10_hallLine_J71 M17 ) else none) else (f_X10_hallLine_J71 rr16.2 ))) else ((f_X10_says rr8.2 445).bind (fun rr10 => if rr10.1 = true then (if ibs 3 807 = true then ((f_X10_figures rr10.2 0 ((gA rr10.2 110 3) - 1)).bind (fun rr13 => if (gI rr13.2 109 12) = (-1) then (if ibs ((12 + (5 * rr13.1)) + 3) 807 = true then (some (sA rr13.2 110 ((12 + (5 * rr13.1)) + 3) 0)).bind (fun M14 => f_X10_hallLine_J119 M14 ) else none) else (f_X10_hallLine_J119 rr13.2 ))) else none) else ((some (f_X10_wrong rr10.2 (gI rr10.2 109 11))).bind (fun M11 => some M11))))))))))
def rm_X10_read : Room := rmz 52 1180
def f_X10_read_J23_80 (M : Mm) (v1 : Int32) (v2 : Int32) (v3 : Int32) : Option ((Mm × Int32 × Int32) ⊕ (Mm × Int32)) :=
  (f_X10_skip M ).bind (fun M4 => if (gI M4 109 12) = (-1) then (if (gI M4 109 11) = (gI M4 109 10) then (some (.inl (M4, 0, (v3 + 1)))) else ((f_X10_isSign M4 59).bind (fun rr6 => if rr6.1 = true then ((some (sI rr6.2 109 11 ((gI rr6.2 109 11) + 1))).bind (fun M8 => some (.inl (M8, v2, (v3 + 1))))) else ((some (f_X10_wrong rr6.2 (gI rr6.2 109 11))).bind (fun M7 => some (.inl (M7, v2, (v3 + 1)))))))) else (some (.inl (M4, 0, (v3 + 1)))))
def f_X10_read_J23_51 (M : Mm) (v1 : Int32) (v2 : Int32) (v3 : Int32) (t0 : Int32) (t1 : Int32) : Option ((Mm × Int32 × Int32) ⊕ (Mm × Int32)) :=
  if t1 = t0 then ((some (f_X10_wrong M (gI M 109 11))).bind (fun M10 => f_X10_read_J23_80 M10 v1 v2 v3)) else (if v1 = 0 then ((f_X10_hallLine M ).bind (fun M3 => f_X10_read_J23_80 M3 v1 v2 v3)) else ((f_X10_lawLine M ).bind (fun M9 => f_X10_read_J23_80 M9 v1 v2 v3)))
def f_X10_read_L23 (M : Mm) (v1 : Int32) (v2 : Int32) (v3 : Int32) : Option ((Mm × Int32 × Int32) ⊕ (Mm × Int32)) :=
  if v2 = 0 then (some (.inr (M, v3))) else (if (gI M 109 12) = (-1) then ((f_X10_skip M ).bind (fun M2 => if v1 = 0 then (f_X10_read_J23_51 M2 v1 v2 v3 14 v3) else (f_X10_read_J23_51 M2 v1 v2 v3 12 v3))) else (some (.inr (M, v3))))
def f_X10_read_J20 (M : Mm) (v1 : Int32) (t0 : Int32) : Option (Int32 × Mm) :=
  (loop FU (fun a_11 => f_X10_read_L23 a_11.1 v1 a_11.2.1 a_11.2.2) (M, t0, 0)).bind (fun e_11 => some (e_11.2, e_11.1))
def f_X10_read (M : Mm) (a1 : Int32) : Option (Int32 × Mm) :=
  (f_X10_skip M ).bind (fun M1 => if (gI M1 109 10) ≤ (gI M1 109 11) then (f_X10_read_J20 M1 a1 0) else (f_X10_read_J20 M1 a1 1))
def rm_X10_greater : Room := rmz 0 0
def f_X10_greater (M : Mm) (a0 : Int32) (a1 : Int32) : Int32 :=
  if a0 ≤ a1 then a1 else a0
def rm_X10_likesOne : Room := rmz 53 1203
def f_X10_likesOne (M : Mm) (a1 : Int32) (a2 : Int32) (a3 : Int32) : Option (Int32 × Mm) :=
  if ibs 1 807 = true then (if (gA M 110 1) = (-1) then ((f_X10_ofOne M a2 1).bind (fun r23 => some (r23, M))) else ((f_X10_ofOne M a2 0).bind (fun r1 => if ibs 0 6 = true then (some (sA M 115 0 r1)).bind (fun M2 => (f_X10_ofOne M2 a2 1).bind (fun r3 => if ibs 1 6 = true then (some (sA M2 115 1 r3)).bind (fun M4 => (f_X10_ofOne M4 a2 2).bind (fun r5 => if ibs 2 6 = true then (some (sA M4 115 2 r5)).bind (fun M6 => (f_X10_of M6 a1 0).bind (fun r7 => if ibs 3 6 = true then (some (sA M6 115 3 r7)).bind (fun M8 => (f_X10_of M8 a1 4).bind (fun r9 => if ibs 4 6 = true then (some (sA M8 115 4 r9)).bind (fun M10 => if ibs 6 807 = true then (if ibs 5 6 = true then (some (sA M10 115 5 (gA M10 110 6))).bind (fun M11 => (some (sI M11 109 15 a1)).bind (fun M12 => (some (sI M12 109 16 a3)).bind (fun M13 => (some (sI M13 109 17 0)).bind (fun M14 => (some (sI M14 109 12 (-1))).bind (fun M15 => (some (sI M15 109 9 407)).bind (fun M16 => if ibs 2 807 = true then ((some (sI M16 109 10 (gA M16 110 2))).bind (fun M17 => (some (sI M17 109 11 0)).bind (fun M18 => (some (sI M18 109 13 0)).bind (fun M19 => (f_X10_read M19 1).bind (fun rr21 => (some (sI rr21.2 109 12 (gI M14 109 12))).bind (fun M22 => some ((f_X10_greater M22 0 (gI M22 109 17)), M22))))))) else none)))))) else none) else none) else none)) else none)) else none)) else none)) else none))) else none
def rm_X10_rings : Room := rmz 1 22
def f_X10_rings (M : Mm) (a1 : Int32) (a2 : Int32) : Option (Bool) :=
  (f_X10_of M a1 3).bind (fun r1 => if r1 = 1 then (if a2 ≤ 0 then (some false) else ((f_X10_of M a1 1).bind (fun r2 => (f_X10_of M a1 4).bind (fun r3 => if a2 < (r2 - r3) then (some false) else (some true))))) else (some false))
def rm_X10_about : Room := rmz 54 1228
def f_X10_about_L79 (M : Mm) (v1 : Int32) (v3 : Int32) (v4 : Int32) (v5 : Int32) (v6 : Int32) (v7 : Int32) (v8 : Int32) (v9 : Int32) (v10 : Int32) : Option ((Mm × Int32 × Int32) ⊕ (Mm × Int32)) :=
  if ibs 3 807 = true then (if (gA M 110 3) ≤ v10 then (some (.inr (M, v9))) else ((f_X10_likesOne M v10 v1 v8).bind (fun rr5 => (f_X10_rings rr5.2 v10 rr5.1).bind (fun r6 => if r6 = true then ((some (v9 ||| (1 <<< (v10 &&& 31)))).bind (fun x7 => some (.inl (rr5.2, x7, (v10 + 1))))) else (some (.inl (rr5.2, (v9 ||| 0), (v10 + 1)))))))) else none
def f_X10_about_L66 (M : Mm) (v1 : Int32) (v3 : Int32) (v4 : Int32) (v5 : Int32) (v6 : Int32) (v7 : Int32) (v8 : Int32) : Option ((Mm × Int32 × Int32 × Int32 × Int32) ⊕ (Mm × Int32 × Int32 × Int32)) :=
  if 64 ≤ v8 then (some (.inr (M, v5, v6, v7))) else ((loop FU (fun a_8 => f_X10_about_L79 a_8.1 v1 v3 v4 v5 v6 v7 v8 a_8.2.1 a_8.2.2) (M, 0, 0)).bind (fun e_8 => if e_8.2 = v4 then (some (.inl (e_8.1, (v5 + 1), (v6 &&& v8), (v7 ||| v8), (v8 + 1)))) else (some (.inl (e_8.1, v5, v6, v7, (v8 + 1))))))
def f_X10_about_J27 (M : Mm) (v1 : Int32) (v2 : Int32) (v3 : Int32) (t0 : Int32) : Option (Int32 × Mm) :=
  (some (sI M 109 0 t0)).bind (fun M2 => if (gI M2 109 0) ≤ 0 then (if ibs 3 807 = true then ((some (v2 &&& ((1 <<< ((gA M2 110 3) &&& 31)) - 1))).bind (fun x3 => (loop FU (fun a_9 => f_X10_about_L66 a_9.1 v1 v3 x3 a_9.2.1 a_9.2.2.1 a_9.2.2.2.1 a_9.2.2.2.2) (M2, 0, 63, 0, 0)).bind (fun e_9 => if v3 = 0 then (some (e_9.2.1, e_9.1)) else (if e_9.2.1 = 0 then (some (0, e_9.1)) else (if v3 = 1 then (some (e_9.2.2.1, e_9.1)) else (some (e_9.2.2.2, e_9.1))))))) else none) else (some (0, M2)))
def f_X10_about (M : Mm) (a1 : Int32) (a2 : Int32) (a3 : Int32) : Option (Int32 × Mm) :=
  (f_X10_isVisitor M a1).bind (fun r1 => if r1 = true then (if (f_X10_isIn M a3 0 2) = true then (f_X10_about_J27 M a1 a2 a3 0) else (f_X10_about_J27 M a1 a2 a3 2)) else (f_X10_about_J27 M a1 a2 a3 1))
def rm_X10_isThing : Room := rmz 1 22
def f_X10_isThing (M : Mm) (a1 : Int32) : Option (Bool) :=
  if ibs 3 807 = true then (some (f_X10_isIn M a1 0 ((gA M 110 3) - 1))) else none
def rm_X10_putsAside : Room := rmz 0 0
def f_X10_putsAside_L2 (M : Mm) (v1 : Int32) : Option ((Mm × Int32) ⊕ Mm) :=
  if 407 ≤ v1 then (some (.inr M)) else (if ibs v1 807 = true then (if ibs v1 407 = true then (some (sA M 112 v1 (gA M 110 v1))).bind (fun M1 => some (.inl (M1, (v1 + 1)))) else none) else none)
def f_X10_putsAside (M : Mm)  : Option (Mm) :=
  (loop FU (fun a_2 => f_X10_putsAside_L2 a_2.1 a_2.2) (M, 0)).bind (fun e_2 => some e_2)
def rm_X10_asks : Room := rmz 54 1228
def f_X10_asks_L14 (M : Mm) (v1 : Int32) (v2 : Int32) : Option ((Mm × Int32) ⊕ Mm) :=
  if ibs 4 807 = true then (if (gA M 110 4) ≤ v2 then (some (.inr M)) else ((f_X10_ofOne M v2 4).bind (fun r1 => (f_X10_likesOne M v1 v2 r1).bind (fun rr3 => if ibs ((10 * v1) + v2) 90 = true then (some (sA rr3.2 116 ((10 * v1) + v2) rr3.1)).bind (fun M4 => some (.inl (M4, (v2 + 1)))) else none)))) else none
def f_X10_asks_L2 (M : Mm) (v1 : Int32) : Option ((Mm × Int32) ⊕ Mm) :=
  if ibs 3 807 = true then (if (gA M 110 3) ≤ v1 then (some (.inr M)) else ((loop FU (fun a_5 => f_X10_asks_L14 a_5.1 v1 a_5.2) (M, 0)).bind (fun e_5 => some (.inl (e_5, (v1 + 1)))))) else none
def f_X10_asks (M : Mm)  : Option (Mm) :=
  (loop FU (fun a_6 => f_X10_asks_L2 a_6.1 a_6.2) (M, 0)).bind (fun e_6 => some e_6)
def rm_X10_beginsDay : Room := rmz 0 0
def f_X10_beginsDay_L2 (M : Mm) (v1 : Int32) : Option ((Mm × Int32) ⊕ Mm) :=
  if 9 ≤ v1 then (some (.inr M)) else (if ibs v1 9 = true then (some (sA M 119 v1 0)).bind (fun M1 => some (.inl (M1, (v1 + 1)))) else none)
def f_X10_beginsDay_L23 (M : Mm) (v1 : Int32) : Option ((Mm × Int32) ⊕ Mm) :=
  if 10 ≤ v1 then (some (.inr M)) else (if ibs v1 10 = true then (some (sA M 117 v1 (-1))).bind (fun M3 => if ibs v1 10 = true then (some (sA M3 118 v1 (-1))).bind (fun M4 => some (.inl (M4, (v1 + 1)))) else none) else none)
def f_X10_beginsDay (M : Mm)  : Option (Mm) :=
  (loop FU (fun a_2 => f_X10_beginsDay_L2 a_2.1 a_2.2) (M, 0)).bind (fun e_2 => (loop FU (fun a_5 => f_X10_beginsDay_L23 a_5.1 a_5.2) (e_2, 0)).bind (fun e_5 => some e_5))
def rm_X10_draw : Room := rmz 0 0
def f_X10_draw (M : Mm) (a1 : Int32) : Option (Int32 × Mm) :=
  if ibs 9 807 = true then (if ibs 9 807 = true then (some (sA M 110 9 ((1103515245 * (gA M 110 9)) + 12345))).bind (fun M1 => if ibs 9 807 = true then (if ¬ a1 = 0 then some ((((iush (gA M1 110 9) 16) &&& 32767) - ((iush (gA M1 110 9) 16) &&& 32767) / a1 * a1), M1) else none) else none) else none) else none
def rm_X10_canHave : Room := rmz 2 44
def f_X10_canHave (M : Mm) (a1 : Int32) (a2 : Int32) : Option (Bool) :=
  if ibs ((10 * a1) + a2) 90 = true then ((f_X10_rings M a1 (gA M 116 ((10 * a1) + a2))).bind (fun r1 => some r1)) else none
def rm_X10_ledPast : Room := rmz 3 66
def f_X10_ledPast_J4_111 (M : Mm) (v1 : Int32) (v3 : Int32) (v4 : Int32) : Option ((Mm × Int32 × Int32) ⊕ (Mm × Int32)) :=
  if ibs v1 10 = true then (some (sA M 118 v1 v4)).bind (fun M4 => some (.inl (M4, v3, (v3 + 1)))) else none
def f_X10_ledPast_L4 (M : Mm) (v1 : Int32) (v2 : Int32) (v3 : Int32) : Option ((Mm × Int32 × Int32) ⊕ (Mm × Int32)) :=
  if ibs 3 807 = true then (if (gA M 110 3) ≤ v3 then (some (.inr (M, v2))) else (if ibs v3 9 = true then ((f_X10_of M v3 2).bind (fun r1 => if (gA M 119 v3) = r1 then (some (.inl (M, v2, (v3 + 1)))) else ((f_X10_canHave M v3 v1).bind (fun r2 => if r2 = true then ((f_X10_of M v3 0).bind (fun r3 => if ibs 5 807 = true then (if ¬ (gA M 110 5) = 0 then if v2 = (-1) then (f_X10_ledPast_J4_111 M v1 v3 (r3 / (gA M 110 5))) else (if ibs v1 10 = true then (if (gA M 118 v1) < (r3 / (gA M 110 5)) then (some (.inl (M, v2, (v3 + 1)))) else (if ibs v1 10 = true then (if (r3 / (gA M 110 5)) = (gA M 118 v1) then (if ibs ((10 * v3) + v1) 90 = true then (if ibs ((10 * v2) + v1) 90 = true then (if (gA M 116 ((10 * v2) + v1)) < (gA M 116 ((10 * v3) + v1)) then (f_X10_ledPast_J4_111 M v1 v3 (r3 / (gA M 110 5))) else (some (.inl (M, v2, (v3 + 1))))) else none) else none) else (f_X10_ledPast_J4_111 M v1 v3 (r3 / (gA M 110 5)))) else none)) else none) else none) else none)) else (some (.inl (M, v2, (v3 + 1)))))))) else none)) else none
def f_X10_ledPast (M : Mm) (a1 : Int32) : Option (Int32 × Mm) :=
  (loop FU (fun a_5 => f_X10_ledPast_L4 a_5.1 a1 a_5.2.1 a_5.2.2) (M, (-1), 0)).bind (fun e_5 => some (e_5.2, e_5.1))
def rm_X10_leads : Room := rmz 4 90
def f_X10_leads_J6_38 (M : Mm) (v1 : Int32) (v2 : Int32) : Option ((Mm × Int32) ⊕ Mm) :=
  (f_X10_ledPast M v2).bind (fun rr3 => if ibs v2 10 = true then (some (sA rr3.2 117 v2 rr3.1)).bind (fun M4 => if ibs v2 10 = true then (if (gA M4 117 v2) = (-1) then (some (.inl (M4, (v2 + 1)))) else (if ibs v2 10 = true then (if ibs (gA M4 117 v2) 9 = true then (if ibs (gA M4 117 v2) 9 = true then (some (sA M4 119 (gA M4 117 v2) ((gA M4 119 (gA M4 117 v2)) + 1))).bind (fun M5 => some (.inl (M5, (v2 + 1)))) else none) else none) else none)) else none) else none)
def f_X10_leads_L6 (M : Mm) (v1 : Int32) (v2 : Int32) : Option ((Mm × Int32) ⊕ Mm) :=
  if ibs 4 807 = true then (if (gA M 110 4) ≤ v2 then (some (.inr M)) else (if v1 = 0 then (f_X10_leads_J6_38 M v1 v2) else ((f_X10_draw M 100).bind (fun rr7 => (f_X10_ofOne rr7.2 v2 3).bind (fun r8 => if r8 ≤ rr7.1 then (f_X10_leads_J6_38 rr7.2 v1 v2) else (some (.inl (rr7.2, (v2 + 1))))))))) else none
def f_X10_leads (M : Mm) (a1 : Int32) : Option (Mm) :=
  (f_X10_beginsDay M ).bind (fun M1 => (loop FU (fun a_9 => f_X10_leads_L6 a_9.1 a1 a_9.2) (M1, 0)).bind (fun e_9 => some e_9))
def rm_X10_lesser : Room := rmz 0 0
def f_X10_lesser (M : Mm) (a0 : Int32) (a1 : Int32) : Int32 :=
  if a1 ≤ a0 then a1 else a0
def rm_X10_goesBy : Room := rmz 55 1250
def f_X10_goesBy_L44 (M : Mm) (v2 : Int32) (v3 : Int32) (v4 : Int32) : Option ((Mm × Int32) ⊕ Mm) :=
  if v4 < 5 then (some (.inr M)) else (if ibs ((107 + v4) - 5) 807 = true then (if ibs (107 + v4) 807 = true then (some (sA M 110 (107 + v4) (gA M 110 ((107 + v4) - 5)))).bind (fun M3 => some (.inl (M3, (v4 + (-1))))) else none) else none)
def f_X10_goesBy_L13 (M : Mm) (v2 : Int32) (v3 : Int32) : Option ((Mm × Int32 × Int32) ⊕ (Mm × Int32)) :=
  if ibs 4 807 = true then (if (gA M 110 4) ≤ v3 then (some (.inr (M, v2))) else (if ibs v3 10 = true then (if (gA M 117 v3) = (-1) then (some (.inl (M, v2, (v3 + 1)))) else ((loop FU (fun a_4 => f_X10_goesBy_L44 a_4.1 (v2 + 1) v3 a_4.2) (M, 299)).bind (fun e_4 => if ibs 6 807 = true then (if ibs 107 807 = true then (some (sA e_4 110 107 (gA e_4 110 6))).bind (fun M5 => if ibs 108 807 = true then (some (sA M5 110 108 v3)).bind (fun M6 => if ibs v3 10 = true then (if ibs 109 807 = true then (some (sA M6 110 109 (gA M6 117 v3))).bind (fun M7 => if ibs v3 10 = true then (if ibs ((10 * (gA M7 117 v3)) + v3) 90 = true then (if ibs 110 807 = true then (some (sA M7 110 110 (gA M7 116 ((10 * (gA M7 117 v3)) + v3)))).bind (fun M8 => if ibs v3 10 = true then (if ibs 111 807 = true then (some (sA M8 110 111 (gA M8 118 v3))).bind (fun M9 => if ibs 8 807 = true then (if ibs 8 807 = true then (some (sA M9 110 8 (f_X10_lesser M9 60 ((gA M9 110 8) + 1)))).bind (fun M10 => some (.inl (M10, (v2 + 1), (v3 + 1)))) else none) else none) else none) else none) else none) else none) else none) else none) else none) else none) else none) else none))) else none)) else none
def f_X10_goesBy_J178_236 (M : Mm) (v2 : Int32) (v3 : Int32) (t0 : Int32) (t1 : Int32) : Option ((Mm × Int32) ⊕ Mm) :=
  if ibs t1 807 = true then (some (sA M 110 t1 t0)).bind (fun M14 => some (.inl (M14, (v3 + 1)))) else none
def f_X10_goesBy_L178 (M : Mm) (v2 : Int32) (v3 : Int32) : Option ((Mm × Int32) ⊕ Mm) :=
  if ibs 3 807 = true then (if (gA M 110 3) ≤ v3 then (some (.inr M)) else ((f_X10_of M v3 3).bind (fun r12 => if r12 = 1 then (if ibs v3 9 = true then (if (gA M 119 v3) ≤ 0 then ((f_X10_of M v3 4).bind (fun r13 => f_X10_goesBy_J178_236 M v2 v3 (f_X10_lesser M 99 (r13 + 1)) ((12 + (5 * v3)) + 4))) else (f_X10_goesBy_J178_236 M v2 v3 0 ((12 + (5 * v3)) + 4))) else none) else (some (.inl (M, (v3 + 1))))))) else none
def f_X10_goesBy (M : Mm) (a1 : Int32) : Option (Int32 × Mm) :=
  (f_X10_asks M ).bind (fun M1 => (f_X10_leads M1 a1).bind (fun M2 => (loop FU (fun a_11 => f_X10_goesBy_L13 a_11.1 a_11.2.1 a_11.2.2) (M2, 0, 0)).bind (fun e_11 => (loop FU (fun a_15 => f_X10_goesBy_L178 a_15.1 e_11.2 a_15.2) (e_11.1, 0)).bind (fun e_15 => if ibs 7 807 = true then (if ibs 7 807 = true then (some (sA e_15 110 7 ((gA e_15 110 7) + e_11.2))).bind (fun M16 => if ibs 6 807 = true then (if ibs 6 807 = true then (some (sA M16 110 6 ((gA M16 110 6) + 1))).bind (fun M17 => some (e_11.2, M17)) else none) else none) else none) else none))))
def rm_X10_hadBy : Room := rmz 0 0
def f_X10_hadBy_L4 (M : Mm) (v1 : Int32) (v2 : Int32) (v3 : Int32) : Option ((Int32 × Int32) ⊕ Int32) :=
  if ibs 4 807 = true then (if (gA M 110 4) ≤ v3 then (some (.inr v2)) else (if ibs v3 10 = true then (if (gA M 117 v3) = v1 then ((some (v2 ||| (1 <<< (v3 &&& 31)))).bind (fun x1 => some (.inl (x1, (v3 + 1))))) else (some (.inl ((v2 ||| 0), (v3 + 1))))) else none)) else none
def f_X10_hadBy (M : Mm) (a1 : Int32) : Option (Int32) :=
  (loop FU (fun a_2 => f_X10_hadBy_L4 M a1 a_2.1 a_2.2) (0, 0)).bind (fun e_2 => some e_2)
def rm_X10_comesBack : Room := rmz 0 0
def f_X10_comesBack_L2 (M : Mm) (v1 : Int32) : Option ((Mm × Int32) ⊕ Mm) :=
  if 407 ≤ v1 then (some (.inr M)) else (if ibs v1 407 = true then (if ibs v1 807 = true then (some (sA M 110 v1 (gA M 112 v1))).bind (fun M1 => some (.inl (M1, (v1 + 1)))) else none) else none)
def f_X10_comesBack (M : Mm)  : Option (Mm) :=
  (loop FU (fun a_2 => f_X10_comesBack_L2 a_2.1 a_2.2) (M, 0)).bind (fun e_2 => some e_2)
def rm_X10_ahead : Room := rmz 56 1274
def f_X10_ahead_L60 (M : Mm) (v1 : Int32) (v2 : Int32) (v3 : Int32) (v4 : Int32) : Option ((Mm × Int32) ⊕ Mm) :=
  if v2 ≤ v4 then (some (.inr M)) else ((f_X10_goesBy M 0).bind (fun rr5 => some (.inl (rr5.2, (v4 + 1)))))
def f_X10_ahead_J105 (M : Mm) (t0 : Int32) : Option (Int32 × Mm) :=
  (f_X10_comesBack M ).bind (fun M8 => some (t0, M8))
def f_X10_ahead_J41 (M : Mm) (v1 : Int32) (v2 : Int32) (v3 : Int32) (t0 : Int32) : Option (Int32 × Mm) :=
  (some (sI M 109 0 t0)).bind (fun M2 => if (gI M2 109 0) ≤ 0 then ((f_X10_putsAside M2 ).bind (fun M3 => (loop FU (fun a_6 => f_X10_ahead_L60 a_6.1 v1 v2 v3 a_6.2) (M3, 0)).bind (fun e_6 => if v3 = 0 then ((f_X10_of e_6 v1 4).bind (fun r9 => f_X10_ahead_J105 e_6 r9)) else (if v2 = 0 then (f_X10_ahead_J105 e_6 0) else ((f_X10_hadBy e_6 v1).bind (fun r7 => f_X10_ahead_J105 e_6 r7)))))) else (some (0, M2)))
def f_X10_ahead (M : Mm) (a1 : Int32) (a2 : Int32) (a3 : Int32) : Option (Int32 × Mm) :=
  (f_X10_isThing M a1).bind (fun r1 => if r1 = true then (if (f_X10_isIn M a2 0 30) = true then (if (f_X10_isIn M a3 0 1) = true then (f_X10_ahead_J41 M a1 a2 a3 0) else (f_X10_ahead_J41 M a1 a2 a3 3)) else (f_X10_ahead_J41 M a1 a2 a3 2)) else (f_X10_ahead_J41 M a1 a2 a3 1))
def rm_X10_ringsFor : Room := rmz 3 66
def f_X10_ringsFor_L4 (M : Mm) (v1 : Int32) (v2 : Int32) (v3 : Int32) : Option ((Int32 × Int32) ⊕ Int32) :=
  if ibs 4 807 = true then (if (gA M 110 4) ≤ v3 then (some (.inr v2)) else ((f_X10_canHave M v1 v3).bind (fun r1 => if r1 = true then ((some (v2 ||| (1 <<< (v3 &&& 31)))).bind (fun x2 => some (.inl (x2, (v3 + 1))))) else (some (.inl ((v2 ||| 0), (v3 + 1))))))) else none
def f_X10_ringsFor (M : Mm) (a1 : Int32) : Option (Int32) :=
  (loop FU (fun a_3 => f_X10_ringsFor_L4 M a1 a_3.1 a_3.2) (0, 0)).bind (fun e_3 => some e_3)
def rm_X10_alone : Room := rmz 55 1250
def f_X10_alone_L13 (M : Mm) (v1 : Int32) (v2 : Int32) : Option ((Int32 × Int32) ⊕ Int32) :=
  if ibs 3 807 = true then (if (gA M 110 3) ≤ v2 then (some (.inr v1)) else ((f_X10_ringsFor M v2).bind (fun r3 => if r3 = 0 then ((some (v1 ||| (1 <<< (v2 &&& 31)))).bind (fun x4 => some (.inl (x4, (v2 + 1))))) else (some (.inl ((v1 ||| 0), (v2 + 1))))))) else none
def f_X10_alone (M : Mm)  : Option (Int32 × Mm) :=
  (some (sI M 109 0 0)).bind (fun M1 => (f_X10_asks M1 ).bind (fun M2 => (loop FU (fun a_5 => f_X10_alone_L13 M2 a_5.1 a_5.2) (0, 0)).bind (fun e_5 => some (e_5, M2))))
abbrev RT_gfinds : Type := (Mm → Int32 → Int32 → Option (Bool × Mm))
def rmr_gfinds (d : Nat) : Room := rmr 2 25 24 d
def f_X10_finds_L2 (rc : RT_gfinds) (M : Mm) (v1 : Int32) (v2 : Int32) (v3 : Int32) : Option ((Mm × Int32) ⊕ ((Bool × Mm) ⊕ Mm)) :=
  if ibs 3 807 = true then (if (gA M 110 3) ≤ v3 then (some (.inr (.inr M))) else (if ibs v1 10 = true then (if (f_X10_isOf M ((gA M 121 v1) &&& (v2 ^^^ (-1))) v3) = true then (if ibs v3 9 = true then ((f_X10_of M v3 2).bind (fun r1 => if (gA M 119 v3) = r1 then (some (.inl (M, (v3 + 1)))) else (if ibs v1 10 = true then (some (sA M 120 v1 v3)).bind (fun M2 => if ibs v3 9 = true then (if ibs v3 9 = true then (some (sA M2 119 v3 ((gA M2 119 v3) + 1))).bind (fun M3 => some (.inr (.inl (true, M3)))) else none) else none) else none))) else none) else (some (.inl (M, (v3 + 1))))) else none)) else none
def f_X10_finds_L74 (rc : RT_gfinds) (M : Mm) (v1 : Int32) (v2 : Int32) (v3 : Int32) : Option ((Mm × Int32) ⊕ ((Bool × Mm) ⊕ Mm)) :=
  if ibs 4 807 = true then (if (gA M 110 4) ≤ v3 then (some (.inr (.inr M))) else (if ibs v3 10 = true then (if (gA M 120 v3) = (-1) then (some (.inl (M, (v3 + 1)))) else (if ibs v1 10 = true then (if ibs v3 10 = true then (if (f_X10_isOf M ((gA M 121 v1) &&& (v2 ^^^ (-1))) (gA M 120 v3)) = true then (if ibs v3 10 = true then (if ibs v1 10 = true then ((rc M v3 (v2 ||| (gA M 121 v1))).bind (fun rr6 => if rr6.1 = true then (if ibs v1 10 = true then (some (sA rr6.2 120 v1 (gA M 120 v3))).bind (fun M7 => some (.inr (.inl (true, M7)))) else none) else (some (.inl (rr6.2, (v3 + 1)))))) else none) else none) else (some (.inl (M, (v3 + 1))))) else none) else none)) else none)) else none
def fB_X10_finds (rc : RT_gfinds) (M : Mm) (a1 : Int32) (a2 : Int32) : Option (Bool × Mm) :=
  (loop FU (fun a_4 => f_X10_finds_L2 rc a_4.1 a1 a2 a_4.2) (M, 0)).bind (Sum.elim (fun v => some v) (fun e_4 => (loop FU (fun a_8 => f_X10_finds_L74 rc a_8.1 a1 a2 a_8.2) (e_4, 0)).bind (Sum.elim (fun v => some v) (fun e_8 => some (false, e_8)))))
def f_gfinds : Nat → RT_gfinds
  | 0 => fun _ _ _ => none
  | d + 1 => fB_X10_finds (f_gfinds d)
def f_X10_finds (M : Mm) (a1 : Int32) (a2 : Int32) : Option (Bool × Mm) := (f_gfinds 40) M a1 a2
def rm_X10_finds : Room := rmz 42 985
def rm_X10_areHad : Room := rmz 43 1009
def f_X10_areHad_L2 (M : Mm) (v1 : Int32) (v2 : Int32) : Option ((Mm × Int32) ⊕ Mm) :=
  if 9 ≤ v2 then (some (.inr M)) else (if ibs v2 9 = true then (some (sA M 119 v2 0)).bind (fun M1 => some (.inl (M1, (v2 + 1)))) else none)
def f_X10_areHad_L23 (M : Mm) (v1 : Int32) (v2 : Int32) : Option ((Mm × Int32) ⊕ Mm) :=
  if 10 ≤ v2 then (some (.inr M)) else (if ibs v2 10 = true then (some (sA M 120 v2 (-1))).bind (fun M3 => some (.inl (M3, (v2 + 1)))) else none)
def f_X10_areHad_L44 (M : Mm) (v1 : Int32) (v2 : Int32) : Option ((Mm × Int32) ⊕ ((Bool × Mm) ⊕ Mm)) :=
  if ibs 4 807 = true then (if (gA M 110 4) ≤ v2 then (some (.inr (.inr M))) else (if (f_X10_isOf M v1 v2) = true then ((f_X10_finds M v2 0).bind (fun rr6 => if rr6.1 = true then (some (.inl (rr6.2, (v2 + 1)))) else (some (.inr (.inl (false, rr6.2)))))) else (some (.inl (M, (v2 + 1)))))) else none
def f_X10_areHad (M : Mm) (a1 : Int32) : Option (Bool × Mm) :=
  (loop FU (fun a_2 => f_X10_areHad_L2 a_2.1 a1 a_2.2) (M, 0)).bind (fun e_2 => (loop FU (fun a_4 => f_X10_areHad_L23 a_4.1 a1 a_4.2) (e_2, 0)).bind (fun e_4 => (loop FU (fun a_7 => f_X10_areHad_L44 a_7.1 a1 a_7.2) (e_4, 0)).bind (Sum.elim (fun v => some v) (fun e_7 => some (true, e_7)))))
def rm_X10_back : Room := rmz 0 0
def f_X10_back_L16 (M : Mm) (v1 : Int32) : Option ((Mm × Int32) ⊕ Mm) :=
  if 807 ≤ v1 then (some (.inr M)) else (if ibs v1 807 = true then (if ibs v1 807 = true then (some (sA M 110 v1 (gA M 111 v1))).bind (fun M2 => some (.inl (M2, (v1 + 1)))) else none) else none)
def f_X10_back (M : Mm)  : Option (Bool × Mm) :=
  (some (sI M 109 0 0)).bind (fun M1 => if (gI M1 109 3) = 0 then (some (false, M1)) else ((loop FU (fun a_3 => f_X10_back_L16 a_3.1 a_3.2) (M1, 0)).bind (fun e_3 => (some (sI e_3 109 6 0)).bind (fun M4 => some (true, M4)))))
def rm_X10_begins : Room := rmz 0 0
def f_X10_begins (M : Mm)  : Option (Mm) :=
  (some (sI M 109 12 (-1))).bind (fun M1 => (some (sI M1 109 9 (-1))).bind (fun M2 => (some (sI M2 109 10 (gI M2 109 8))).bind (fun M3 => (some (sI M3 109 8 0)).bind (fun M4 => (some (sI M4 109 11 0)).bind (fun M5 => (some (sI M5 109 13 0)).bind (fun M6 => some M6))))))
def rm_X10_bits : Room := rmz 0 0
def f_X10_bits_L4 (M : Mm) (v0 : Int32) (v1 : Int32) (v2 : Int32) : Option ((Int32 × Int32) ⊕ Int32) :=
  if 31 ≤ v2 then (some (.inr v1)) else ((some (v1 + ((v0 >>> (v2 &&& 31)) &&& 1))).bind (fun x1 => some (.inl (x1, (v2 + 1)))))
def f_X10_bits (M : Mm) (a0 : Int32) : Option (Int32) :=
  (loop FU (fun a_2 => f_X10_bits_L4 M a0 a_2.1 a_2.2) (0, 0)).bind (fun e_2 => some e_2)
def rm_X10_ringing : Room := rmz 3 66
def f_X10_ringing_L4 (M : Mm) (v1 : Int32) (v2 : Int32) (v3 : Int32) : Option ((Int32 × Int32) ⊕ Int32) :=
  if ibs 3 807 = true then (if (gA M 110 3) ≤ v3 then (some (.inr v2)) else ((f_X10_canHave M v3 v1).bind (fun r1 => if r1 = true then ((some (v2 ||| (1 <<< (v3 &&& 31)))).bind (fun x2 => some (.inl (x2, (v3 + 1))))) else (some (.inl ((v2 ||| 0), (v3 + 1))))))) else none
def f_X10_ringing (M : Mm) (a1 : Int32) : Option (Int32) :=
  (loop FU (fun a_3 => f_X10_ringing_L4 M a1 a_3.1 a_3.2) (0, 0)).bind (fun e_3 => some e_3)
def rm_X10_looks : Room := rmz 55 1250
def f_X10_looks_L6 (M : Mm) (v1 : Int32) : Option ((Mm × Int32) ⊕ Mm) :=
  if ibs 4 807 = true then (if (gA M 110 4) ≤ v1 then (some (.inr M)) else ((f_X10_ringing M v1).bind (fun r2 => if ibs v1 10 = true then (some (sA M 121 v1 r2)).bind (fun M3 => some (.inl (M3, (v1 + 1)))) else none))) else none
def f_X10_looks (M : Mm)  : Option (Mm) :=
  (f_X10_asks M ).bind (fun M1 => (loop FU (fun a_4 => f_X10_looks_L6 a_4.1 a_4.2) (M1, 0)).bind (fun e_4 => some e_4))
def rm_X10_cannot : Room := rmz 56 1271
def f_X10_cannot_J13_40 (M : Mm) (v1 : Int32) (v2 : Int32) : Option ((Mm × Int32 × Int32) ⊕ (Mm × Int32)) :=
  (f_X10_areHad M v2).bind (fun rr4 => if rr4.1 = true then (some (.inl (rr4.2, v1, (v2 + 1)))) else (some (.inl (rr4.2, v2, (v2 + 1)))))
def f_X10_cannot_L13 (M : Mm) (v1 : Int32) (v2 : Int32) : Option ((Mm × Int32 × Int32) ⊕ (Mm × Int32)) :=
  if ibs 4 807 = true then (if (1 <<< ((gA M 110 4) &&& 31)) ≤ v2 then (some (.inr (M, v1))) else (if v1 = 0 then (f_X10_cannot_J13_40 M v1 v2) else ((f_X10_bits M v2).bind (fun r5 => (f_X10_bits M v1).bind (fun r6 => if r6 ≤ r5 then (some (.inl (M, v1, (v2 + 1)))) else (f_X10_cannot_J13_40 M v1 v2)))))) else none
def f_X10_cannot (M : Mm)  : Option (Int32 × Mm) :=
  (some (sI M 109 0 0)).bind (fun M1 => (f_X10_looks M1 ).bind (fun M2 => (loop FU (fun a_7 => f_X10_cannot_L13 a_7.1 a_7.2.1 a_7.2.2) (M2, 0, 1)).bind (fun e_7 => some (e_7.2, e_7.1))))
def rm_X10_tomorrow : Room := rmz 55 1250
def f_X10_tomorrow (M : Mm)  : Option (Mm) :=
  (f_X10_asks M ).bind (fun M1 => (f_X10_leads M1 0).bind (fun M2 => some M2))
def rm_X10_hadNow : Room := rmz 0 0
def f_X10_hadNow_L4 (M : Mm) (v1 : Int32) (v2 : Int32) : Option ((Int32 × Int32) ⊕ Int32) :=
  if ibs 4 807 = true then (if (gA M 110 4) ≤ v2 then (some (.inr v1)) else (if ibs v2 10 = true then (if (gA M 117 v2) = (-1) then (some (.inl ((v1 ||| 0), (v2 + 1)))) else ((some (v1 ||| (1 <<< (v2 &&& 31)))).bind (fun x1 => some (.inl (x1, (v2 + 1)))))) else none)) else none
def f_X10_hadNow (M : Mm)  : Option (Int32) :=
  (loop FU (fun a_2 => f_X10_hadNow_L4 M a_2.1 a_2.2) (0, 0)).bind (fun e_2 => some e_2)
def rm_X10_swap : Room := rmz 1 22
def f_X10_swap (M : Mm) (a1 : Int32) (a2 : Int32) : Option (Mm) :=
  (f_X10_of M a1 0).bind (fun r1 => (f_X10_of M a2 0).bind (fun r2 => if ibs ((12 + (5 * a1)) + 0) 807 = true then (some (sA M 110 ((12 + (5 * a1)) + 0) r2)).bind (fun M3 => if ibs ((12 + (5 * a2)) + 0) 807 = true then (some (sA M3 110 ((12 + (5 * a2)) + 0) r1)).bind (fun M4 => some M4) else none) else none))
def rm_X10_change : Room := rmz 56 1270
def f_X10_change_L39 (M : Mm) (v1 : Int32) (v2 : Int32) (v3 : Int32) (v4 : Int32) (v5 : Int32) : Option ((Mm × Int32 × Int32 × Int32) ⊕ (Mm × Int32 × Int32)) :=
  if ibs 3 807 = true then (if (gA M 110 3) ≤ v5 then (some (.inr (M, v2, v3))) else ((f_X10_swap M v4 v5).bind (fun M5 => (f_X10_tomorrow M5 ).bind (fun M6 => (f_X10_swap M6 v4 v5).bind (fun M7 => (f_X10_hadNow M7 ).bind (fun r8 => (f_X10_bits M7 r8).bind (fun r9 => if v2 < r9 then (some (.inl (M7, r9, ((10 * v4) + v5), (v5 + 1)))) else (some (.inl (M7, v2, v3, (v5 + 1))))))))))) else none
def f_X10_change_L22 (M : Mm) (v1 : Int32) (v2 : Int32) (v3 : Int32) (v4 : Int32) : Option ((Mm × Int32 × Int32 × Int32) ⊕ (Mm × Int32 × Int32)) :=
  if ibs 3 807 = true then (if (gA M 110 3) ≤ v4 then (some (.inr (M, v2, v3))) else ((loop FU (fun a_10 => f_X10_change_L39 a_10.1 v1 a_10.2.1 a_10.2.2.1 v4 a_10.2.2.2) (M, v2, v3, (v4 + 1))).bind (fun e_10 => some (.inl (e_10.1, e_10.2.1, e_10.2.2, (v4 + 1)))))) else none
def f_X10_change (M : Mm) (a1 : Int32) : Option (Int32 × Mm) :=
  (some (sI M 109 0 0)).bind (fun M1 => (f_X10_tomorrow M1 ).bind (fun M2 => (f_X10_hadNow M2 ).bind (fun r3 => (f_X10_bits M2 r3).bind (fun r4 => (loop FU (fun a_11 => f_X10_change_L22 a_11.1 a1 a_11.2.1 a_11.2.2.1 a_11.2.2.2) (M2, r4, (-1), 0)).bind (fun e_11 => if a1 = 0 then (some (e_11.2.2, e_11.1)) else (some (e_11.2.1, e_11.1)))))))
def rm_X10_remembers : Room := rmz 0 0
def f_X10_remembers_L52 (M : Mm) (v1 : Int32) : Option ((Mm × Int32) ⊕ Mm) :=
  if 407 ≤ v1 then (some (.inr M)) else (if ibs v1 807 = true then (if ibs ((407 * (gI M 109 6)) + v1) 4884 = true then (some (sA M 113 ((407 * (gI M 109 6)) + v1) (gA M 110 v1))).bind (fun M1 => some (.inl (M1, (v1 + 1)))) else none) else none)
def f_X10_remembers_J50 (M : Mm)  : Option (Mm) :=
  (loop FU (fun a_2 => f_X10_remembers_L52 a_2.1 a_2.2) (M, 0)).bind (fun e_2 => (some (sI e_2 109 6 ((gI e_2 109 6) + 1))).bind (fun M3 => some M3))
def f_X10_remembers_L11 (M : Mm) (v1 : Int32) : Option ((Mm × Int32) ⊕ Mm) :=
  if 4477 ≤ v1 then (some (.inr M)) else (if ibs (v1 + 407) 4884 = true then (if ibs v1 4884 = true then (some (sA M 113 v1 (gA M 113 (v1 + 407)))).bind (fun M4 => some (.inl (M4, (v1 + 1)))) else none) else none)
def f_X10_remembers (M : Mm)  : Option (Mm) :=
  if (gI M 109 6) = 12 then ((loop FU (fun a_5 => f_X10_remembers_L11 a_5.1 a_5.2) (M, 0)).bind (fun e_5 => (some (sI e_5 109 6 ((gI e_5 109 6) - 1))).bind (fun M6 => f_X10_remembers_J50 M6 ))) else (f_X10_remembers_J50 M )
def rm_X10_clean : Room := rmz 2 43
def f_X10_clean_J28 (M : Mm) (v1 : Int32) (v2 : Int32) (t0 : Int32) : Option (Int32 × Mm) :=
  (some (sI M 109 0 t0)).bind (fun M2 => if (gI M2 109 0) ≤ 0 then ((f_X10_remembers M2 ).bind (fun M3 => (f_X10_ofOne M3 v1 1).bind (fun r4 => if ibs ((57 + (5 * v1)) + 1) 807 = true then (some (sA M3 110 ((57 + (5 * v1)) + 1) v2)).bind (fun M5 => some (r4, M5)) else none))) else (some (0, M2)))
def f_X10_clean (M : Mm) (a1 : Int32) (a2 : Int32) : Option (Int32 × Mm) :=
  (f_X10_isVisitor M a1).bind (fun r1 => if r1 = true then (if (f_X10_isIn M a2 0 9) = true then (f_X10_clean_J28 M a1 a2 0) else (f_X10_clean_J28 M a1 a2 2)) else (f_X10_clean_J28 M a1 a2 1))
def rm_X10_comes : Room := rmz 56 1274
def f_X10_comes_L34 (M : Mm) (v1 : Int32) (v2 : Int32) (v3 : Int32) : Option ((Mm × Int32 × Int32) ⊕ (Mm × Int32)) :=
  if 30 < v3 then (some (.inr (M, v2))) else (if v2 = (-1) then ((f_X10_goesBy M 0).bind (fun rr5 => if ibs v1 9 = true then (if (gA rr5.2 119 v1) ≤ 0 then (some (.inl (rr5.2, v2, (v3 + 1)))) else (some (.inl (rr5.2, v3, (v3 + 1))))) else none)) else (some (.inr (M, v2))))
def f_X10_comes_J14 (M : Mm) (v1 : Int32) (t0 : Int32) : Option (Int32 × Mm) :=
  (some (sI M 109 0 t0)).bind (fun M2 => if (gI M2 109 0) ≤ 0 then ((f_X10_putsAside M2 ).bind (fun M3 => (loop FU (fun a_6 => f_X10_comes_L34 a_6.1 v1 a_6.2.1 a_6.2.2) (M3, (-1), 1)).bind (fun e_6 => (f_X10_comesBack e_6.1 ).bind (fun M7 => some (e_6.2, M7))))) else (some (0, M2)))
def f_X10_comes (M : Mm) (a1 : Int32) : Option (Int32 × Mm) :=
  (f_X10_isThing M a1).bind (fun r1 => if r1 = true then (f_X10_comes_J14 M a1 0) else (f_X10_comes_J14 M a1 1))
def rm_X10_shown : Room := rmz 1 22
def f_X10_shown_L4 (M : Mm) (v1 : Int32) (v2 : Int32) : Option ((Int32 × Int32) ⊕ Int32) :=
  if ibs 3 807 = true then (if (gA M 110 3) ≤ v2 then (some (.inr v1)) else ((f_X10_of M v2 3).bind (fun r1 => (some (v1 ||| (r1 <<< (v2 &&& 31)))).bind (fun x2 => some (.inl (x2, (v2 + 1))))))) else none
def f_X10_shown (M : Mm)  : Option (Int32) :=
  (loop FU (fun a_3 => f_X10_shown_L4 M a_3.1 a_3.2) (0, 0)).bind (fun e_3 => some e_3)
def rm_X10_together : Room := rmz 1 22
def f_X10_together_L4 (M : Mm) (v1 : Int32) (v2 : Int32) (v3 : Int32) : Option ((Int32 × Int32) ⊕ Int32) :=
  if ibs 3 807 = true then (if (gA M 110 3) ≤ v3 then (some (.inr v2)) else ((f_X10_of M v3 v1).bind (fun r1 => some (.inl ((v2 + r1), (v3 + 1)))))) else none
def f_X10_together (M : Mm) (a1 : Int32) : Option (Int32) :=
  (loop FU (fun a_2 => f_X10_together_L4 M a1 a_2.1 a_2.2) (0, 0)).bind (fun e_2 => some e_2)
def rm_X10_count : Room := rmz 2 45
def f_X10_count (M : Mm) (a1 : Int32) : Option (Int32 × Mm) :=
  (some (sI M 109 0 0)).bind (fun M1 => if a1 = 0 then (if ibs 3 807 = true then (some ((gA M1 110 3), M1)) else none) else (if a1 = 1 then (if ibs 4 807 = true then (some ((gA M1 110 4), M1)) else none) else (if a1 = 2 then (if ibs 0 807 = true then (some ((gA M1 110 0), M1)) else none) else (if a1 = 3 then (if ibs 1 807 = true then (some ((gA M1 110 1), M1)) else none) else (if a1 = 4 then (if ibs 6 807 = true then (some ((gA M1 110 6), M1)) else none) else (if a1 = 5 then (if ibs 5 807 = true then (some ((gA M1 110 5), M1)) else none) else (if a1 = 6 then ((f_X10_shown M1 ).bind (fun r4 => some (r4, M1))) else (if a1 = 7 then ((f_X10_together M1 4).bind (fun r3 => some (r3, M1))) else (if a1 = 8 then ((f_X10_together M1 2).bind (fun r2 => some (r2, M1))) else (if a1 = 9 then (if ibs 7 807 = true then (some ((gA M1 110 7), M1)) else none) else (if a1 = 10 then (if ibs 8 807 = true then (some ((gA M1 110 8), M1)) else none) else (if a1 = 11 then (some ((gI M1 109 6), M1)) else (some ((-1), M1))))))))))))))
def rm_X10_goes : Room := rmz 56 1274
def f_X10_goes_L4 (M : Mm) (v1 : Int32) (v2 : Int32) (v3 : Int32) : Option ((Mm × Int32 × Int32) ⊕ (Mm × Int32)) :=
  if v1 ≤ v3 then (some (.inr (M, v2))) else ((f_X10_goesBy M 1).bind (fun rr2 => some (.inl (rr2.2, (v2 + rr2.1), (v3 + 1)))))
def f_X10_goes (M : Mm) (a1 : Int32) : Option (Int32 × Mm) :=
  (loop FU (fun a_3 => f_X10_goes_L4 a_3.1 a1 a_3.2.1 a_3.2.2) (M, 0, 0)).bind (fun e_3 => some (e_3.2, e_3.1))
def rm_X10_days : Room := rmz 57 1297
def f_X10_days_J16 (M : Mm) (v1 : Int32) (t0 : Int32) : Option (Int32 × Mm) :=
  (some (sI M 109 0 t0)).bind (fun M1 => if (gI M1 109 0) ≤ 0 then ((f_X10_remembers M1 ).bind (fun M2 => (f_X10_goes M2 v1).bind (fun rr4 => some (rr4.1, rr4.2)))) else (some (0, M1)))
def f_X10_days (M : Mm) (a1 : Int32) : Option (Int32 × Mm) :=
  if (f_X10_isIn M a1 1 50) = true then (f_X10_days_J16 M a1 0) else (f_X10_days_J16 M a1 1)
def rm_X10_stepsOn : Room := rmz 1 21
def f_X10_stepsOn_J2_54 (M : Mm) (v1 : Int32) (v2 : Int32) (t0 : Int32) (t1 : Int32) : Option ((Mm × Int32) ⊕ Mm) :=
  if ibs t1 19 = true then (some (sA M 123 t1 t0)).bind (fun M1 => if ibs v2 19 = true then (some (sA M1 124 v2 (-1))).bind (fun M2 => some (.inl (M2, (v2 + 1)))) else none) else none
def f_X10_stepsOn_J2_51 (M : Mm) (v1 : Int32) (v2 : Int32) (t0 : Int32) : Option ((Mm × Int32) ⊕ Mm) :=
  f_X10_stepsOn_J2_54 M v1 v2 (-2000000000) t0
def f_X10_stepsOn_L2 (M : Mm) (v1 : Int32) (v2 : Int32) : Option ((Mm × Int32) ⊕ Mm) :=
  if 19 ≤ v2 then (some (.inr M)) else (if v2 < (9 + v1) then (f_X10_stepsOn_J2_51 M v1 v2 v2) else (if ibs 4 807 = true then (if (9 + (gA M 110 4)) ≤ v2 then (f_X10_stepsOn_J2_51 M v1 v2 v2) else (if ibs (v2 - 9) 10 = true then (if (gA M 120 (v2 - 9)) = (-1) then (f_X10_stepsOn_J2_54 M v1 v2 0 v2) else (f_X10_stepsOn_J2_51 M v1 v2 v2)) else none)) else none))
def f_X10_stepsOn_J91_208 (M : Mm) (v1 : Int32) (v2 : Int32) (v3 : Int32) (v4 : Int32) (v5 : Int32) : Option ((Mm × Int32) ⊕ Mm) :=
  if ibs v3 10 = true then (if (gA M 120 v3) = v4 then (if ibs v4 19 = true then (if (gA M 123 v4) ≤ (-2000000000) then (some (.inl (M, (v4 + 1)))) else (if ibs v4 19 = true then (if ibs (9 + v3) 19 = true then (if ((gA M 123 v4) - v5) ≤ (gA M 123 (9 + v3)) then (some (.inl (M, (v4 + 1)))) else (if ibs v4 19 = true then (if ibs (9 + v3) 19 = true then (some (sA M 123 (9 + v3) ((gA M 123 v4) - v5))).bind (fun M5 => if ibs (9 + v3) 19 = true then (some (sA M5 124 (9 + v3) v4)).bind (fun M6 => some (.inl (M6, (v4 + 1)))) else none) else none) else none)) else none) else none)) else none) else (some (.inl (M, (v4 + 1))))) else none
def f_X10_stepsOn_L91 (M : Mm) (v1 : Int32) (v2 : Int32) (v3 : Int32) (v4 : Int32) : Option ((Mm × Int32) ⊕ Mm) :=
  if ibs 3 807 = true then (if (gA M 110 3) ≤ v4 then (some (.inr M)) else (if ibs v3 10 = true then (if (f_X10_isOf M (gA M 121 v3) v4) = true then (if ibs ((10 * v4) + v3) 90 = true then ((some (gA M 116 ((10 * v4) + v3))).bind (fun x4 => if ibs v3 10 = true then (if (gA M 120 v3) = v4 then (f_X10_stepsOn_J91_208 M v1 v2 v3 v4 x4) else (if ibs (9 + v3) 19 = true then (if (gA M 123 (9 + v3)) ≤ (-2000000000) then (f_X10_stepsOn_J91_208 M v1 v2 v3 v4 x4) else (if ibs (9 + v3) 19 = true then (if ibs v4 19 = true then (if ((gA M 123 (9 + v3)) + x4) ≤ (gA M 123 v4) then (f_X10_stepsOn_J91_208 M v1 v2 v3 v4 x4) else (if ibs (9 + v3) 19 = true then (if ibs v4 19 = true then (some (sA M 123 v4 ((gA M 123 (9 + v3)) + x4))).bind (fun M7 => if ibs v4 19 = true then (some (sA M7 124 v4 v3)).bind (fun M8 => f_X10_stepsOn_J91_208 M8 v1 v2 v3 v4 x4) else none) else none) else none)) else none) else none)) else none)) else none)) else none) else (some (.inl (M, (v4 + 1))))) else none)) else none
def f_X10_stepsOn_L78 (M : Mm) (v1 : Int32) (v2 : Int32) (v3 : Int32) : Option ((Mm × Int32) ⊕ Mm) :=
  if ibs 4 807 = true then (if (gA M 110 4) ≤ v3 then (some (.inr M)) else ((loop FU (fun a_9 => f_X10_stepsOn_L91 a_9.1 v1 v2 v3 a_9.2) (M, 0)).bind (fun e_9 => some (.inl (e_9, (v3 + 1)))))) else none
def f_X10_stepsOn_L70 (M : Mm) (v1 : Int32) (v2 : Int32) : Option ((Mm × Int32) ⊕ Mm) :=
  if 19 ≤ v2 then (some (.inr M)) else ((loop FU (fun a_10 => f_X10_stepsOn_L78 a_10.1 v1 v2 a_10.2) (M, v1)).bind (fun e_10 => some (.inl (e_10, (v2 + 1)))))
def f_X10_stepsOn_L306 (M : Mm) (v2 : Int32) (v3 : Int32) : Option ((Int32 × Int32) ⊕ Int32) :=
  if ibs 3 807 = true then (if (gA M 110 3) ≤ v3 then (some (.inr v2)) else (if ibs v3 19 = true then (if (gA M 123 v3) ≤ 0 then (some (.inl (v2, (v3 + 1)))) else (if ibs v3 9 = true then (if ibs v3 9 = true then (if (gA M 122 v3) ≤ (gA M 119 v3) then (some (.inl (v2, (v3 + 1)))) else (if v2 = (-1) then (some (.inl (v3, (v3 + 1)))) else (if ibs v3 19 = true then (if ibs v2 19 = true then (if (gA M 123 v3) ≤ (gA M 123 v2) then (some (.inl (v2, (v3 + 1)))) else (some (.inl (v3, (v3 + 1))))) else none) else none))) else none) else none)) else none)) else none
def f_X10_stepsOn_L395 (M : Mm) (v3 : Int32) (v4 : Int32) : Option ((Mm × Int32) ⊕ Mm) :=
  if v4 = (-1) then (some (.inr M)) else (if ibs v4 19 = true then (if ibs (gA M 124 v4) 10 = true then (if ibs (gA M 124 v4) 10 = true then (some (sA M 120 (gA M 124 v4) v4)).bind (fun M14 => some (.inl (M14, (gA M 120 (gA M 124 v4))))) else none) else none) else none)
def f_X10_stepsOn (M : Mm) (a1 : Int32) : Option (Int32 × Mm) :=
  (loop FU (fun a_3 => f_X10_stepsOn_L2 a_3.1 a1 a_3.2) (M, 0)).bind (fun e_3 => (loop FU (fun a_11 => f_X10_stepsOn_L70 a_11.1 a1 a_11.2) (e_3, 0)).bind (fun e_11 => (loop FU (fun a_12 => f_X10_stepsOn_L306 e_11 a_12.1 a_12.2) ((-1), 0)).bind (fun e_12 => if e_12 = (-1) then (some (0, e_11)) else (if ibs e_12 19 = true then (if ibs e_12 9 = true then (if ibs e_12 9 = true then (some (sA e_11 119 e_12 ((gA e_11 119 e_12) + 1))).bind (fun M13 => (loop FU (fun a_15 => f_X10_stepsOn_L395 a_15.1 (gA e_11 123 e_12) a_15.2) (M13, e_12)).bind (fun e_15 => some ((gA e_11 123 e_12), e_15))) else none) else none) else none))))
def rm_X10_dearestFrom : Room := rmz 2 47
def f_X10_dearestFrom_L2 (M : Mm) (v1 : Int32) (v2 : Int32) : Option ((Mm × Int32) ⊕ Mm) :=
  if 10 ≤ v2 then (some (.inr M)) else (if ibs v2 10 = true then (some (sA M 120 v2 (-1))).bind (fun M1 => some (.inl (M1, (v2 + 1)))) else none)
def f_X10_dearestFrom_L23 (M : Mm) (v1 : Int32) (v2 : Int32) : Option ((Mm × Int32) ⊕ Mm) :=
  if 9 ≤ v2 then (some (.inr M)) else (if ibs v2 9 = true then (some (sA M 119 v2 0)).bind (fun M3 => some (.inl (M3, (v2 + 1)))) else none)
def f_X10_dearestFrom_L50 (M : Mm) (v1 : Int32) (v2 : Int32) (v3 : Int32) : Option ((Mm × Int32 × Int32) ⊕ (Mm × Int32)) :=
  if v3 ≤ 0 then (some (.inr (M, v2))) else ((f_X10_stepsOn M v1).bind (fun rr8 => some (.inl (rr8.2, (v2 + v3), rr8.1))))
def f_X10_dearestFrom (M : Mm) (a1 : Int32) : Option (Int32 × Mm) :=
  (loop FU (fun a_2 => f_X10_dearestFrom_L2 a_2.1 a1 a_2.2) (M, 0)).bind (fun e_2 => (loop FU (fun a_4 => f_X10_dearestFrom_L23 a_4.1 a1 a_4.2) (e_2, 0)).bind (fun e_4 => (f_X10_stepsOn e_4 a1).bind (fun rr6 => (loop FU (fun a_9 => f_X10_dearestFrom_L50 a_9.1 a1 a_9.2.1 a_9.2.2) (rr6.2, 0, rr6.1)).bind (fun e_9 => some (e_9.2, e_9.1)))))
def rm_X10_firstFor : Room := rmz 3 70
def f_X10_firstFor_J2_75 (M : Mm) (v1 : Int32) (v2 : Int32) (v3 : Int32) (t0 : Int32) : Option ((Mm × Int32) ⊕ ((Int32 × Mm) ⊕ Mm)) :=
  if ibs v3 9 = true then (if ibs v3 9 = true then (some (sA M 122 v3 ((gA M 122 v3) + 1))).bind (fun M4 => if t0 = 0 then (some (.inl (M4, (v3 + 1)))) else (some (.inr (.inl (v3, M4))))) else none) else none
def f_X10_firstFor_L2 (M : Mm) (v1 : Int32) (v2 : Int32) (v3 : Int32) : Option ((Mm × Int32) ⊕ ((Int32 × Mm) ⊕ Mm)) :=
  if ibs 3 807 = true then (if (gA M 110 3) ≤ v3 then (some (.inr (.inr M))) else (if ibs v1 10 = true then (if (f_X10_isOf M (gA M 121 v1) v3) = true then (if ibs v3 9 = true then (if (gA M 122 v3) = 0 then (some (.inl (M, (v3 + 1)))) else (if ibs v3 9 = true then (if ibs v3 9 = true then (some (sA M 122 v3 ((gA M 122 v3) - 1))).bind (fun M1 => (f_X10_dearestFrom M1 (v1 + 1)).bind (fun rr3 => if ibs ((10 * v3) + v1) 90 = true then (if (rr3.1 + (gA rr3.2 116 ((10 * v3) + v1))) = v2 then (f_X10_firstFor_J2_75 rr3.2 v1 v2 v3 1) else (f_X10_firstFor_J2_75 rr3.2 v1 v2 v3 0)) else none)) else none) else none)) else none) else (some (.inl (M, (v3 + 1))))) else none)) else none
def f_X10_firstFor (M : Mm) (a1 : Int32) (a2 : Int32) : Option (Int32 × Mm) :=
  (loop FU (fun a_5 => f_X10_firstFor_L2 a_5.1 a1 a2 a_5.2) (M, 0)).bind (Sum.elim (fun v => some v) (fun e_5 => some ((-1), e_5)))
def rm_X10_dearest : Room := rmz 56 1271
def f_X10_dearest_L37 (M : Mm) (v1 : Int32) (v2 : Int32) : Option ((Mm × Int32) ⊕ Mm) :=
  if ibs 3 807 = true then (if (gA M 110 3) ≤ v2 then (some (.inr M)) else ((f_X10_of M v2 2).bind (fun r3 => if ibs v2 9 = true then (some (sA M 122 v2 r3)).bind (fun M4 => some (.inl (M4, (v2 + 1)))) else none))) else none
def f_X10_dearest_J80_107 (M : Mm) (v1 : Int32) (v2 : Int32) (v3 : Int32) (v4 : Int32) : Option ((Mm × Int32 × Int32) ⊕ ((Int32 × Mm) ⊕ Mm)) :=
  if v3 = v1 then (some (.inr (.inl (v4, M)))) else (if v4 = (-1) then (some (.inl (M, v2, (v3 + 1)))) else (if ibs ((10 * v4) + v3) 90 = true then ((some (v2 - (gA M 116 ((10 * v4) + v3)))).bind (fun x10 => if ibs v4 9 = true then (if ibs v4 9 = true then (some (sA M 122 v4 ((gA M 122 v4) - 1))).bind (fun M11 => some (.inl (M11, x10, (v3 + 1)))) else none) else none)) else none))
def f_X10_dearest_L80 (M : Mm) (v1 : Int32) (v2 : Int32) (v3 : Int32) : Option ((Mm × Int32 × Int32) ⊕ ((Int32 × Mm) ⊕ Mm)) :=
  if v1 < v3 then (some (.inr (.inr M))) else ((f_X10_dearestFrom M (v3 + 1)).bind (fun rr9 => if rr9.1 = v2 then (f_X10_dearest_J80_107 rr9.2 v1 v2 v3 (-1)) else ((f_X10_firstFor rr9.2 v3 v2).bind (fun rr13 => f_X10_dearest_J80_107 rr13.2 v1 v2 v3 rr13.1))))
def f_X10_dearest_J19 (M : Mm) (v1 : Int32) (t0 : Int32) : Option (Int32 × Mm) :=
  (some (sI M 109 0 t0)).bind (fun M1 => if (gI M1 109 0) ≤ 0 then ((f_X10_looks M1 ).bind (fun M2 => (loop FU (fun a_5 => f_X10_dearest_L37 a_5.1 v1 a_5.2) (M2, 0)).bind (fun e_5 => (f_X10_dearestFrom e_5 0).bind (fun rr7 => if v1 = (-1) then (some (rr7.1, rr7.2)) else ((loop FU (fun a_14 => f_X10_dearest_L80 a_14.1 v1 a_14.2.1 a_14.2.2) (rr7.2, rr7.1, 0)).bind (Sum.elim (fun v => some v) (fun e_14 => some ((-1), e_14)))))))) else (some (0, M1)))
def f_X10_dearest_J18 (M : Mm) (v1 : Int32) : Option (Int32 × Mm) :=
  f_X10_dearest_J19 M v1 0
def f_X10_dearest (M : Mm) (a1 : Int32) : Option (Int32 × Mm) :=
  if a1 = (-1) then (f_X10_dearest_J18 M a1) else ((f_X10_isVisitor M a1).bind (fun r15 => if r15 = true then (f_X10_dearest_J18 M a1) else (f_X10_dearest_J19 M a1 1)))
def rm_X10_end : Room := rmz 1 22
def f_X10_end (M : Mm) (a1 : Int32) : Option (Bool × Mm) :=
  (some (sI M 109 0 0)).bind (fun M1 => if (f_X10_isIn M1 a1 0 (gI M1 109 8)) = true then ((some (sI M1 109 8 a1)).bind (fun M2 => some (true, M2))) else (some (false, M1)))
def rm_X10_envy : Room := rmz 3 66
def f_X10_envy_L4 (M : Mm) (v1 : Int32) (v2 : Int32) (v3 : Int32) : Option ((Int32 × Int32) ⊕ Int32) :=
  if ibs 4 807 = true then (if (gA M 110 4) ≤ v3 then (some (.inr v2)) else (if ibs v3 10 = true then (if (gA M 117 v3) = v1 then (if ibs ((10 * v1) + v3) 90 = true then ((some (f_X10_greater M v2 (gA M 116 ((10 * v1) + v3)))).bind (fun x1 => some (.inl (x1, (v3 + 1))))) else none) else (some (.inl (v2, (v3 + 1))))) else none)) else none
def f_X10_envy_J51_118 (M : Mm) (v1 : Int32) (v2 : Int32) (v4 : Int32) (t0 : Int32) : Option ((Int32 × Int32) ⊕ Int32) :=
  some (.inl ((t0 ||| 0), (v4 + 1)))
def f_X10_envy_L51 (M : Mm) (v1 : Int32) (v2 : Int32) (v3 : Int32) (v4 : Int32) : Option ((Int32 × Int32) ⊕ Int32) :=
  if ibs 4 807 = true then (if (gA M 110 4) ≤ v4 then (some (.inr v3)) else (if ibs v4 10 = true then (if (gA M 117 v4) = (-1) then (f_X10_envy_J51_118 M v1 v2 v4 v3) else (if ibs v4 10 = true then (if (gA M 117 v4) = v1 then (f_X10_envy_J51_118 M v1 v2 v4 v3) else ((f_X10_canHave M v1 v4).bind (fun r3 => if r3 = true then (if ibs ((10 * v1) + v4) 90 = true then (if (gA M 116 ((10 * v1) + v4)) ≤ v2 then (f_X10_envy_J51_118 M v1 v2 v4 v3) else ((some (v3 ||| (1 <<< (v4 &&& 31)))).bind (fun x4 => some (.inl (x4, (v4 + 1)))))) else none) else (f_X10_envy_J51_118 M v1 v2 v4 v3)))) else none)) else none)) else none
def f_X10_envy (M : Mm) (a1 : Int32) : Option (Int32) :=
  (loop FU (fun a_2 => f_X10_envy_L4 M a1 a_2.1 a_2.2) ((-1), 0)).bind (fun e_2 => (loop FU (fun a_5 => f_X10_envy_L51 M a1 e_2 a_5.1 a_5.2) (0, 0)).bind (fun e_5 => some e_5))
def rm_X10_fault : Room := rmz 0 0
def f_X10_fault (M : Mm)  : Int32 × Mm :=
  ((gI (sI M 109 0 0) 109 12), (sI M 109 0 0))
def rm_X10_feed : Room := rmz 0 0
def f_X10_feed_J23_76 (M : Mm) (v1 : Int32) (v2 : Int32) (v3 : Int32) (v4 : Int32) (v5 : Int32) (v6 : Int32) (t0 : Int32) : Option ((Mm × Int32) ⊕ Mm) :=
  if ibs (gI M 109 8) 400 = true then (some (sA M 114 (gI M 109 8) ((iush t0 (24 - (8 * (v6 - v6 / 4 * 4)))) &&& 255))).bind (fun M2 => (some (sI M2 109 8 ((gI M2 109 8) + 1))).bind (fun M3 => some (.inl (M3, (v6 + 1))))) else none
def f_X10_feed_L23 (M : Mm) (v1 : Int32) (v2 : Int32) (v3 : Int32) (v4 : Int32) (v5 : Int32) (v6 : Int32) : Option ((Mm × Int32) ⊕ Mm) :=
  if 20 ≤ v6 then (some (.inr M)) else (if 4 ≤ v6 then (if 8 ≤ v6 then (if 12 ≤ v6 then (if 16 ≤ v6 then (f_X10_feed_J23_76 M v1 v2 v3 v4 v5 v6 v5) else (f_X10_feed_J23_76 M v1 v2 v3 v4 v5 v6 v4)) else (f_X10_feed_J23_76 M v1 v2 v3 v4 v5 v6 v3)) else (f_X10_feed_J23_76 M v1 v2 v3 v4 v5 v6 v2)) else (f_X10_feed_J23_76 M v1 v2 v3 v4 v5 v6 v1))
def f_X10_feed (M : Mm) (a1 : Int32) (a2 : Int32) (a3 : Int32) (a4 : Int32) (a5 : Int32) : Option (Int32 × Mm) :=
  (some (sI M 109 0 0)).bind (fun M1 => if ((gI M1 109 8) + 20) ≤ 400 then ((loop FU (fun a_4 => f_X10_feed_L23 a_4.1 a1 a2 a3 a4 a5 a_4.2) (M1, 0)).bind (fun e_4 => some ((gI e_4 109 8), e_4))) else (some ((-1), M1)))
def rm_X10_fewest : Room := rmz 56 1271
def f_X10_fewest_L13 (M : Mm) (v1 : Int32) (v2 : Int32) : Option ((Int32 × Int32) ⊕ Int32) :=
  if ibs 4 807 = true then (if (gA M 110 4) ≤ v2 then (some (.inr v1)) else (if ibs v2 10 = true then (some (.inl ((v1 ||| (gA M 121 v2)), (v2 + 1)))) else none)) else none
def f_X10_fewest_L79 (M : Mm) (v1 : Int32) (v2 : Int32) (v3 : Int32) (v4 : Int32) (v5 : Int32) : Option ((Int32 × Int32) ⊕ Int32) :=
  if ibs 4 807 = true then (if (gA M 110 4) ≤ v5 then (some (.inr v4)) else (if (f_X10_isOf M v3 v5) = true then (if ibs v5 10 = true then (some (.inl ((v4 ||| (gA M 121 v5)), (v5 + 1)))) else none) else (some (.inl ((v4 ||| 0), (v5 + 1)))))) else none
def f_X10_fewest_J42_73 (M : Mm) (v1 : Int32) (v2 : Int32) (v3 : Int32) : Option ((Int32 × Int32) ⊕ Int32) :=
  (loop FU (fun a_4 => f_X10_fewest_L79 M v1 v2 v3 a_4.1 a_4.2) (0, 0)).bind (fun e_4 => if e_4 = v1 then (some (.inl (v3, (v3 + 1)))) else (some (.inl (v2, (v3 + 1)))))
def f_X10_fewest_L42 (M : Mm) (v1 : Int32) (v2 : Int32) (v3 : Int32) : Option ((Int32 × Int32) ⊕ Int32) :=
  if ibs 4 807 = true then (if (1 <<< ((gA M 110 4) &&& 31)) ≤ v3 then (some (.inr v2)) else (if v2 = (-1) then (f_X10_fewest_J42_73 M v1 v2 v3) else ((f_X10_bits M v3).bind (fun r5 => (f_X10_bits M v2).bind (fun r6 => if r5 < r6 then (f_X10_fewest_J42_73 M v1 v2 v3) else (some (.inl (v2, (v3 + 1))))))))) else none
def f_X10_fewest (M : Mm)  : Option (Int32 × Mm) :=
  (some (sI M 109 0 0)).bind (fun M1 => (f_X10_looks M1 ).bind (fun M2 => (loop FU (fun a_3 => f_X10_fewest_L13 M2 a_3.1 a_3.2) (0, 0)).bind (fun e_3 => (loop FU (fun a_7 => f_X10_fewest_L42 M2 e_3 a_7.1 a_7.2) ((-1), 0)).bind (fun e_7 => some (e_7, M2)))))
def rm_X10_first : Room := rmz 56 1270
def f_X10_first_L11 (M : Mm) (v1 : Int32) : Option (Int32 ⊕ ((Int32 × Mm) ⊕ Unit)) :=
  if 20 ≤ v1 then (some (.inr (.inr ()))) else ((f_X10_thingAt M v1).bind (fun r3 => if r3 = (-1) then (some (.inl (v1 + 1))) else ((f_X10_of M r3 3).bind (fun r4 => if r4 = 1 then (if ibs r3 9 = true then (if (gA M 119 r3) = 0 then (some (.inr (.inl (r3, M)))) else (some (.inl (v1 + 1)))) else none) else (some (.inl (v1 + 1)))))))
def f_X10_first (M : Mm)  : Option (Int32 × Mm) :=
  (some (sI M 109 0 0)).bind (fun M1 => (f_X10_tomorrow M1 ).bind (fun M2 => (loop FU (fun a_5 => f_X10_first_L11 M2 a_5) 0).bind (Sum.elim (fun v => some v) (fun e_5 => some ((-1), M2)))))
def rm_X10_group : Room := rmz 56 1270
def f_X10_group_J37_86 (M : Mm) (v1 : Int32) (v2 : Int32) (v4 : Int32) (t0 : Int32) (t1 : Int32) : Option ((Int32 × Int32) ⊕ Int32) :=
  some (.inl ((t1 ||| t0), (v4 + 1)))
def f_X10_group_L37 (M : Mm) (v1 : Int32) (v2 : Int32) (v3 : Int32) (v4 : Int32) : Option ((Int32 × Int32) ⊕ Int32) :=
  if ibs 4 807 = true then (if (gA M 110 4) ≤ v4 then (some (.inr v3)) else ((f_X10_ofOne M v4 2).bind (fun r3 => if r3 = v1 then (if v2 = 0 then (if ibs v4 10 = true then (if (gA M 117 v4) = (-1) then (some (.inl ((v3 ||| 0), (v4 + 1)))) else (if ibs v4 10 = true then ((some (v3 ||| (1 <<< ((gA M 117 v4) &&& 31)))).bind (fun x4 => some (.inl (x4, (v4 + 1))))) else none)) else none) else (if ibs v4 10 = true then (if (gA M 117 v4) = (-1) then (f_X10_group_J37_86 M v1 v2 v4 (1 <<< (v4 &&& 31)) v3) else (f_X10_group_J37_86 M v1 v2 v4 0 v3)) else none)) else (some (.inl (v3, (v4 + 1))))))) else none
def f_X10_group_J16 (M : Mm) (v1 : Int32) (v2 : Int32) (t0 : Int32) : Option (Int32 × Mm) :=
  (some (sI M 109 0 t0)).bind (fun M1 => if (gI M1 109 0) ≤ 0 then ((f_X10_tomorrow M1 ).bind (fun M2 => (loop FU (fun a_5 => f_X10_group_L37 M2 v1 v2 a_5.1 a_5.2) (0, 0)).bind (fun e_5 => some (e_5, M2)))) else (some (0, M1)))
def f_X10_group (M : Mm) (a1 : Int32) (a2 : Int32) : Option (Int32 × Mm) :=
  if (f_X10_isIn M a1 0 9) = true then (f_X10_group_J16 M a1 a2 0) else (f_X10_group_J16 M a1 a2 1)
def rm_X10_had : Room := rmz 56 1270
def f_X10_had (M : Mm)  : Option (Int32 × Mm) :=
  (some (sI M 109 0 0)).bind (fun M1 => (f_X10_tomorrow M1 ).bind (fun M2 => (f_X10_hadNow M2 ).bind (fun r3 => some (r3, M2))))
def rm_X10_hall : Room := rmz 53 1203
def f_X10_hall_J43 (M : Mm) (t0 : Int32) : Option (Int32 × Mm) :=
  (some (sI M 109 0 t0)).bind (fun M5 => if (gI M5 109 0) ≤ 0 then (if ibs 0 807 = true then (if ibs 0 807 = true then (some (sA M5 110 0 ((gA M5 110 0) + 1))).bind (fun M6 => (some (sI M6 109 6 0)).bind (fun M7 => if ibs 0 807 = true then (some ((gA M7 110 0), M7)) else none)) else none) else none) else ((f_X10_comesBack M5 ).bind (fun M8 => some (0, M8))))
def f_X10_hall (M : Mm)  : Option (Int32 × Mm) :=
  (f_X10_putsAside M ).bind (fun M1 => (f_X10_begins M1 ).bind (fun M2 => (f_X10_read M2 0).bind (fun rr4 => if (gI rr4.2 109 12) = (-1) then (if ibs 0 807 = true then (if (gA rr4.2 110 0) = 12 then (f_X10_hall_J43 rr4.2 2) else (f_X10_hall_J43 rr4.2 0)) else none) else (f_X10_hall_J43 rr4.2 1))))
def rm_X10_hold : Room := rmz 2 43
def f_X10_hold_J28 (M : Mm) (v1 : Int32) (v2 : Int32) (t0 : Int32) : Option (Int32 × Mm) :=
  (some (sI M 109 0 t0)).bind (fun M2 => if (gI M2 109 0) ≤ 0 then ((f_X10_remembers M2 ).bind (fun M3 => (f_X10_of M3 v1 1).bind (fun r4 => if ibs ((12 + (5 * v1)) + 1) 807 = true then (some (sA M3 110 ((12 + (5 * v1)) + 1) v2)).bind (fun M5 => some (r4, M5)) else none))) else (some (0, M2)))
def f_X10_hold (M : Mm) (a1 : Int32) (a2 : Int32) : Option (Int32 × Mm) :=
  (f_X10_isThing M a1).bind (fun r1 => if r1 = true then (if (f_X10_isIn M a2 0 99) = true then (f_X10_hold_J28 M a1 a2 0) else (f_X10_hold_J28 M a1 a2 2)) else (f_X10_hold_J28 M a1 a2 1))
def rm_X10_image : Room := rmz 0 0
def f_X10_image_L7 (M : Mm) (v1 : Int32) : Option ((Mm × Int32) ⊕ Mm) :=
  if 807 ≤ v1 then (some (.inr M)) else (if ibs v1 807 = true then (if ibs v1 807 = true then (some (sA M 111 v1 (gA M 110 v1))).bind (fun M2 => some (.inl (M2, (v1 + 1)))) else none) else none)
def f_X10_image (M : Mm)  : Option (Mm) :=
  (some (sI M 109 0 0)).bind (fun M1 => (loop FU (fun a_3 => f_X10_image_L7 a_3.1 a_3.2) (M1, 0)).bind (fun e_3 => (some (sI e_3 109 3 1)).bind (fun M4 => some M4)))
def rm_X10_last : Room := rmz 56 1274
def f_X10_last_L38 (M : Mm) (v1 : Int32) (v2 : Int32) (v3 : Int32) (v4 : Int32) (v5 : Int32) : Option ((Mm × Int32 × Int32 × Int32) ⊕ (Mm × Int32 × Int32)) :=
  if 30 < v5 then (some (.inr (M, v3, v4))) else ((f_X10_goesBy M 0).bind (fun rr5 => if ibs v1 10 = true then (if (gA rr5.2 117 v1) = (-1) then (some (.inl (rr5.2, v3, (v4 + 1), (v5 + 1)))) else (if v3 = (-1) then (some (.inl (rr5.2, v5, v4, (v5 + 1)))) else (some (.inl (rr5.2, v3, v4, (v5 + 1)))))) else none))
def f_X10_last_J14 (M : Mm) (v1 : Int32) (v2 : Int32) (t0 : Int32) : Option (Int32 × Mm) :=
  (some (sI M 109 0 t0)).bind (fun M2 => if (gI M2 109 0) ≤ 0 then ((f_X10_putsAside M2 ).bind (fun M3 => (loop FU (fun a_6 => f_X10_last_L38 a_6.1 v1 v2 a_6.2.1 a_6.2.2.1 a_6.2.2.2) (M3, (-1), 0, 1)).bind (fun e_6 => (f_X10_comesBack e_6.1 ).bind (fun M7 => if v2 = 0 then (some (e_6.2.1, M7)) else (some (e_6.2.2, M7)))))) else (some (0, M2)))
def f_X10_last (M : Mm) (a1 : Int32) (a2 : Int32) : Option (Int32 × Mm) :=
  (f_X10_isVisitor M a1).bind (fun r1 => if r1 = true then (f_X10_last_J14 M a1 a2 0) else (f_X10_last_J14 M a1 a2 1))
def rm_X10_law : Room := rmz 53 1203
def f_X10_law_L55 (M : Mm) (v1 : Int32) (v2 : Int32) : Option ((Mm × Int32) ⊕ Mm) :=
  if (gI M 109 10) ≤ v2 then (some (.inr M)) else (if ibs v2 400 = true then (if ibs (407 + v2) 807 = true then (some (sA M 110 (407 + v2) (gA M 114 v2))).bind (fun M7 => some (.inl (M7, (v2 + 1)))) else none) else none)
def f_X10_law_J24 (M : Mm) (v1 : Int32) (t0 : Int32) : Option (Int32 × Mm) :=
  (some (sI M 109 0 t0)).bind (fun M4 => if (gI M4 109 0) ≤ 0 then (if ibs 1 807 = true then (some (sA M4 110 1 v1)).bind (fun M5 => if ibs 2 807 = true then (some (sA M5 110 2 (gI M5 109 10))).bind (fun M6 => (loop FU (fun a_8 => f_X10_law_L55 a_8.1 v1 a_8.2) (M6, 0)).bind (fun e_8 => (some (sI e_8 109 6 0)).bind (fun M9 => some (v1, M9)))) else none) else none) else (some (0, M4)))
def f_X10_law (M : Mm)  : Option (Int32 × Mm) :=
  (f_X10_begins M ).bind (fun M1 => (f_X10_read M1 1).bind (fun rr3 => if (gI rr3.2 109 12) = (-1) then (f_X10_law_J24 rr3.2 rr3.1 0) else (f_X10_law_J24 rr3.2 rr3.1 1)))
def rm_X10_logged : Room := rmz 0 0
def f_X10_logged (M : Mm) (a1 : Int32) (a2 : Int32) : Option (Int32) :=
  if ibs ((107 + (5 * a1)) + a2) 807 = true then (some (gA M 110 ((107 + (5 * a1)) + a2))) else none
def rm_X10_rowsOf : Room := rmz 1 22
def f_X10_rowsOf_J5_49 (M : Mm) (v1 : Int32) (v2 : Int32) (v4 : Int32) (t0 : Int32) : Option ((Int32 × Int32) ⊕ Int32) :=
  some (.inl ((t0 + 0), (v4 + 1)))
def f_X10_rowsOf_J5_45 (M : Mm) (v1 : Int32) (v2 : Int32) (v4 : Int32) (t0 : Int32) : Option ((Int32 × Int32) ⊕ Int32) :=
  some (.inl ((t0 + 1), (v4 + 1)))
def f_X10_rowsOf_L5 (M : Mm) (v1 : Int32) (v2 : Int32) (v3 : Int32) (v4 : Int32) : Option ((Int32 × Int32) ⊕ Int32) :=
  if ibs 8 807 = true then (if (gA M 110 8) ≤ v4 then (some (.inr v3)) else ((f_X10_logged M v4 2).bind (fun r1 => if r1 = v1 then (if v2 = (-1) then (f_X10_rowsOf_J5_45 M v1 v2 v4 v3) else ((f_X10_logged M v4 1).bind (fun r2 => if r2 = v2 then (f_X10_rowsOf_J5_45 M v1 v2 v4 v3) else (f_X10_rowsOf_J5_49 M v1 v2 v4 v3)))) else (f_X10_rowsOf_J5_49 M v1 v2 v4 v3)))) else none
def f_X10_rowsOf (M : Mm) (a1 : Int32) (a2 : Int32) : Option (Int32) :=
  (loop FU (fun a_3 => f_X10_rowsOf_L5 M a1 a2 a_3.1 a_3.2) (0, 0)).bind (fun e_3 => some e_3)
def rm_X10_led : Room := rmz 2 46
def f_X10_led_J42_75 (M : Mm) (v1 : Int32) (v3 : Int32) (v4 : Int32) (t0 : Int32) (t1 : Int32) : Option ((Int32 × Int32) ⊕ Int32) :=
  if t1 ≤ t0 then (some (.inl (v3, (v4 + 1)))) else (some (.inl (v4, (v4 + 1))))
def f_X10_led_L42 (M : Mm) (v1 : Int32) (v3 : Int32) (v4 : Int32) : Option ((Int32 × Int32) ⊕ Int32) :=
  if ibs 4 807 = true then (if (gA M 110 4) ≤ v4 then (some (.inr v3)) else ((f_X10_rowsOf M v1 v4).bind (fun r3 => if v3 = (-1) then (f_X10_led_J42_75 M v1 v3 v4 0 r3) else ((f_X10_rowsOf M v1 v3).bind (fun r4 => f_X10_led_J42_75 M v1 v3 v4 r4 r3))))) else none
def f_X10_led_J14 (M : Mm) (v1 : Int32) (v2 : Int32) (t0 : Int32) : Option (Int32 × Mm) :=
  (some (sI M 109 0 t0)).bind (fun M2 => if (gI M2 109 0) ≤ 0 then (if v2 = 0 then ((f_X10_rowsOf M2 v1 (-1)).bind (fun r6 => some (r6, M2))) else ((loop FU (fun a_5 => f_X10_led_L42 M2 v1 a_5.1 a_5.2) ((-1), 0)).bind (fun e_5 => some (e_5, M2)))) else (some (0, M2)))
def f_X10_led (M : Mm) (a1 : Int32) (a2 : Int32) : Option (Int32 × Mm) :=
  (f_X10_isThing M a1).bind (fun r1 => if r1 = true then (f_X10_led_J14 M a1 a2 0) else (f_X10_led_J14 M a1 a2 1))
def rm_X10_liking : Room := rmz 54 1228
def f_X10_liking_J22 (M : Mm) (v1 : Int32) (v2 : Int32) (t0 : Int32) : Option (Int32 × Mm) :=
  (some (sI M 109 0 t0)).bind (fun M2 => if (gI M2 109 0) ≤ 0 then ((f_X10_ofOne M2 v2 4).bind (fun r3 => (f_X10_likesOne M2 v1 v2 r3).bind (fun rr5 => some (rr5.1, rr5.2)))) else (some (0, M2)))
def f_X10_liking_J17 (M : Mm) (v1 : Int32) (v2 : Int32) : Option (Int32 × Mm) :=
  f_X10_liking_J22 M v1 v2 1
def f_X10_liking (M : Mm) (a1 : Int32) (a2 : Int32) : Option (Int32 × Mm) :=
  (f_X10_isThing M a1).bind (fun r1 => if r1 = true then ((f_X10_isVisitor M a2).bind (fun r6 => if r6 = true then (f_X10_liking_J22 M a1 a2 0) else (f_X10_liking_J17 M a1 a2))) else (f_X10_liking_J17 M a1 a2))
def rm_X10_log : Room := rmz 1 22
def f_X10_log_J15 (M : Mm) (v1 : Int32) (v2 : Int32) (t0 : Int32) : Option (Int32 × Mm) :=
  (some (sI M 109 0 t0)).bind (fun M1 => if (gI M1 109 0) ≤ 0 then (if ibs 8 807 = true then (if (f_X10_isIn M1 v1 0 ((gA M1 110 8) - 1)) = true then ((f_X10_logged M1 v1 v2).bind (fun r2 => some (r2, M1))) else (some ((-1), M1))) else none) else (some (0, M1)))
def f_X10_log (M : Mm) (a1 : Int32) (a2 : Int32) : Option (Int32 × Mm) :=
  if (f_X10_isIn M a2 0 4) = true then (f_X10_log_J15 M a1 a2 0) else (f_X10_log_J15 M a1 a2 1)
def rm_X10_mark : Room := rmz 2 43
def f_X10_mark_J80 (M : Mm) (v1 : Int32) (v4 : Int32) (t0 : Int32) (t1 : Int32) : Option (Bool × Mm) :=
  if ibs t1 807 = true then (some (sA M 110 t1 t0)).bind (fun M5 => (f_X10_ofOne M5 v1 4).bind (fun r6 => if v4 = r6 then (some (false, M5)) else (some (true, M5)))) else none
def f_X10_mark_J23 (M : Mm) (v1 : Int32) (v2 : Int32) (v3 : Int32) (t0 : Int32) : Option (Bool × Mm) :=
  (some (sI M 109 0 t0)).bind (fun M2 => if (gI M2 109 0) ≤ 0 then ((f_X10_remembers M2 ).bind (fun M3 => (f_X10_ofOne M3 v1 4).bind (fun r4 => if v3 = 0 then (f_X10_mark_J80 M3 v1 r4 (r4 &&& ((1 <<< (v2 &&& 31)) ^^^ (-1))) ((57 + (5 * v1)) + 4)) else (f_X10_mark_J80 M3 v1 r4 (r4 ||| (1 <<< (v2 &&& 31))) ((57 + (5 * v1)) + 4))))) else (some (false, M2)))
def f_X10_mark_J18 (M : Mm) (v1 : Int32) (v2 : Int32) (v3 : Int32) : Option (Bool × Mm) :=
  f_X10_mark_J23 M v1 v2 v3 1
def f_X10_mark (M : Mm) (a1 : Int32) (a2 : Int32) (a3 : Int32) : Option (Bool × Mm) :=
  (f_X10_isVisitor M a1).bind (fun r1 => if r1 = true then (if (f_X10_isIn M a2 0 5) = true then (f_X10_mark_J23 M a1 a2 a3 0) else (f_X10_mark_J18 M a1 a2 a3)) else (f_X10_mark_J18 M a1 a2 a3))
def rm_X10_most : Room := rmz 56 1271
def f_X10_most_L13 (M : Mm) (v1 : Int32) (v2 : Int32) : Option ((Mm × Int32 × Int32) ⊕ (Mm × Int32)) :=
  if ibs 4 807 = true then (if (1 <<< ((gA M 110 4) &&& 31)) ≤ v2 then (some (.inr (M, v1))) else ((f_X10_bits M v2).bind (fun r3 => (f_X10_bits M v1).bind (fun r4 => if r3 ≤ r4 then (some (.inl (M, v1, (v2 + 1)))) else ((f_X10_areHad M v2).bind (fun rr6 => if rr6.1 = true then (some (.inl (rr6.2, v2, (v2 + 1)))) else (some (.inl (rr6.2, v1, (v2 + 1)))))))))) else none
def f_X10_most (M : Mm)  : Option (Int32 × Mm) :=
  (some (sI M 109 0 0)).bind (fun M1 => (f_X10_looks M1 ).bind (fun M2 => (loop FU (fun a_7 => f_X10_most_L13 a_7.1 a_7.2.1 a_7.2.2) (M2, 0, 0)).bind (fun e_7 => some (e_7.2, e_7.1))))
def rm_X10_move : Room := rmz 2 44
def f_X10_move_J77 (M : Mm) (v1 : Int32) (v2 : Int32) (v3 : Int32) : Option (Int32 × Mm) :=
  if ibs ((12 + (5 * v1)) + 0) 807 = true then (some (sA M 110 ((12 + (5 * v1)) + 0) v2)).bind (fun M5 => some (v3, M5)) else none
def f_X10_move_J24 (M : Mm) (v1 : Int32) (v2 : Int32) (t0 : Int32) : Option (Int32 × Mm) :=
  (some (sI M 109 0 t0)).bind (fun M2 => if (gI M2 109 0) ≤ 0 then ((f_X10_remembers M2 ).bind (fun M3 => (f_X10_thingAt M3 v2).bind (fun r4 => if r4 = v1 then (some ((-1), M3)) else (if r4 = (-1) then (f_X10_move_J77 M3 v1 v2 r4) else ((f_X10_of M3 v1 0).bind (fun r6 => if ibs ((12 + (5 * r4)) + 0) 807 = true then (some (sA M3 110 ((12 + (5 * r4)) + 0) r6)).bind (fun M7 => f_X10_move_J77 M7 v1 v2 r4) else none)))))) else (some (0, M2)))
def f_X10_move_J19 (M : Mm) (v1 : Int32) (v2 : Int32) : Option (Int32 × Mm) :=
  f_X10_move_J24 M v1 v2 1
def f_X10_move (M : Mm) (a1 : Int32) (a2 : Int32) : Option (Int32 × Mm) :=
  (f_X10_isThing M a1).bind (fun r1 => if r1 = true then (if (f_X10_isIn M a2 0 19) = true then (f_X10_move_J24 M a1 a2 0) else (f_X10_move_J19 M a1 a2)) else (f_X10_move_J19 M a1 a2))
def rm_X10_right : Room := rmz 55 1250
def f_X10_right_L79 (M : Mm) (v1 : Int32) (v2 : Int32) (v3 : Int32) (v4 : Int32) (v5 : Int32) (v6 : Int32) (v7 : Int32) (v8 : Int32) : Option ((Int32 × Int32) ⊕ Int32) :=
  if ibs 4 807 = true then (if (gA M 110 4) ≤ v8 then (some (.inr v7)) else (if ibs v8 10 = true then (if (gA M 117 v8) = v1 then (if ibs ((10 * v1) + v8) 90 = true then ((some (v7 + (gA M 116 ((10 * v1) + v8)))).bind (fun x7 => some (.inl (x7, (v8 + 1))))) else none) else (some (.inl ((v7 + 0), (v8 + 1))))) else none)) else none
def f_X10_right_L46 (M : Mm) (v1 : Int32) (v2 : Int32) (v3 : Int32) (v4 : Int32) (v5 : Int32) (v6 : Int32) : Option ((Mm × Int32 × Int32 × Int32) ⊕ (Mm × Int32 × Int32)) :=
  if 99 < v6 then (some (.inr (M, v4, v5))) else (if ibs ((12 + (5 * v1)) + 1) 807 = true then (some (sA M 110 ((12 + (5 * v1)) + 1) v6)).bind (fun M5 => (f_X10_leads M5 0).bind (fun M6 => (loop FU (fun a_8 => f_X10_right_L79 M6 v1 v2 v3 v4 v5 v6 a_8.1 a_8.2) (0, 0)).bind (fun e_8 => if v5 < e_8 then (some (.inl (M6, v6, e_8, (v6 + 1)))) else (some (.inl (M6, v4, v5, (v6 + 1))))))) else none)
def f_X10_right_J14 (M : Mm) (v1 : Int32) (v2 : Int32) (t0 : Int32) : Option (Int32 × Mm) :=
  (some (sI M 109 0 t0)).bind (fun M2 => if (gI M2 109 0) ≤ 0 then ((f_X10_of M2 v1 1).bind (fun r3 => (f_X10_asks M2 ).bind (fun M4 => (loop FU (fun a_9 => f_X10_right_L46 a_9.1 v1 v2 r3 a_9.2.1 a_9.2.2.1 a_9.2.2.2) (M4, 0, (-1), 0)).bind (fun e_9 => if ibs ((12 + (5 * v1)) + 1) 807 = true then (some (sA e_9.1 110 ((12 + (5 * v1)) + 1) r3)).bind (fun M10 => if v2 = 0 then (some (e_9.2.1, M10)) else (some (e_9.2.2, M10))) else none)))) else (some (0, M2)))
def f_X10_right (M : Mm) (a1 : Int32) (a2 : Int32) : Option (Int32 × Mm) :=
  (f_X10_isThing M a1).bind (fun r1 => if r1 = true then (f_X10_right_J14 M a1 a2 0) else (f_X10_right_J14 M a1 a2 1))
def rm_X10_rivals : Room := rmz 55 1250
def f_X10_rivals_J31 (M : Mm) (v1 : Int32) (v2 : Int32) (t0 : Int32) : Option (Int32 × Mm) :=
  (some (sI M 109 0 t0)).bind (fun M2 => if (gI M2 109 0) ≤ 0 then ((f_X10_asks M2 ).bind (fun M3 => (f_X10_ringsFor M3 v1).bind (fun r4 => (f_X10_ringsFor M3 v2).bind (fun r5 => some ((r4 &&& r5), M3))))) else (some (0, M2)))
def f_X10_rivals_J17 (M : Mm) (v1 : Int32) (v2 : Int32) : Option (Int32 × Mm) :=
  f_X10_rivals_J31 M v1 v2 1
def f_X10_rivals (M : Mm) (a1 : Int32) (a2 : Int32) : Option (Int32 × Mm) :=
  (f_X10_isThing M a1).bind (fun r1 => if r1 = true then ((f_X10_isThing M a2).bind (fun r6 => if r6 = true then (if a1 = a2 then (f_X10_rivals_J31 M a1 a2 2) else (f_X10_rivals_J31 M a1 a2 0)) else (f_X10_rivals_J17 M a1 a2))) else (f_X10_rivals_J17 M a1 a2))
def rm_X10_seed : Room := rmz 0 0
def f_X10_seed (M : Mm) (a1 : Int32) : Option (Int32 × Mm) :=
  (some (sI M 109 0 0)).bind (fun M1 => if ibs 9 807 = true then (if ibs 9 807 = true then (some (sA M1 110 9 a1)).bind (fun M2 => some ((gA M1 110 9), M2)) else none) else none)
def rm_X10_wanted : Room := rmz 1 22
def f_X10_wanted_J30_61 (M : Mm) (v1 : Int32) (v3 : Int32) (t0 : Int32) (t1 : Int32) : Option ((Int32 × Int32) ⊕ Int32) :=
  if t0 ≤ t1 then (some (.inl (0, (v3 + 1)))) else (some (.inl (1, (v3 + 1))))
def f_X10_wanted_L30 (M : Mm) (v1 : Int32) (v2 : Int32) (v3 : Int32) : Option ((Int32 × Int32) ⊕ Int32) :=
  if v1 ≤ v3 then (some (.inr v2)) else (if v2 = 0 then (some (.inr v2)) else (if ibs v3 400 = true then (if (v3 - v3 / 2 * 2) = 0 then (if ibs 4 807 = true then (f_X10_wanted_J30_61 M v1 v3 (gA M 110 4) (gA M 114 v3)) else none) else (f_X10_wanted_J30_61 M v1 v3 2 (gA M 114 v3))) else none))
def f_X10_wanted_J105_178 (M : Mm) (v1 : Int32) (v3 : Int32) (v4 : Int32) (v5 : Int32) (t0 : Int32) (t1 : Int32) : Option ((Mm × Int32) ⊕ Mm) :=
  if ibs t1 64 = true then (some (sA M 125 t1 (vp_nar .boolean t0))).bind (fun M5 => some (.inl (M5, (v5 + 2)))) else none
def f_X10_wanted_J105_170 (M : Mm) (v1 : Int32) (v3 : Int32) (v4 : Int32) (v5 : Int32) (t0 : Int32) (t1 : Int32) (t2 : Int32) : Option ((Mm × Int32) ⊕ Mm) :=
  if t1 = t0 then (f_X10_wanted_J105_178 M v1 v3 v4 v5 1 t2) else (f_X10_wanted_J105_178 M v1 v3 v4 v5 0 t2)
def f_X10_wanted_J105_152 (M : Mm) (v1 : Int32) (v3 : Int32) (v4 : Int32) (v5 : Int32) (t0 : Int32) (t1 : Int32) : Option ((Mm × Int32) ⊕ Mm) :=
  if ibs (v5 + 1) 400 = true then (if (gA M 114 (v5 + 1)) = 1 then (f_X10_wanted_J105_170 M v1 v3 v4 v5 1 t0 t1) else (f_X10_wanted_J105_170 M v1 v3 v4 v5 0 t0 t1)) else none
def f_X10_wanted_L105 (M : Mm) (v1 : Int32) (v3 : Int32) (v4 : Int32) (v5 : Int32) : Option ((Mm × Int32) ⊕ Mm) :=
  if v1 ≤ v5 then (some (.inr M)) else (if ibs v4 64 = true then (if (gA M 125 v4) = 0 then (some (.inr M)) else (if ibs v5 400 = true then ((f_X10_ofOne M (gA M 114 v5) 4).bind (fun r4 => if (v4 &&& (r4 ^^^ (-1))) = 0 then (f_X10_wanted_J105_152 M v1 v3 v4 v5 1 v4) else (f_X10_wanted_J105_152 M v1 v3 v4 v5 0 v4))) else none)) else none)
def f_X10_wanted_L87 (M : Mm) (v1 : Int32) (v3 : Int32) (v4 : Int32) : Option ((Mm × Int32 × Int32) ⊕ (Mm × Int32)) :=
  if 64 ≤ v4 then (some (.inr (M, v3))) else (if ibs v4 64 = true then (some (sA M 125 v4 (vp_nar .boolean 1))).bind (fun M3 => (loop FU (fun a_6 => f_X10_wanted_L105 a_6.1 v1 v3 v4 a_6.2) (M3, 0)).bind (fun e_6 => if ibs v4 64 = true then (if (gA e_6 125 v4) = 0 then (some (.inl (e_6, (v3 + 0), (v4 + 1)))) else (some (.inl (e_6, (v3 + 1), (v4 + 1))))) else none)) else none)
def f_X10_wanted_J27 (M : Mm) (v1 : Int32) (t0 : Int32) : Option (Int32 × Mm) :=
  (loop FU (fun a_2 => f_X10_wanted_L30 M v1 a_2.1 a_2.2) (t0, 0)).bind (fun e_2 => if e_2 = 0 then (some ((-1), M)) else ((loop FU (fun a_7 => f_X10_wanted_L87 a_7.1 v1 a_7.2.1 a_7.2.2) (M, 0, 0)).bind (fun e_7 => some (e_7.2, e_7.1))))
def f_X10_wanted_J26 (M : Mm) (v1 : Int32) : Option (Int32 × Mm) :=
  f_X10_wanted_J27 M v1 0
def f_X10_wanted (M : Mm)  : Option (Int32 × Mm) :=
  (some (sI M 109 8 0)).bind (fun M1 => if ((gI M 109 8) - (gI M 109 8) / 2 * 2) = 0 then (if 40 < (gI M 109 8) then (f_X10_wanted_J26 M1 (gI M 109 8)) else (f_X10_wanted_J27 M1 (gI M 109 8) 1)) else (f_X10_wanted_J26 M1 (gI M 109 8)))
def rm_X10_send : Room := rmz 2 47
def f_X10_send_J59_97 (M : Mm) (v1 : Int32) (v2 : Int32) (v3 : Int32) (v4 : Int32) (v6 : Int32) (t0 : Int32) : Option ((Int32 × Int32) ⊕ Int32) :=
  some (.inl ((t0 + 0), (v6 + 1)))
def f_X10_send_L59 (M : Mm) (v1 : Int32) (v2 : Int32) (v3 : Int32) (v4 : Int32) (v5 : Int32) (v6 : Int32) : Option ((Int32 × Int32) ⊕ Int32) :=
  if 64 ≤ v6 then (some (.inr v5)) else (if ibs v6 64 = true then (if (gA M 125 v6) = 0 then (f_X10_send_J59_97 M v1 v2 v3 v4 v6 v5) else ((f_X10_ofOne M v4 4).bind (fun r4 => if (v6 &&& (r4 ^^^ (-1))) = 0 then (some (.inl ((v5 + 1), (v6 + 1)))) else (f_X10_send_J59_97 M v1 v2 v3 v4 v6 v5)))) else none)
def f_X10_send_L37 (M : Mm) (v1 : Int32) (v2 : Int32) (v3 : Int32) (v4 : Int32) : Option ((Int32 × Int32 × Int32) ⊕ Int32) :=
  if ibs 4 807 = true then (if (gA M 110 4) ≤ v4 then (some (.inr v2)) else (if v1 ≤ 1 then (some (.inr v2)) else ((loop FU (fun a_5 => f_X10_send_L59 M v1 v2 v3 v4 a_5.1 a_5.2) (0, 0)).bind (fun e_5 => if (f_X10_greater M e_5 (v1 - e_5)) < v3 then ((some (f_X10_greater M e_5 (v1 - e_5))).bind (fun x6 => some (.inl (v4, x6, (v4 + 1))))) else (some (.inl (v2, v3, (v4 + 1)))))))) else none
def f_X10_send_J16 (M : Mm) (v1 : Int32) (t0 : Int32) : Option (Int32 × Mm) :=
  (some (sI M 109 0 t0)).bind (fun M3 => if (gI M3 109 0) ≤ 0 then ((loop FU (fun a_7 => f_X10_send_L37 M3 v1 a_7.1 a_7.2.1 a_7.2.2) ((-1), 2000000000, 0)).bind (fun e_7 => some (e_7, M3))) else (some (0, M3)))
def f_X10_send (M : Mm)  : Option (Int32 × Mm) :=
  (f_X10_wanted M ).bind (fun rr2 => if rr2.1 = (-1) then (f_X10_send_J16 rr2.2 rr2.1 1) else (f_X10_send_J16 rr2.2 rr2.1 0))
def rm_X10_show : Room := rmz 2 43
def f_X10_show_J67 (M : Mm) (v2 : Int32) (v3 : Int32) (t0 : Int32) (t1 : Int32) : Option (Bool × Mm) :=
  if ibs t1 807 = true then (some (sA M 110 t1 t0)).bind (fun M5 => if v3 = v2 then (some (false, M5)) else (some (true, M5))) else none
def f_X10_show_J45 (M : Mm) (v1 : Int32) (v2 : Int32) (t0 : Int32) : Option (Bool × Mm) :=
  if v2 = 0 then (f_X10_show_J67 M v2 t0 0 ((12 + (5 * v1)) + 3)) else (f_X10_show_J67 M v2 t0 1 ((12 + (5 * v1)) + 3))
def f_X10_show_J14 (M : Mm) (v1 : Int32) (v2 : Int32) (t0 : Int32) : Option (Bool × Mm) :=
  (some (sI M 109 0 t0)).bind (fun M2 => if (gI M2 109 0) ≤ 0 then ((f_X10_remembers M2 ).bind (fun M3 => (f_X10_of M3 v1 3).bind (fun r4 => if r4 = 1 then (f_X10_show_J45 M3 v1 v2 1) else (f_X10_show_J45 M3 v1 v2 0)))) else (some (false, M2)))
def f_X10_show (M : Mm) (a1 : Int32) (a2 : Int32) : Option (Bool × Mm) :=
  (f_X10_isThing M a1).bind (fun r1 => if r1 = true then (f_X10_show_J14 M a1 a2 0) else (f_X10_show_J14 M a1 a2 1))
def rm_X10_span : Room := rmz 57 1297
def f_X10_span_L37 (M : Mm) (v1 : Int32) (v2 : Int32) (v3 : Int32) (v4 : Int32) : Option ((Mm × Int32 × Int32) ⊕ (Mm × Int32)) :=
  if 6 < v4 then (some (.inr (M, v3))) else (if ibs 9 807 = true then (some (sA M 110 9 v4)).bind (fun M3 => (f_X10_goes M3 v1).bind (fun rr5 => (f_X10_comesBack rr5.2 ).bind (fun M6 => if v3 = (-1) then (some (.inl (M6, rr5.1, (v4 + 1)))) else (if v2 = 0 then ((some (f_X10_lesser M6 v3 rr5.1)).bind (fun x7 => some (.inl (M6, x7, (v4 + 1))))) else ((some (f_X10_greater M6 v3 rr5.1)).bind (fun x8 => some (.inl (M6, x8, (v4 + 1))))))))) else none)
def f_X10_span_J16 (M : Mm) (v1 : Int32) (v2 : Int32) (t0 : Int32) : Option (Int32 × Mm) :=
  (some (sI M 109 0 t0)).bind (fun M1 => if (gI M1 109 0) ≤ 0 then ((f_X10_putsAside M1 ).bind (fun M2 => (loop FU (fun a_9 => f_X10_span_L37 a_9.1 v1 v2 a_9.2.1 a_9.2.2) (M2, (-1), 1)).bind (fun e_9 => some (e_9.2, e_9.1)))) else (some (0, M1)))
def f_X10_span (M : Mm) (a1 : Int32) (a2 : Int32) : Option (Int32 × Mm) :=
  if (f_X10_isIn M a1 0 30) = true then (f_X10_span_J16 M a1 a2 0) else (f_X10_span_J16 M a1 a2 1)
def rm_X10_steps : Room := rmz 1 22
def f_X10_steps_J21 (M : Mm) (v1 : Int32) (t0 : Int32) : Option (Int32 × Mm) :=
  (some (sI M 109 0 t0)).bind (fun M1 => if (gI M1 109 0) ≤ 0 then (if v1 = (-1) then (if ibs 5 807 = true then (if ibs 5 807 = true then (if ¬ (gA M1 110 5) = 0 then some ((((20 + (gA M1 110 5)) - 1) / (gA M1 110 5)), M1) else none) else none) else none) else (if ibs 5 807 = true then (if ¬ (gA M1 110 5) = 0 then some ((v1 / (gA M1 110 5)), M1) else none) else none)) else (some (0, M1)))
def f_X10_steps_J20 (M : Mm) (v1 : Int32) : Option (Int32 × Mm) :=
  f_X10_steps_J21 M v1 0
def f_X10_steps (M : Mm) (a1 : Int32) : Option (Int32 × Mm) :=
  if a1 = (-1) then (f_X10_steps_J20 M a1) else (if (f_X10_isIn M a1 0 19) = true then (f_X10_steps_J20 M a1) else (f_X10_steps_J21 M a1 1))
def rm_X10_thing : Room := rmz 56 1270
def f_X10_thing_J28 (M : Mm) (v1 : Int32) (v2 : Int32) (t0 : Int32) : Option (Int32 × Mm) :=
  (some (sI M 109 0 t0)).bind (fun M2 => if (gI M2 109 0) ≤ 0 then (if 5 ≤ v2 then ((f_X10_tomorrow M2 ).bind (fun M3 => if v2 = 5 then ((f_X10_ringsFor M3 v1).bind (fun r6 => some (r6, M3))) else (if v2 = 6 then ((f_X10_hadBy M3 v1).bind (fun r5 => some (r5, M3))) else ((f_X10_envy M3 v1).bind (fun r4 => some (r4, M3)))))) else ((f_X10_of M2 v1 v2).bind (fun r7 => some (r7, M2)))) else (some (0, M2)))
def f_X10_thing (M : Mm) (a1 : Int32) (a2 : Int32) : Option (Int32 × Mm) :=
  (f_X10_isThing M a1).bind (fun r1 => if r1 = true then (if (f_X10_isIn M a2 0 7) = true then (f_X10_thing_J28 M a1 a2 0) else (f_X10_thing_J28 M a1 a2 2)) else (f_X10_thing_J28 M a1 a2 1))
def rm_X10_thrown : Room := rmz 0 0
def f_X10_thrown (M : Mm)  : Int32 :=
  (gI M 109 0)
def rm_X10_trade : Room := rmz 2 43
def f_X10_trade_L48 (M : Mm) (v1 : Int32) (v2 : Int32) (v3 : Int32) : Option ((Mm × Int32) ⊕ Mm) :=
  if 5 ≤ v3 then (some (.inr M)) else ((f_X10_ofOne M v1 v3).bind (fun r4 => (f_X10_ofOne M v2 v3).bind (fun r5 => if ibs ((57 + (5 * v1)) + v3) 807 = true then (some (sA M 110 ((57 + (5 * v1)) + v3) r5)).bind (fun M6 => if ibs ((57 + (5 * v2)) + v3) 807 = true then (some (sA M6 110 ((57 + (5 * v2)) + v3) r4)).bind (fun M7 => some (.inl (M7, (v3 + 1)))) else none) else none)))
def f_X10_trade_J31 (M : Mm) (v1 : Int32) (v2 : Int32) (t0 : Int32) : Option (Mm) :=
  (some (sI M 109 0 t0)).bind (fun M2 => if (gI M2 109 0) ≤ 0 then ((f_X10_remembers M2 ).bind (fun M3 => (loop FU (fun a_8 => f_X10_trade_L48 a_8.1 v1 v2 a_8.2) (M3, 0)).bind (fun e_8 => some e_8))) else (some M2))
def f_X10_trade_J17 (M : Mm) (v1 : Int32) (v2 : Int32) : Option (Mm) :=
  f_X10_trade_J31 M v1 v2 1
def f_X10_trade (M : Mm) (a1 : Int32) (a2 : Int32) : Option (Mm) :=
  (f_X10_isVisitor M a1).bind (fun r1 => if r1 = true then ((f_X10_isVisitor M a2).bind (fun r9 => if r9 = true then (if a1 = a2 then (f_X10_trade_J31 M a1 a2 2) else (f_X10_trade_J31 M a1 a2 0)) else (f_X10_trade_J17 M a1 a2))) else (f_X10_trade_J17 M a1 a2))
def rm_X10_trial : Room := rmz 57 1297
def f_X10_trial_J16 (M : Mm) (v1 : Int32) (t0 : Int32) : Option (Int32 × Mm) :=
  (some (sI M 109 0 t0)).bind (fun M1 => if (gI M1 109 0) ≤ 0 then ((f_X10_putsAside M1 ).bind (fun M2 => (f_X10_goes M2 v1).bind (fun rr4 => (f_X10_comesBack rr4.2 ).bind (fun M5 => some (rr4.1, M5))))) else (some (0, M1)))
def f_X10_trial (M : Mm) (a1 : Int32) : Option (Int32 × Mm) :=
  if (f_X10_isIn M a1 0 30) = true then (f_X10_trial_J16 M a1 0) else (f_X10_trial_J16 M a1 1)
def rm_X10_undo : Room := rmz 0 0
def f_X10_undo_L26 (M : Mm) (v1 : Int32) : Option ((Mm × Int32) ⊕ Mm) :=
  if 407 ≤ v1 then (some (.inr M)) else (if ibs ((407 * (gI M 109 6)) + v1) 4884 = true then (if ibs v1 807 = true then (some (sA M 110 v1 (gA M 113 ((407 * (gI M 109 6)) + v1)))).bind (fun M3 => some (.inl (M3, (v1 + 1)))) else none) else none)
def f_X10_undo (M : Mm)  : Option (Bool × Mm) :=
  (some (sI M 109 0 0)).bind (fun M1 => if (gI M1 109 6) = 0 then (some (false, M1)) else ((some (sI M1 109 6 ((gI M1 109 6) - 1))).bind (fun M2 => (loop FU (fun a_4 => f_X10_undo_L26 a_4.1 a_4.2) (M2, 0)).bind (fun e_4 => some (true, e_4)))))
def rm_X10_visitor : Room := rmz 56 1270
def f_X10_visitor_J28 (M : Mm) (v1 : Int32) (v2 : Int32) (t0 : Int32) : Option (Int32 × Mm) :=
  (some (sI M 109 0 t0)).bind (fun M2 => if (gI M2 109 0) ≤ 0 then (if 5 ≤ v2 then ((f_X10_tomorrow M2 ).bind (fun M3 => if v2 = 5 then ((f_X10_ringing M3 v1).bind (fun r4 => some (r4, M3))) else (if v2 = 6 then (if ibs v1 10 = true then (some ((gA M3 117 v1), M3)) else none) else (if ibs v1 10 = true then (some ((gA M3 118 v1), M3)) else none)))) else ((f_X10_ofOne M2 v1 v2).bind (fun r5 => some (r5, M2)))) else (some (0, M2)))
def f_X10_visitor (M : Mm) (a1 : Int32) (a2 : Int32) : Option (Int32 × Mm) :=
  (f_X10_isVisitor M a1).bind (fun r1 => if r1 = true then (if (f_X10_isIn M a2 0 7) = true then (f_X10_visitor_J28 M a1 a2 0) else (f_X10_visitor_J28 M a1 a2 2)) else (f_X10_visitor_J28 M a1 a2 1))
def rm_X10_wants : Room := rmz 2 47
def f_X10_wants_L39 (M : Mm) (v3 : Int32) (v4 : Int32) : Option ((Int32 × Int32) ⊕ Int32) :=
  if 64 ≤ v4 then (some (.inr v3)) else (if ibs v4 64 = true then (if (gA M 125 v4) = 0 then (some (.inl (v3, (v4 + 1)))) else (if v3 = (-1) then (some (.inl (v4, (v4 + 1)))) else ((f_X10_bits M v4).bind (fun r4 => (f_X10_bits M v3).bind (fun r5 => if r5 ≤ r4 then (some (.inl (v3, (v4 + 1)))) else (some (.inl (v4, (v4 + 1))))))))) else none)
def f_X10_wants_J16 (M : Mm) (v1 : Int32) (v2 : Int32) (t0 : Int32) : Option (Int32 × Mm) :=
  (some (sI M 109 0 t0)).bind (fun M3 => if (gI M3 109 0) ≤ 0 then (if v1 = 0 then (some (v2, M3)) else ((loop FU (fun a_6 => f_X10_wants_L39 M3 a_6.1 a_6.2) ((-1), 0)).bind (fun e_6 => some (e_6, M3)))) else (some (0, M3)))
def f_X10_wants (M : Mm) (a1 : Int32) : Option (Int32 × Mm) :=
  (f_X10_wanted M ).bind (fun rr2 => if rr2.1 = (-1) then (f_X10_wants_J16 rr2.2 a1 rr2.1 1) else (f_X10_wants_J16 rr2.2 a1 rr2.1 0))
def rm_X7_next : Room := rmz 0 0
def f_X7_next_J23 (M : Mm) (v0 : Nat) : Option (Mm) :=
  if (gI M v0 4) < 0 then (some M) else (if 401 ≤ (gI M v0 4) then (some M) else (if ibs (gI M v0 4) 401 = true then (if (gE M (v0 + 1) (gI M v0 4)) = 0 then (some M) else (if ibs (gI M v0 4) 401 = true then ((some (sR M v0 5 (gE M (v0 + 1) (gI M v0 4)))).bind (fun M1 => if ibs (gI M1 v0 4) 401 = true then ((some (sI M1 v0 6 (gA M1 (v0 + 2) (gI M1 v0 4)))).bind (fun M2 => if ibs (gI M2 v0 4) 401 = true then ((some (sI M2 v0 7 (gA M2 (v0 + 3) (gI M2 v0 4)))).bind (fun M3 => some M3)) else none)) else none)) else none)) else none))
def f_X7_next (M : Mm) (a0 : Nat) : Option (Mm) :=
  if ((gI M a0 3) - 1) ≤ (gI M a0 4) then (f_X7_next_J23 M a0) else ((some (sI M a0 4 ((gI M a0 4) + 1))).bind (fun M4 => f_X7_next_J23 M4 a0))
def rm_X7_skip : Room := rmz 1 20
def f_X7_skip_J13 (M : Mm) (v0 : Nat) (t0 : Int32) : Option (Bool × Mm) :=
  if t0 = 0 then (if t0 = 0 then some (false, M) else if t0 = 1 then some (true, M) else none) else ((f_X7_next M v0).bind (fun M2 => if t0 = 0 then some (false, M2) else if t0 = 1 then some (true, M2) else none))
def f_X7_skip (M : Mm) (a0 : Nat) (a1 : Nat) : Option (Bool × Mm) :=
  (some (gR M a0 5)).bind (fun q1 => if isW q1 = true then (if q1 = a1 then (f_X7_skip_J13 M a0 1) else (f_X7_skip_J13 M a0 0)) else none)
def rm_X7_refuse : Room := rmz 0 0
def f_X7_refuse (M : Mm) (a0 : Nat) : Bool × Mm :=
  (false, (sI M a0 8 (gI M a0 6)))
def rm_X7_numberWithin : Room := rmz 0 0
def f_X7_numberWithin (M : Mm) (a0 : Nat) (a1 : Int32) (a2 : Int32) : Option (Int32) :=
  (some (gR M a0 5)).bind (fun q1 => if isW q1 = true then (if q1 = 328 then (if (gI M a0 7) < a1 then (some (-1)) else (if a2 < (gI M a0 7) then (some (-1)) else (some (gI M a0 7)))) else (some (-1))) else none)
def rm_X4_thingAt : Room := rmz 1 21
def f_X4_thingAt_L2 (M : Mm) (v0 : Nat) (v1 : Int32) (v2 : Int32) : Option (Int32 ⊕ ((Int32) ⊕ Unit)) :=
  if (gI M v0 3) ≤ v2 then (some (.inr (.inr ()))) else (if (t_X9_at M (v0 + 1) ((v2 * 5) + 0)) = v1 then (some (.inr (.inl v2))) else (some (.inl (v2 + 1))))
def f_X4_thingAt (M : Mm) (a0 : Nat) (a1 : Int32) : Option (Int32) :=
  (loop FU (fun a_1 => f_X4_thingAt_L2 M a0 a1 a_1) 0).bind (Sum.elim (fun v => some v) (fun e_1 => some (-1)))
def rm_X1_readCell : Room := rmz 2 43
def f_X1_readCell_J55 (M : Mm)  : Option (Bool × Mm) :=
  (some (f_X7_refuse M 98)).bind (fun rr6 => some (rr6.1, rr6.2))
def f_X1_readCell (M : Mm) (a1 : Nat) : Option (Bool × Mm) :=
  (f_X7_skip M 98 301).bind (fun rr2 => if rr2.1 = true then ((f_X7_numberWithin rr2.2 98 0 19).bind (fun r3 => (some (sI rr2.2 97 1 r3)).bind (fun M4 => if (gI M4 97 1) = (-1) then (f_X1_readCell_J55 M4 ) else ((f_X4_thingAt M4 a1 (gI M4 97 1)).bind (fun r7 => if r7 = (-1) then ((f_X7_next M4 98).bind (fun M8 => some (true, M8))) else (f_X1_readCell_J55 M4 )))))) else ((some (f_X7_refuse rr2.2 98)).bind (fun rr10 => some (rr10.1, rr10.2))))
def rm_X1_readNamed : Room := rmz 2 42
def f_X1_readNamed (M : Mm) (a1 : Nat) (a2 : Int32) (a3 : Int32) : Option (Bool × Mm) :=
  (f_X7_skip M 98 a1).bind (fun rr2 => if rr2.1 = true then ((f_X7_numberWithin rr2.2 98 a2 a3).bind (fun r3 => (some (sI rr2.2 97 1 r3)).bind (fun M4 => if (gI M4 97 1) = (-1) then ((some (f_X7_refuse M4 98)).bind (fun rr7 => some (rr7.1, rr7.2))) else ((f_X7_next M4 98).bind (fun M5 => some (true, M5)))))) else ((some (f_X7_refuse rr2.2 98)).bind (fun rr9 => some (rr9.1, rr9.2))))
def rm_X4_setThing : Room := rmz 1 22
def f_X4_setThing (M : Mm) (a0 : Nat) (a1 : Int32) (a2 : Int32) (a3 : Int32) : Mm :=
  (t_X9_put M (a0 + 1) ((a1 * 5) + a2) a3)
def rm_X1_readCellar : Room := rmz 3 65
def f_X1_readCellar (M : Mm) (a1 : Nat) : Option (Bool × Mm) :=
  (f_X1_readNamed M 308 0 ((gI M a1 3) - 1)).bind (fun rr2 => if rr2.1 = true then ((some (f_X4_setThing rr2.2 a1 (gI rr2.2 97 1) 3 0)).bind (fun M3 => some (rr2.1, M3))) else (some (rr2.1, rr2.2)))
def rm_X1_readColumn : Room := rmz 3 65
def f_X1_readColumn (M : Mm) (a1 : Int32) : Option (Bool × Mm) :=
  if a1 = 0 then ((f_X1_readNamed M 316 0 99).bind (fun rr2 => some (rr2.1, rr2.2))) else (if a1 = 1 then ((f_X1_readNamed M 317 0 9).bind (fun rr4 => some (rr4.1, rr4.2))) else (if a1 = 2 then ((f_X1_readNamed M 318 0 9).bind (fun rr6 => some (rr6.1, rr6.2))) else ((f_X1_readNamed M 305 0 100).bind (fun rr8 => some (rr8.1, rr8.2)))))
def rm_X7_isLetter : Room := rmz 0 0
def f_X7_isLetter (M : Mm) (a0 : Int32) : Bool :=
  if a0 < 97 then false else (if 122 < a0 then false else true)
def rm_X7_endOfLetters : Room := rmz 1 21
def f_X7_endOfLetters_L2 (M : Mm) (v0 : Nat) (v2 : Int32) (v3 : Int32) : Option (Int32 ⊕ Int32) :=
  if v2 ≤ v3 then (some (.inr v3)) else (if (f_X7_isLetter M (t_X9_at M v0 v3)) = true then (some (.inl (v3 + 1))) else (some (.inr v3)))
def f_X7_endOfLetters (M : Mm) (a0 : Nat) (a1 : Int32) (a2 : Int32) : Option (Int32) :=
  (loop FU (fun a_1 => f_X7_endOfLetters_L2 M a0 a2 a_1) a1).bind (fun e_1 => some e_1)
def rm_X7_isSpelled : Room := rmz 5 123
def f_X7_isSpelled_L15 (M : Mm) (v0 : Nat) (v1 : Nat) (v2 : Int32) (v4 : Int32) : Option (Int32 ⊕ ((Bool) ⊕ Unit)) :=
  if (f_J0_length_8abf5 M v0) ≤ v4 then (some (.inr (.inr ()))) else ((f_J0_charAt_5068e M v0 v4).bind (fun r1 => if r1 = (t_X9_at M v1 (v2 + v4)) then (some (.inl (v4 + 1))) else (some (.inr (.inl false)))))
def f_X7_isSpelled (M : Mm) (a0 : Nat) (a1 : Nat) (a2 : Int32) (a3 : Int32) : Option (Bool) :=
  if (f_J0_length_8abf5 M a0) = (a3 - a2) then ((loop FU (fun a_2 => f_X7_isSpelled_L15 M a0 a1 a2 a_2) 0).bind (Sum.elim (fun v => some v) (fun e_2 => some true))) else (some false)
def rm_X7_spelled : Room := rmz 6 147
def f_X7_spelled_L2 (M : Mm) (v0 : Nat) (v1 : Int32) (v2 : Int32) (v3 : Int32) : Option (Int32 ⊕ ((Nat) ⊕ Unit)) :=
  if 31 ≤ v3 then (some (.inr (.inr ()))) else (if ibs v3 31 = true then ((f_X7_isSpelled M (spq (300 + Int32.toNatClampNeg v3)) v0 v1 v2).bind (fun r2 => if r2 = true then (if ibs v3 31 = true then (some (.inr (.inl (300 + Int32.toNatClampNeg v3)))) else none) else (some (.inl (v3 + 1))))) else none)
def f_X7_spelled (M : Mm) (a0 : Nat) (a1 : Int32) (a2 : Int32) : Option (Nat) :=
  (loop FU (fun a_4 => f_X7_spelled_L2 M a0 a1 a2 a_4) 0).bind (Sum.elim (fun v => some v) (fun e_4 => some 329))
def rm_X7_marksOf : Room := rmz 1 21
def f_X7_marksOf_L5 (M : Mm) (v0 : Nat) (v2 : Int32) (v3 : Int32) (v4 : Int32) : Option ((Int32 × Int32) ⊕ ((Int32) ⊕ Int32)) :=
  if v2 ≤ v4 then (some (.inr (.inr v3))) else (if 6 ≤ ((t_X9_at M v0 v4) - 97) then (some (.inr (.inl (-1)))) else (if ((v3 >>> (((t_X9_at M v0 v4) - 97) &&& 31)) &&& 1) = 1 then (some (.inr (.inl (-1)))) else ((some (v3 ||| (1 <<< (((t_X9_at M v0 v4) - 97) &&& 31)))).bind (fun x1 => some (.inl (x1, (v4 + 1)))))))
def f_X7_marksOf (M : Mm) (a0 : Nat) (a1 : Int32) (a2 : Int32) : Option (Int32) :=
  (loop FU (fun a_2 => f_X7_marksOf_L5 M a0 a2 a_2.1 a_2.2) (0, a1)).bind (Sum.elim (fun v => some v) (fun e_2 => some e_2))
def rm_X7_add : Room := rmz 1 22
def f_X7_add (M : Mm) (a0 : Nat) (a1 : Nat) (a2 : Int32) (a3 : Int32) : Option (Mm) :=
  if (gI M a0 3) < 0 then (some M) else (if 401 ≤ (gI M a0 3) then (some M) else (if ibs (gI M a0 3) 401 = true then (some (sE M (a0 + 1) (gI M a0 3) a1)).bind (fun M1 => (some (t_X9_put M1 (a0 + 2) (gI M1 a0 3) a2)).bind (fun M2 => (some (t_X9_put M2 (a0 + 3) (gI M2 a0 3) a3)).bind (fun M3 => (some (sI M3 a0 3 ((gI M3 a0 3) + 1))).bind (fun M4 => some M4)))) else none))
def rm_X7_isDigit : Room := rmz 0 0
def f_X7_isDigit (M : Mm) (a0 : Int32) : Bool :=
  if a0 < 48 then false else (if 57 < a0 then false else true)
def rm_X7_endOfDigits : Room := rmz 1 21
def f_X7_endOfDigits_L2 (M : Mm) (v0 : Nat) (v2 : Int32) (v3 : Int32) : Option (Int32 ⊕ Int32) :=
  if v2 ≤ v3 then (some (.inr v3)) else (if (f_X7_isDigit M (t_X9_at M v0 v3)) = true then (some (.inl (v3 + 1))) else (some (.inr v3)))
def f_X7_endOfDigits (M : Mm) (a0 : Nat) (a1 : Int32) (a2 : Int32) : Option (Int32) :=
  (loop FU (fun a_1 => f_X7_endOfDigits_L2 M a0 a2 a_1) a1).bind (fun e_1 => some e_1)
def rm_X7_numberOf : Room := rmz 1 21
def f_X7_numberOf_L16 (M : Mm) (v0 : Nat) (v2 : Int32) (v3 : Int32) (v4 : Int32) : Option ((Int32 × Int32) ⊕ Int32) :=
  if v2 ≤ v4 then (some (.inr v3)) else ((some (((v3 * 10) + (t_X9_at M v0 v4)) - 48)).bind (fun x1 => some (.inl (x1, (v4 + 1)))))
def f_X7_numberOf (M : Mm) (a0 : Nat) (a1 : Int32) (a2 : Int32) : Option (Int32) :=
  if (a2 - a1) ≤ 3 then ((loop FU (fun a_2 => f_X7_numberOf_L16 M a0 a2 a_2.1 a_2.2) (0, a1)).bind (fun e_2 => some e_2)) else (some 1000)
def rm_X7_open : Room := rmz 7 170
def f_X7_open_J7_116 (M : Mm) (v0 : Nat) (v1 : Nat) (v2 : Int32) (v3 : Int32) (v5 : Int32) : Option ((Mm × Int32) ⊕ Mm) :=
  some (.inl (M, (mx v5 (v3 + 1))))
def f_X7_open_L7 (M : Mm) (v0 : Nat) (v1 : Nat) (v2 : Int32) (v3 : Int32) : Option ((Mm × Int32) ⊕ Mm) :=
  if v2 ≤ v3 then (some (.inr M)) else (if (f_X7_isLetter M (t_X9_at M v1 v3)) = true then ((f_X7_endOfLetters M v1 v3 v2).bind (fun r7 => (f_X7_spelled M v1 v3 r7).bind (fun r8 => if isW r8 = true then ((f_X7_marksOf M v1 v3 r7).bind (fun r9 => (f_X7_add M v0 r8 v3 r9).bind (fun M10 => f_X7_open_J7_116 M10 v0 v1 v2 v3 r7))) else none))) else (if (f_X7_isDigit M (t_X9_at M v1 v3)) = true then ((f_X7_endOfDigits M v1 v3 v2).bind (fun r4 => (f_X7_numberOf M v1 v3 r4).bind (fun r5 => (f_X7_add M v0 328 v3 r5).bind (fun M6 => f_X7_open_J7_116 M6 v0 v1 v2 v3 r4)))) else (if (t_X9_at M v1 v3) = 32 then (f_X7_open_J7_116 M v0 v1 v2 v3 (v3 + 1)) else ((f_X7_spelled M v1 v3 (v3 + 1)).bind (fun r2 => if isW r2 = true then ((f_X7_add M v0 r2 v3 (-1)).bind (fun M3 => f_X7_open_J7_116 M3 v0 v1 v2 v3 (v3 + 1))) else none)))))
def f_X7_open (M : Mm) (a0 : Nat) (a1 : Nat) (a2 : Int32) : Option (Mm) :=
  (some (sI M a0 3 0)).bind (fun M1 => (loop FU (fun a_11 => f_X7_open_L7 a_11.1 a0 a1 a2 a_11.2) (M1, 0)).bind (fun e_11 => (f_X7_add e_11 a0 330 a2 (-1)).bind (fun M12 => (some (sI M12 a0 8 (-1))).bind (fun M13 => (some (sI M13 a0 4 (-1))).bind (fun M14 => (f_X7_next M14 a0).bind (fun M15 => some M15))))))
def rm_X4_addThing : Room := rmz 2 45
def f_X4_addThing (M : Mm) (a0 : Nat) (a1 : Int32) (a2 : Int32) (a3 : Int32) : Option (Mm) :=
  (some (sI M a0 3 ((gI M a0 3) + 1))).bind (fun M1 => (some (f_X4_setThing M1 a0 (gI M a0 3) 0 a1)).bind (fun M2 => (some (f_X4_setThing M2 a0 (gI M a0 3) 1 a2)).bind (fun M3 => (some (f_X4_setThing M3 a0 (gI M a0 3) 2 a3)).bind (fun M4 => (some (f_X4_setThing M4 a0 (gI M a0 3) 3 1)).bind (fun M5 => (some (f_X4_setThing M5 a0 (gI M a0 3) 4 0)).bind (fun M6 => some M6))))))
def rm_X1_readThing : Room := rmz 3 69
def f_X1_readThing (M : Mm) (a1 : Nat) : Option (Bool × Mm) :=
  (f_X7_next M 98).bind (fun M1 => (f_X1_readCell M1 a1).bind (fun rr3 => if rr3.1 = true then ((f_X1_readNamed rr3.2 302 0 99).bind (fun rr5 => if rr5.1 = true then ((f_X1_readNamed rr5.2 303 1 3).bind (fun rr7 => if rr7.1 = true then ((f_X4_addThing rr7.2 a1 (gI rr3.2 97 1) (gI rr5.2 97 1) (gI rr7.2 97 1)).bind (fun M8 => some (true, M8))) else (some (false, rr7.2)))) else (some (false, rr5.2)))) else (some (false, rr3.2))))
def rm_X4_setVisitor : Room := rmz 1 22
def f_X4_setVisitor (M : Mm) (a0 : Nat) (a1 : Int32) (a2 : Int32) (a3 : Int32) : Mm :=
  (t_X9_put M (a0 + 2) ((a1 * 5) + a2) a3)
def rm_X7_marksHere : Room := rmz 0 0
def f_X7_marksHere (M : Mm) (a0 : Nat) : Option (Int32) :=
  (some (gR M a0 5)).bind (fun q1 => if isW q1 = true then (if q1 = 329 then (some (gI M a0 7)) else (some (-1))) else none)
def rm_X1_readMarks : Room := rmz 2 45
def f_X1_readMarks (M : Mm) (a1 : Nat) (a2 : Int32) : Option (Bool × Mm) :=
  (f_X7_marksHere M 98).bind (fun r1 => if r1 = (-1) then ((some (f_X7_refuse M 98)).bind (fun rr5 => some (rr5.1, rr5.2))) else ((some (f_X4_setVisitor M a1 a2 4 r1)).bind (fun M2 => (f_X7_next M2 98).bind (fun M3 => some (true, M3)))))
def rm_X1_readVisitor : Room := rmz 4 86
def f_X1_readVisitor_L24 (M : Mm) (v1 : Nat) (v2 : Int32) (v3 : Int32) : Option ((Mm × Int32) ⊕ ((Bool × Mm) ⊕ Mm)) :=
  if 3 < v3 then (some (.inr (.inr M))) else ((f_X1_readColumn M v3).bind (fun rr4 => if rr4.1 = true then ((some (f_X4_setVisitor rr4.2 v1 v2 v3 (gI rr4.2 97 1))).bind (fun M5 => some (.inl (M5, (v3 + 1))))) else (some (.inr (.inl (false, rr4.2))))))
def f_X1_readVisitor_J84 (M : Mm)  : Option (Bool × Mm) :=
  some (true, M)
def f_X1_readVisitor (M : Mm) (a1 : Nat) : Option (Bool × Mm) :=
  (some (sI M a1 4 ((gI M a1 4) + 1))).bind (fun M1 => (f_X7_next M1 98).bind (fun M2 => (loop FU (fun a_6 => f_X1_readVisitor_L24 a_6.1 a1 (gI M a1 4) a_6.2) (M2, 0)).bind (Sum.elim (fun v => some v) (fun e_6 => (some (f_X4_setVisitor e_6 a1 (gI M a1 4) 4 0)).bind (fun M7 => (f_X7_skip M7 98 306).bind (fun rr9 => if rr9.1 = true then ((f_X1_readMarks rr9.2 a1 (gI M a1 4)).bind (fun rr11 => if rr11.1 = true then (f_X1_readVisitor_J84 rr11.2 ) else (some (false, rr11.2)))) else (f_X1_readVisitor_J84 rr9.2 )))))))
def rm_X1_readSpeed : Room := rmz 3 65
def f_X1_readSpeed (M : Mm) (a1 : Nat) : Option (Bool × Mm) :=
  (f_X1_readNamed M 307 1 9).bind (fun rr2 => if rr2.1 = true then ((some (sI rr2.2 a1 6 (gI rr2.2 97 1))).bind (fun M3 => some (rr2.1, M3))) else (some (rr2.1, rr2.2)))
def rm_X1_readLine : Room := rmz 5 109
def f_X1_readLine_J56 (M : Mm) (v1 : Nat) : Option (Bool × Mm) :=
  (some (gR M 98 5)).bind (fun q3 => if isW q3 = true then (if q3 = 307 then ((f_X1_readSpeed M v1).bind (fun rr10 => some (rr10.1, rr10.2))) else ((some (gR M 98 5)).bind (fun q4 => if isW q4 = true then (if q4 = 308 then ((f_X1_readCellar M v1).bind (fun rr8 => some (rr8.1, rr8.2))) else ((some (f_X7_refuse M 98)).bind (fun rr6 => some (rr6.1, rr6.2)))) else none))) else none)
def f_X1_readLine_J28 (M : Mm) (v1 : Nat) : Option (Bool × Mm) :=
  (some (gR M 98 5)).bind (fun q2 => if isW q2 = true then (if q2 = 304 then (if 10 ≤ (gI M v1 4) then (f_X1_readLine_J56 M v1) else ((f_X1_readVisitor M v1).bind (fun rr12 => some (rr12.1, rr12.2)))) else (f_X1_readLine_J56 M v1)) else none)
def f_X1_readLine (M : Mm) (a1 : Nat) : Option (Bool × Mm) :=
  (some (gR M 98 5)).bind (fun q1 => if isW q1 = true then (if q1 = 300 then (if 9 ≤ (gI M a1 3) then (f_X1_readLine_J28 M a1) else ((f_X1_readThing M a1).bind (fun rr14 => some (rr14.1, rr14.2)))) else (f_X1_readLine_J28 M a1)) else none)
def rm_X1_readInto : Room := rmz 8 195
def f_X1_readInto_L27 (M : Mm) (v1 : Nat) (v4 : Int32) : Option ((Mm × Int32) ⊕ ((Bool × Mm) ⊕ Mm)) :=
  if 14 ≤ v4 then (some (.inr (.inr M))) else ((f_X1_readLine M v1).bind (fun rr4 => if rr4.1 = true then ((some (gR rr4.2 98 5)).bind (fun q5 => if isW q5 = true then (if q5 = 330 then (some (.inr (.inl (true, rr4.2)))) else ((f_X7_skip rr4.2 98 322).bind (fun rr7 => if rr7.1 = true then (some (.inl (rr7.2, (v4 + 1)))) else ((some (f_X7_refuse rr7.2 98)).bind (fun rr9 => some (.inr (.inl (rr9.1, rr9.2)))))))) else none)) else (some (.inr (.inl (false, rr4.2))))))
def f_X1_readInto (M : Mm) (a1 : Nat) (a2 : Nat) (a3 : Int32) : Option (Bool × Mm) :=
  (f_X7_open M 98 a2 a3).bind (fun M1 => (some (gR M1 98 5)).bind (fun q2 => if isW q2 = true then (if q2 = 330 then (some (true, M1)) else ((loop FU (fun a_10 => f_X1_readInto_L27 a_10.1 a1 a_10.2) (M1, 0)).bind (Sum.elim (fun v => some v) (fun e_10 => (some (f_X7_refuse e_10 98)).bind (fun rr12 => some (rr12.1, rr12.2)))))) else none))
def rm_X2_addOperation : Room := rmz 1 22
def f_X2_addOperation (M : Mm) (a0 : Nat) (a1 : Int32) : Option (Mm) :=
  (some (t_X9_put M (a0 + 4) (gI M a0 5) a1)).bind (fun M1 => (some (sI M1 a0 5 ((gI M1 a0 5) + 1))).bind (fun M2 => some M2))
def rm_X2_clear : Room := rmz 0 0
def f_X2_clear (M : Mm) (a0 : Nat) : Option (Mm) :=
  (some (sI M a0 5 0)).bind (fun M1 => (some (sI M1 a0 6 0)).bind (fun M2 => some M2))
def rm_X2_copyFrom : Room := rmz 1 200
def f_X2_copyFrom (M : Mm) (a0 : Nat) (a1 : Nat) : Option (Mm) :=
  (some (cpA M (a1 + 1) (a0 + 1) 12)).bind (fun M1 => (some (cpA M1 (a1 + 2) (a0 + 2) 12)).bind (fun M2 => (some (cpA M2 (a1 + 3) (a0 + 3) 12)).bind (fun M3 => (some (cpA M3 (a1 + 4) (a0 + 4) 400)).bind (fun M4 => (some (sI M4 a0 5 (gI M4 a1 5))).bind (fun M5 => (some (sI M5 a0 6 (gI M5 a1 6))).bind (fun M6 => some M6))))))
def rm_X2_endLine : Room := rmz 1 22
def f_X2_endLine (M : Mm) (a0 : Nat) (a1 : Int32) (a2 : Int32) : Option (Mm) :=
  (some (t_X9_put M (a0 + 2) (gI M a0 6) a1)).bind (fun M1 => (some (t_X9_put M1 (a0 + 1) (gI M1 a0 6) a2)).bind (fun M2 => (some (t_X9_put M2 (a0 + 3) (gI M2 a0 6) (gI M2 a0 5))).bind (fun M3 => (some (sI M3 a0 6 ((gI M3 a0 6) + 1))).bind (fun M4 => some M4))))
def rm_X2_joined : Room := rmz 0 0
def f_X2_joined (M : Mm) (a0 : Int32) (a1 : Int32) : Int32 :=
  if a0 = 1023 then ((a1 ^^^ 1)) else (if a0 = 1025 then (((a1 >>> (1 &&& 31)) ||| (a1 &&& 1))) else (((a1 >>> (1 &&& 31)) &&& ((a1 &&& 1) ||| (-2)))))
def rm_X2_holds : Room := rmz 1 23
def f_X2_holds_J21_165 (M : Mm) (v0 : Nat) (v1 : Int32) (v3 : Int32) (v6 : Int32) (v7 : Int32) (t0 : Int32) (t1 : Int32) : Option ((Int32 × Int32 × Int32 × Int32) ⊕ Int32) :=
  some (.inl ((t1 ||| t0), 0, v6, (v7 + 1)))
def f_X2_holds_J21_149 (M : Mm) (v0 : Nat) (v1 : Int32) (v3 : Int32) (v4 : Int32) (v6 : Int32) (v7 : Int32) (t0 : Int32) : Option ((Int32 × Int32 × Int32 × Int32) ⊕ Int32) :=
  if t0 = 0 then (f_X2_holds_J21_165 M v0 v1 v3 v6 v7 0 (v4 <<< (1 &&& 31))) else (f_X2_holds_J21_165 M v0 v1 v3 v6 v7 1 (v4 <<< (1 &&& 31)))
def f_X2_holds_J21_114 (M : Mm) (v0 : Nat) (v1 : Int32) (v3 : Int32) (v4 : Int32) (v5 : Int32) (v6 : Int32) (v7 : Int32) (v8 : Int32) : Option ((Int32 × Int32 × Int32 × Int32) ⊕ Int32) :=
  if v8 = 1021 then (if v5 ≤ v6 then (f_X2_holds_J21_149 M v0 v1 v3 v4 v6 v7 0) else (f_X2_holds_J21_149 M v0 v1 v3 v4 v6 v7 1)) else (if v6 ≤ v5 then (f_X2_holds_J21_149 M v0 v1 v3 v4 v6 v7 0) else (f_X2_holds_J21_149 M v0 v1 v3 v4 v6 v7 1))
def f_X2_holds_J21_74 (M : Mm) (v0 : Nat) (v1 : Int32) (v3 : Int32) (v4 : Int32) (v6 : Int32) (v7 : Int32) (t0 : Int32) (t1 : Int32) : Option ((Int32 × Int32 × Int32 × Int32) ⊕ Int32) :=
  some (.inl (v4, (t1 + t0), v6, (v7 + 1)))
def f_X2_holds_L21 (M : Mm) (v0 : Nat) (v1 : Int32) (v3 : Int32) (v4 : Int32) (v5 : Int32) (v6 : Int32) (v7 : Int32) : Option ((Int32 × Int32 × Int32 × Int32) ⊕ Int32) :=
  if v3 ≤ v7 then (some (.inr v4)) else (if 1010 ≤ (t_X9_at M (v0 + 4) v7) then (if (t_X9_at M (v0 + 4) v7) = 1020 then (some (.inl (v4, 0, v5, (v7 + 1)))) else (if (t_X9_at M (v0 + 4) v7) = 1021 then (f_X2_holds_J21_114 M v0 v1 v3 v4 v5 v6 v7 (t_X9_at M (v0 + 4) v7)) else (if (t_X9_at M (v0 + 4) v7) = 1022 then (f_X2_holds_J21_114 M v0 v1 v3 v4 v5 v6 v7 (t_X9_at M (v0 + 4) v7)) else (if (t_X9_at M (v0 + 4) v7) < 1023 then ((some ((v4 <<< (1 &&& 31)) ||| ((v1 >>> (((t_X9_at M (v0 + 4) v7) - 1010) &&& 31)) &&& 1))).bind (fun x1 => some (.inl (x1, v5, v6, (v7 + 1))))) else ((some (f_X2_joined M (t_X9_at M (v0 + 4) v7) v4)).bind (fun x2 => some (.inl (x2, v5, v6, (v7 + 1))))))))) else (if 1000 ≤ (t_X9_at M (v0 + 4) v7) then (f_X2_holds_J21_74 M v0 v1 v3 v4 v6 v7 (t_X9_at M (v0 + 5) ((t_X9_at M (v0 + 4) v7) - 1000)) v5) else (f_X2_holds_J21_74 M v0 v1 v3 v4 v6 v7 (t_X9_at M (v0 + 4) v7) v5)))
def f_X2_holds_J10 (M : Mm) (v0 : Nat) (v1 : Int32) (v2 : Int32) (v3 : Int32) (t0 : Int32) : Option (Bool) :=
  (loop FU (fun a_3 => f_X2_holds_L21 M v0 v1 v3 a_3.1 a_3.2.1 a_3.2.2.1 a_3.2.2.2) (t0, 0, 0, v2)).bind (fun e_3 => if (e_3 &&& 1) = 1 then (some true) else (some false))
def f_X2_holds (M : Mm) (a0 : Nat) (a1 : Int32) (a2 : Int32) (a3 : Int32) : Option (Bool) :=
  if a3 ≤ a2 then (f_X2_holds_J10 M a0 a1 a2 a3 1) else (f_X2_holds_J10 M a0 a1 a2 a3 0)
def rm_X4_ofVisitor : Room := rmz 1 21
def f_X4_ofVisitor (M : Mm) (a0 : Nat) (a1 : Int32) (a2 : Int32) : Int32 :=
  (t_X9_at M (a0 + 2) ((a1 * 5) + a2))
def rm_X2_weighs : Room := rmz 2 52
def f_X2_weighs_J114_157 (M : Mm) (v0 : Nat) (v2 : Int32) (v4 : Int32) (v5 : Int32) (v6 : Int32) (v7 : Int32) (v9 : Int32) : Option ((Int32 × Int32 × Int32) ⊕ Int32) :=
  (f_X2_holds M v0 v4 v6 v9).bind (fun r8 => if r8 = true then ((some (v5 + (t_X9_at M (v0 + 1) v7))).bind (fun x9 => some (.inl (x9, v9, (v7 + 1))))) else (some (.inl (v5, v9, (v7 + 1)))))
def f_X2_weighs_L114 (M : Mm) (v0 : Nat) (v2 : Int32) (v4 : Int32) (v5 : Int32) (v6 : Int32) (v7 : Int32) : Option ((Int32 × Int32 × Int32) ⊕ Int32) :=
  if (gI M v0 6) ≤ v7 then (some (.inr v5)) else (if (t_X9_at M (v0 + 2) v7) = (-1) then (f_X2_weighs_J114_157 M v0 v2 v4 v5 v6 v7 (t_X9_at M (v0 + 3) v7)) else (if (t_X9_at M (v0 + 2) v7) = v2 then (f_X2_weighs_J114_157 M v0 v2 v4 v5 v6 v7 (t_X9_at M (v0 + 3) v7)) else (some (.inl (v5, (t_X9_at M (v0 + 3) v7), (v7 + 1))))))
def f_X2_weighs (M : Mm) (a0 : Nat) (a1 : Nat) (a2 : Int32) (a3 : Int32) : Option (Int32 × Mm) :=
  if (gI M a0 6) = (-1) then (some ((f_X4_ofVisitor M a1 a3 1), M)) else ((some (t_X9_put M (a0 + 5) 0 (f_X4_ofVisitor M a1 a3 0))).bind (fun M1 => (some (t_X9_put M1 (a0 + 5) 1 (f_X4_ofVisitor M1 a1 a3 1))).bind (fun M2 => (some (t_X9_put M2 (a0 + 5) 2 (f_X4_ofVisitor M2 a1 a3 2))).bind (fun M3 => (some (t_X9_put M3 (a0 + 5) 3 (f_X4_ofThing M3 a1 a2 0))).bind (fun M4 => (some (t_X9_put M4 (a0 + 5) 4 (f_X4_ofThing M4 a1 a2 4))).bind (fun M5 => (some (t_X9_put M5 (a0 + 5) 5 (gI M5 a1 7))).bind (fun M6 => (some (f_X4_ofVisitor M6 a1 a3 4)).bind (fun x7 => (loop FU (fun a_10 => f_X2_weighs_L114 M6 a0 a2 x7 a_10.1 a_10.2.1 a_10.2.2) (0, 0, 0)).bind (fun e_10 => some ((mx e_10 0), M6))))))))))
def rm_X3_leaveOpen : Room := rmz 1 22
def f_X3_leaveOpen (M : Mm) (a1 : Int32) : Option (Mm) :=
  (some (t_X9_put M 103 (gI M 102 2) a1)).bind (fun M1 => (some (sI M1 102 2 ((gI M1 102 2) + 1))).bind (fun M2 => some M2))
def rm_X3_readSum : Room := rmz 2 43
def f_X3_readSum_J2_44 (M : Mm) (v1 : Nat) (v2 : Int32) (t0 : Int32) : Option ((Mm × Int32) ⊕ ((Bool × Mm) ⊕ Mm)) :=
  if t0 = (-1) then ((some (f_X7_refuse M 104)).bind (fun rr7 => some (.inr (.inl (rr7.1, rr7.2))))) else ((f_X2_addOperation M v1 t0).bind (fun M2 => (f_X7_next M2 104).bind (fun M3 => (f_X7_skip M3 104 327).bind (fun rr5 => if rr5.1 = true then (some (.inl (rr5.2, (v2 + 1)))) else (some (.inr (.inl (true, rr5.2))))))))
def f_X3_readSum_L2 (M : Mm) (v1 : Nat) (v2 : Int32) : Option ((Mm × Int32) ⊕ ((Bool × Mm) ⊕ Mm)) :=
  if 400 ≤ v2 then (some (.inr (.inr M))) else ((some (gR M 104 5)).bind (fun q1 => if isW q1 = true then (if (ptq q1) = (-1) then ((f_X7_numberWithin M 104 0 999).bind (fun r8 => f_X3_readSum_J2_44 M v1 v2 r8)) else (f_X3_readSum_J2_44 M v1 v2 (1000 + (ptq q1)))) else none))
def f_X3_readSum (M : Mm) (a1 : Nat) : Option (Bool × Mm) :=
  (loop FU (fun a_9 => f_X3_readSum_L2 a_9.1 a1 a_9.2) (M, 0)).bind (Sum.elim (fun v => some v) (fun e_9 => (some (f_X7_refuse e_9 104)).bind (fun rr11 => some (rr11.1, rr11.2))))
def rm_X3_readAtom : Room := rmz 3 67
def f_X3_readAtom_J119 (M : Mm) (t0 : Int32) (t1 : Nat) : Option (Bool × Mm) :=
  (f_X2_addOperation M t1 t0).bind (fun M9 => some (true, M9))
def f_X3_readAtom_J88 (M : Mm) (v1 : Nat) (v3 : Int32) : Option (Bool × Mm) :=
  (f_X2_addOperation M v1 1020).bind (fun M6 => (f_X3_readSum M6 v1).bind (fun rr8 => if rr8.1 = true then (if v3 = 0 then (f_X3_readAtom_J119 rr8.2 1022 v1) else (f_X3_readAtom_J119 rr8.2 1021 v1)) else (some (false, rr8.2))))
def f_X3_readAtom_J42 (M : Mm) (v1 : Nat) : Option (Bool × Mm) :=
  (f_X3_readSum M v1).bind (fun rr3 => if rr3.1 = true then ((f_X7_skip rr3.2 104 325).bind (fun rr5 => if rr5.1 = true then (f_X3_readAtom_J88 rr5.2 v1 (bI rr5.1)) else ((f_X7_skip rr5.2 104 326).bind (fun rr11 => if rr11.1 = true then (f_X3_readAtom_J88 rr11.2 v1 (bI rr5.1)) else ((some (f_X7_refuse rr11.2 104)).bind (fun rr13 => some (rr13.1, rr13.2))))))) else (some (false, rr3.2)))
def f_X3_readAtom (M : Mm) (a1 : Nat) : Option (Bool × Mm) :=
  (f_X7_marksHere M 104).bind (fun r1 => if r1 = (-1) then (f_X3_readAtom_J42 M a1) else ((f_J6_bitCount_0f7a4 M r1).bind (fun r14 => if r14 = 1 then ((f_J6_numberOfTrailingZeros_0f7a4 M r1).bind (fun r15 => (f_X2_addOperation M a1 (1010 + r15)).bind (fun M16 => (f_X7_next M16 104).bind (fun M17 => some (true, M17))))) else (f_X3_readAtom_J42 M a1))))
def rm_X3_settle : Room := rmz 2 43
def f_X3_settle_J0_63 (M : Mm) (v1 : Nat) (v2 : Int32) (v3 : Int32) (t0 : Int32) (t1 : Int32) : Option (Mm ⊕ Mm) :=
  (some (sI M 102 3 (t1 - t0))).bind (fun M3 => (f_X2_addOperation M3 v1 v3).bind (fun M4 => some (.inl M4)))
def f_X3_settle_L0 (M : Mm) (v1 : Nat) (v2 : Int32) : Option (Mm ⊕ Mm) :=
  if (gI M 102 2) ≤ 0 then (some (.inr M)) else (if v2 < (t_X9_at M 103 ((gI M 102 2) - 1)) then (some (.inr M)) else ((some (sI M 102 2 ((gI M 102 2) - 1))).bind (fun M1 => (some (t_X9_at M1 103 (gI M1 102 2))).bind (fun x2 => if x2 = 1023 then (f_X3_settle_J0_63 M1 v1 v2 x2 1 (gI M1 102 3)) else (f_X3_settle_J0_63 M1 v1 v2 x2 0 (gI M1 102 3))))))
def f_X3_settle (M : Mm) (a1 : Nat) (a2 : Int32) : Option (Mm) :=
  (loop FU (fun a_5 => f_X3_settle_L0 a_5 a1 a2) M).bind (fun e_5 => some e_5)
def rm_X3_readClosings : Room := rmz 3 66
def f_X3_readClosings_L2 (M : Mm) (v1 : Nat) (v2 : Int32) : Option ((Mm × Int32) ⊕ ((Mm) ⊕ Mm)) :=
  if 6 ≤ v2 then (some (.inr (.inr M))) else ((some (gR M 104 5)).bind (fun q1 => if isW q1 = true then (if q1 = 324 then ((f_X3_settle M v1 1025).bind (fun M2 => if (gI M2 102 2) = 0 then (some (.inr (.inl M2))) else ((some (sI M2 102 2 ((gI M2 102 2) - 1))).bind (fun M3 => (some (sI M3 102 3 ((gI M3 102 3) - 1))).bind (fun M4 => (f_X7_next M4 104).bind (fun M5 => some (.inl (M5, (v2 + 1))))))))) else (some (.inr (.inr M)))) else none))
def f_X3_readClosings (M : Mm) (a1 : Nat) : Option (Mm) :=
  (loop FU (fun a_6 => f_X3_readClosings_L2 a_6.1 a1 a_6.2) (M, 0)).bind (Sum.elim (fun v => some v) (fun e_6 => some e_6))
def rm_X3_readOpenings : Room := rmz 2 43
def f_X3_readOpenings_J2_84 (M : Mm) (v1 : Int32) (t0 : Int32) : Option ((Mm × Int32) ⊕ ((Bool × Mm) ⊕ Mm)) :=
  (f_X3_leaveOpen M t0).bind (fun M4 => (f_X7_next M4 104).bind (fun M5 => some (.inl (M5, (v1 + 1)))))
def f_X3_readOpenings_J2_34 (M : Mm) (v1 : Int32) : Option ((Mm × Int32) ⊕ ((Bool × Mm) ⊕ Mm)) :=
  if (gI M 102 3) < 6 then ((some (sI M 102 3 ((gI M 102 3) + 1))).bind (fun M2 => (some (gR M2 104 5)).bind (fun q3 => if isW q3 = true then (if q3 = 313 then (f_X3_readOpenings_J2_84 M2 v1 1023) else (f_X3_readOpenings_J2_84 M2 v1 1026)) else none))) else ((some (f_X7_refuse M 104)).bind (fun rr7 => some (.inr (.inl (rr7.1, rr7.2)))))
def f_X3_readOpenings_L2 (M : Mm) (v1 : Int32) : Option ((Mm × Int32) ⊕ ((Bool × Mm) ⊕ Mm)) :=
  if 6 < v1 then (some (.inr (.inr M))) else ((some (gR M 104 5)).bind (fun q1 => if isW q1 = true then (if q1 = 313 then (f_X3_readOpenings_J2_34 M v1) else ((some (gR M 104 5)).bind (fun q8 => if isW q8 = true then (if q8 = 323 then (f_X3_readOpenings_J2_34 M v1) else (some (.inr (.inr M)))) else none))) else none))
def f_X3_readOpenings (M : Mm)  : Option (Bool × Mm) :=
  (loop FU (fun a_9 => f_X3_readOpenings_L2 a_9.1 a_9.2) (M, 0)).bind (Sum.elim (fun v => some v) (fun e_9 => some (true, e_9)))
def rm_X3_readCondition : Room := rmz 4 90
def f_X3_readCondition_J12_123 (M : Mm) (v1 : Nat) (v2 : Int32) : Option ((Mm × Int32) ⊕ ((Bool × Mm) ⊕ Mm)) :=
  (f_X7_next M 104).bind (fun M12 => some (.inl (M12, (v2 + 1))))
def f_X3_readCondition_J12_110 (M : Mm)  : Option ((Mm × Int32) ⊕ ((Bool × Mm) ⊕ Mm)) :=
  some (.inr (.inl (true, M)))
def f_X3_readCondition_L12 (M : Mm) (v1 : Nat) (v2 : Int32) : Option ((Mm × Int32) ⊕ ((Bool × Mm) ⊕ Mm)) :=
  if 400 ≤ v2 then (some (.inr (.inr M))) else ((f_X3_readOpenings M ).bind (fun rr4 => if rr4.1 = true then ((f_X3_readAtom rr4.2 v1).bind (fun rr6 => if rr6.1 = true then ((f_X3_readClosings rr6.2 v1).bind (fun M7 => (some (gR M7 104 5)).bind (fun q8 => if isW q8 = true then (if q8 = 314 then ((f_X3_settle M7 v1 1024).bind (fun M15 => (f_X3_leaveOpen M15 1024).bind (fun M16 => f_X3_readCondition_J12_123 M16 v1 v2))) else ((f_X3_settle M7 v1 1025).bind (fun M9 => (some (gR M9 104 5)).bind (fun q10 => if isW q10 = true then (if q10 = 315 then ((f_X3_leaveOpen M9 1025).bind (fun M11 => f_X3_readCondition_J12_123 M11 v1 v2)) else (if (gI M9 102 2) = 0 then (f_X3_readCondition_J12_110 M9 ) else ((some (f_X7_refuse M9 104)).bind (fun rr14 => if rr14.1 = true then (f_X3_readCondition_J12_110 rr14.2 ) else (some (.inr (.inl (false, rr14.2)))))))) else none)))) else none))) else (some (.inr (.inl (false, rr6.2)))))) else (some (.inr (.inl (false, rr4.2))))))
def f_X3_readCondition (M : Mm) (a1 : Nat) : Option (Bool × Mm) :=
  (some (sI M 102 2 0)).bind (fun M1 => (some (sI M1 102 3 0)).bind (fun M2 => (loop FU (fun a_17 => f_X3_readCondition_L12 a_17.1 a1 a_17.2) (M2, 0)).bind (Sum.elim (fun v => some v) (fun e_17 => (some (f_X7_refuse e_17 104)).bind (fun rr19 => some (rr19.1, rr19.2))))))
def rm_X3_readLine : Room := rmz 5 112
def f_X3_readLine_J150 (M : Mm) (t0 : Int32) (t1 : Int32) (t2 : Nat) : Option (Bool × Mm) :=
  (f_X2_endLine M t2 t1 t0).bind (fun M9 => some (true, M9))
def f_X3_readLine_J136 (M : Mm) (v1 : Nat) (v2 : Int32) (v3 : Int32) (v4 : Int32) : Option (Bool × Mm) :=
  if v2 = 0 then (f_X3_readLine_J150 M (-v4) v3 v1) else (f_X3_readLine_J150 M v4 v3 v1)
def f_X3_readLine_J73 (M : Mm) (v1 : Nat) (v2 : Int32) (v3 : Int32) : Option (Bool × Mm) :=
  (f_X7_next M 104).bind (fun M4 => (f_X7_numberWithin M4 104 0 99).bind (fun r5 => if r5 = (-1) then ((some (f_X7_refuse M4 104)).bind (fun rr13 => some (rr13.1, rr13.2))) else ((f_X7_next M4 104).bind (fun M6 => (f_X7_skip M6 104 312).bind (fun rr8 => if rr8.1 = true then ((f_X3_readCondition rr8.2 v1).bind (fun rr11 => if rr11.1 = true then (f_X3_readLine_J136 rr11.2 v1 v2 v3 r5) else (some (false, rr11.2)))) else (f_X3_readLine_J136 rr8.2 v1 v2 v3 r5))))))
def f_X3_readLine_J36 (M : Mm) (v1 : Nat) (v2 : Int32) : Option (Bool × Mm) :=
  (f_X7_numberWithin M 104 0 8).bind (fun r3 => if r3 = (-1) then ((some (gR M 104 5)).bind (fun q14 => if isW q14 = true then (if q14 = 311 then (f_X3_readLine_J73 M v1 v2 r3) else ((some (f_X7_refuse M 104)).bind (fun rr16 => some (rr16.1, rr16.2)))) else none)) else (f_X3_readLine_J73 M v1 v2 r3))
def f_X3_readLine (M : Mm) (a1 : Nat) : Option (Bool × Mm) :=
  (f_X7_skip M 104 309).bind (fun rr2 => if rr2.1 = true then (f_X3_readLine_J36 rr2.2 a1 (bI rr2.1)) else ((f_X7_skip rr2.2 104 310).bind (fun rr18 => if rr18.1 = true then (f_X3_readLine_J36 rr18.2 a1 (bI rr2.1)) else ((some (f_X7_refuse rr18.2 104)).bind (fun rr20 => some (rr20.1, rr20.2))))))
def rm_X3_readInto : Room := rmz 8 195
def f_X3_readInto_L31 (M : Mm) (v1 : Nat) (v4 : Int32) : Option ((Mm × Int32) ⊕ ((Bool × Mm) ⊕ Mm)) :=
  if 12 ≤ v4 then (some (.inr (.inr M))) else ((f_X3_readLine M v1).bind (fun rr5 => if rr5.1 = true then ((some (gR rr5.2 104 5)).bind (fun q6 => if isW q6 = true then (if q6 = 330 then (some (.inr (.inl (true, rr5.2)))) else ((f_X7_skip rr5.2 104 322).bind (fun rr8 => if rr8.1 = true then (some (.inl (rr8.2, (v4 + 1)))) else ((some (f_X7_refuse rr8.2 104)).bind (fun rr10 => some (.inr (.inl (rr10.1, rr10.2)))))))) else none)) else (some (.inr (.inl (false, rr5.2))))))
def f_X3_readInto (M : Mm) (a1 : Nat) (a2 : Nat) (a3 : Int32) : Option (Bool × Mm) :=
  (f_X2_clear M a1).bind (fun M1 => (f_X7_open M1 104 a2 a3).bind (fun M2 => (some (gR M2 104 5)).bind (fun q3 => if isW q3 = true then (if q3 = 330 then (some (true, M2)) else ((loop FU (fun a_11 => f_X3_readInto_L31 a_11.1 a1 a_11.2) (M2, 0)).bind (Sum.elim (fun v => some v) (fun e_11 => (some (f_X7_refuse e_11 104)).bind (fun rr13 => some (rr13.1, rr13.2)))))) else none)))
def rm_X4_copyFrom : Room := rmz 1 200
def f_X4_copyFrom (M : Mm) (a0 : Nat) (a1 : Nat) : Option (Mm) :=
  (some (cpA M (a1 + 1) (a0 + 1) 45)).bind (fun M1 => (some (cpA M1 (a1 + 2) (a0 + 2) 50)).bind (fun M2 => (some (cpA M2 (a1 + 3) (a0 + 3) 300)).bind (fun M3 => (some (sI M3 a0 3 (gI M3 a1 3))).bind (fun M4 => (some (sI M4 a0 4 (gI M4 a1 4))).bind (fun M5 => (some (sI M5 a0 5 (gI M5 a1 5))).bind (fun M6 => (some (sI M6 a0 6 (gI M6 a1 6))).bind (fun M7 => (some (sI M7 a0 7 (gI M7 a1 7))).bind (fun M8 => (some (sI M8 a0 8 (gI M8 a1 8))).bind (fun M9 => (some (sI M9 a0 9 (gI M9 a1 9))).bind (fun M10 => some M10))))))))))
def rm_X4_drawsAway : Room := rmz 2 43
def f_X4_drawsAway (M : Mm) (a0 : Nat) (a1 : Int32) : Bool × Mm :=
  if (f_X4_ofVisitor (sI M a0 8 (((gI M a0 8) * 1103515245) + 12345)) a0 a1 3) ≤ (((iush (gI (sI M a0 8 (((gI M a0 8) * 1103515245) + 12345)) a0 8) 16) &&& 32767) - ((iush (gI (sI M a0 8 (((gI M a0 8) * 1103515245) + 12345)) a0 8) 16) &&& 32767) / 100 * 100) then ((false, (sI M a0 8 (((gI M a0 8) * 1103515245) + 12345)))) else ((true, (sI M a0 8 (((gI M a0 8) * 1103515245) + 12345))))
def rm_X4_logRows : Room := rmz 1 13
def f_X4_logRows (M : Mm) (a0 : Nat) : Int32 :=
  (mn (gI M a0 9) 60)
def rm_X4_logged : Room := rmz 1 21
def f_X4_logged (M : Mm) (a0 : Nat) (a1 : Int32) (a2 : Int32) : Int32 :=
  (t_X9_at M (a0 + 3) ((((((gI M a0 9) - 1) - a1) - (((gI M a0 9) - 1) - a1) / 60 * 60) * 5) + a2))
def rm_X4_stepOf : Room := rmz 0 0
def f_X4_stepOf (M : Mm) (a0 : Nat) (a1 : Int32) : Option (Int32) :=
  if (gI M a0 6) ≤ 0 then (some 0) else (if ¬ (gI M a0 6) = 0 then some (a1 / (gI M a0 6)) else none)
def t_X4_stepOf (M : Mm) (a0 : Nat) (a1 : Int32) : Int32 := if gI M a0 6 ≤ 0 then 0 else a1 / gI M a0 6
theorem te_X4_stepOf {M : Mm} {a0 : Nat} {a1 : Int32} : f_X4_stepOf M a0 a1 = some (t_X4_stepOf M a0 a1) := by
  unfold f_X4_stepOf t_X4_stepOf
  by_cases h1 : gI M a0 6 ≤ 0
  · rw [if_pos h1, if_pos h1]
  · rw [if_neg h1, if_neg h1, if_pos]
    intro h
    rw [h] at h1
    exact h1 (by decide)
def rm_X4_note : Room := rmz 2 43
def f_X4_note (M : Mm) (a0 : Nat) (a1 : Int32) (a2 : Int32) (a3 : Int32) : Option (Mm) :=
  (some (((gI M a0 9) - (gI M a0 9) / 60 * 60) * 5)).bind (fun x1 => (some (t_X9_put M (a0 + 3) x1 (gI M a0 7))).bind (fun M2 => (some (t_X9_put M2 (a0 + 3) (x1 + 1) a1)).bind (fun M3 => (some (t_X9_put M3 (a0 + 3) (x1 + 2) a2)).bind (fun M4 => (some (t_X9_put M4 (a0 + 3) (x1 + 3) a3)).bind (fun M5 => (some (t_X9_put M5 (a0 + 3) (x1 + 4) (t_X4_stepOf M5 a0 (f_X4_ofThing M5 a0 a2 0)))).bind (fun M6 => (some (sI M6 a0 9 ((gI M6 a0 9) + 1))).bind (fun M7 => some M7)))))))
def rm_X4_rings : Room := rmz 2 43
def f_X4_rings (M : Mm) (a0 : Nat) (a1 : Int32) (a2 : Int32) : Bool :=
  if (f_X4_ofThing M a0 a1 3) = 1 then (if a2 ≤ 0 then false else (if a2 < ((f_X4_ofThing M a0 a1 1) - (f_X4_ofThing M a0 a1 4)) then false else true)) else false
def rm_X4_shownThings : Room := rmz 2 43
def f_X4_shownThings_L4 (M : Mm) (v0 : Nat) (v1 : Int32) (v2 : Int32) : Option ((Int32 × Int32) ⊕ Int32) :=
  if (gI M v0 3) ≤ v2 then (some (.inr v1)) else ((some (v1 ||| ((f_X4_ofThing M v0 v2 3) <<< (v2 &&& 31)))).bind (fun x1 => some (.inl (x1, (v2 + 1)))))
def f_X4_shownThings (M : Mm) (a0 : Nat) : Option (Int32) :=
  (loop FU (fun a_2 => f_X4_shownThings_L4 M a0 a_2.1 a_2.2) (0, 0)).bind (fun e_2 => some e_2)
def rm_X4_sumOfThings : Room := rmz 2 43
def f_X4_sumOfThings_L4 (M : Mm) (v0 : Nat) (v1 : Int32) (v2 : Int32) (v3 : Int32) : Option ((Int32 × Int32) ⊕ Int32) :=
  if (gI M v0 3) ≤ v3 then (some (.inr v2)) else ((some (v2 + (f_X4_ofThing M v0 v3 v1))).bind (fun x1 => some (.inl (x1, (v3 + 1)))))
def f_X4_sumOfThings (M : Mm) (a0 : Nat) (a1 : Int32) : Option (Int32) :=
  (loop FU (fun a_2 => f_X4_sumOfThings_L4 M a0 a1 a_2.1 a_2.2) (0, 0)).bind (fun e_2 => some e_2)
def rm_X4_swapCells : Room := rmz 2 45
def f_X4_swapCells (M : Mm) (a0 : Nat) (a1 : Int32) (a2 : Int32) : Option (Mm) :=
  (some (f_X4_setThing M a0 a1 0 (f_X4_ofThing M a0 a2 0))).bind (fun M1 => (some (f_X4_setThing M1 a0 a2 0 (f_X4_ofThing M a0 a1 0))).bind (fun M2 => some M2))
def rm_X4_swapVisitors : Room := rmz 2 45
def f_X4_swapVisitors_L2 (M : Mm) (v0 : Nat) (v1 : Int32) (v2 : Int32) (v3 : Int32) : Option ((Mm × Int32) ⊕ Mm) :=
  if 5 ≤ v3 then (some (.inr M)) else ((some (f_X4_ofVisitor M v0 v1 v3)).bind (fun x1 => (some (f_X4_setVisitor M v0 v1 v3 (f_X4_ofVisitor M v0 v2 v3))).bind (fun M2 => (some (f_X4_setVisitor M2 v0 v2 v3 x1)).bind (fun M3 => some (.inl (M3, (v3 + 1)))))))
def f_X4_swapVisitors (M : Mm) (a0 : Nat) (a1 : Int32) (a2 : Int32) : Option (Mm) :=
  (loop FU (fun a_4 => f_X4_swapVisitors_L2 a_4.1 a0 a1 a2 a_4.2) (M, 0)).bind (fun e_4 => some e_4)
def rm_X4_timesLed : Room := rmz 2 43
def f_X4_timesLed_L5 (M : Mm) (v0 : Nat) (v1 : Int32) (v2 : Int32) (v3 : Int32) (v4 : Int32) : Option ((Int32 × Int32) ⊕ Int32) :=
  if (f_X4_logRows M v0) ≤ v4 then (some (.inr v3)) else (if (f_X4_logged M v0 v4 1) = v1 then (if (f_X4_logged M v0 v4 2) = v2 then (some (.inl ((v3 + 1), (v4 + 1)))) else (some (.inl (v3, (v4 + 1))))) else (some (.inl (v3, (v4 + 1)))))
def f_X4_timesLed (M : Mm) (a0 : Nat) (a1 : Int32) (a2 : Int32) : Option (Int32) :=
  (loop FU (fun a_1 => f_X4_timesLed_L5 M a0 a1 a2 a_1.1 a_1.2) (0, 0)).bind (fun e_1 => some e_1)
def rm_X5_tooMany : Room := rmz 1 21
def f_X5_tooMany_L4 (M : Mm) (v1 : Int32) (v2 : Int32) (v3 : Int32) : Option ((Int32 × Int32) ⊕ Int32) :=
  if (gI M 87 2) ≤ v3 then (some (.inr v2)) else (if ((t_X9_at M 88 v3) &&& v1) = 0 then (some (.inl (v2, (v3 + 1)))) else (some (.inl ((v2 + (t_X9_at M 89 v3)), (v3 + 1)))))
def f_X5_tooMany (M : Mm) (a1 : Int32) : Option (Bool) :=
  (loop FU (fun a_1 => f_X5_tooMany_L4 M a1 a_1.1 a_1.2) (0, 0)).bind (fun e_1 => (f_J6_bitCount_0f7a4 M a1).bind (fun r2 => if r2 ≤ e_1 then (some false) else (some true)))
def rm_X5_anyTooMany : Room := rmz 2 44
def f_X5_anyTooMany_L4 (M : Mm) (v1 : Int32) (v3 : Int32) : Option (Int32 ⊕ ((Bool) ⊕ Unit)) :=
  if v1 < v3 then (some (.inr (.inr ()))) else (if (v3 &&& (v1 ^^^ (-1))) = 0 then ((f_X5_tooMany M v3).bind (fun r1 => if r1 = true then (some (.inr (.inl true))) else (some (.inl (v3 + 1))))) else (some (.inl (v3 + 1))))
def f_X5_anyTooMany (M : Mm) (a1 : Int32) (a2 : Int32) : Option (Bool) :=
  (loop FU (fun a_2 => f_X5_anyTooMany_L4 M a1 a_2) (1 <<< (a2 &&& 31))).bind (Sum.elim (fun v => some v) (fun e_2 => some false))
def rm_X5_ringAllFor : Room := rmz 1 21
def f_X5_ringAllFor_L2 (M : Mm) (v1 : Int32) (v2 : Int32) : Option (Int32 ⊕ ((Bool) ⊕ Unit)) :=
  if (gI M 87 2) ≤ v2 then (some (.inr (.inr ()))) else (if (t_X9_at M 88 v2) = 0 then (some (.inl (v2 + 1))) else (if ((t_X9_at M 88 v2) &&& v1) = 0 then (some (.inr (.inl false))) else (some (.inl (v2 + 1)))))
def f_X5_ringAllFor (M : Mm) (a1 : Int32) : Option (Bool) :=
  (loop FU (fun a_1 => f_X5_ringAllFor_L2 M a1 a_1) 0).bind (Sum.elim (fun v => some v) (fun e_1 => some true))
def rm_X5_fewestForAll : Room := rmz 2 44
def f_X5_fewestForAll_L9 (M : Mm) (v1 : Int32) (v2 : Int32) : Option ((Int32 × Int32) ⊕ Int32) :=
  if (gI M 87 4) ≤ v2 then (some (.inr v1)) else ((f_J6_bitCount_0f7a4 M v2).bind (fun r1 => (f_J6_bitCount_0f7a4 M v1).bind (fun r2 => if r2 ≤ r1 then (some (.inl (v1, (v2 + 1)))) else ((f_X5_ringAllFor M v2).bind (fun r3 => if r3 = true then (some (.inl (v2, (v2 + 1)))) else (some (.inl (v1, (v2 + 1)))))))))
def f_X5_fewestForAll (M : Mm)  : Option (Int32) :=
  (loop FU (fun a_4 => f_X5_fewestForAll_L9 M a_4.1 a_4.2) (((gI M 87 4) - 1), 0)).bind (fun e_4 => some e_4)
def rm_X5_fewestTooMany : Room := rmz 2 44
def f_X5_fewestTooMany_J4_32 (M : Mm) (v1 : Int32) (v2 : Int32) (t0 : Int32) : Option ((Int32 × Int32) ⊕ Int32) :=
  if t0 = 0 then (some (.inl (v1, (v2 + 1)))) else ((f_X5_tooMany M v2).bind (fun r1 => if r1 = true then (some (.inl (v2, (v2 + 1)))) else (some (.inl (v1, (v2 + 1))))))
def f_X5_fewestTooMany_J4_27 (M : Mm) (v1 : Int32) (v2 : Int32) : Option ((Int32 × Int32) ⊕ Int32) :=
  f_X5_fewestTooMany_J4_32 M v1 v2 1
def f_X5_fewestTooMany_L4 (M : Mm) (v1 : Int32) (v2 : Int32) : Option ((Int32 × Int32) ⊕ Int32) :=
  if (gI M 87 4) ≤ v2 then (some (.inr v1)) else (if v1 = 0 then (f_X5_fewestTooMany_J4_27 M v1 v2) else ((f_J6_bitCount_0f7a4 M v2).bind (fun r2 => (f_J6_bitCount_0f7a4 M v1).bind (fun r3 => if r3 ≤ r2 then (f_X5_fewestTooMany_J4_32 M v1 v2 0) else (f_X5_fewestTooMany_J4_27 M v1 v2)))))
def f_X5_fewestTooMany (M : Mm)  : Option (Int32) :=
  (loop FU (fun a_4 => f_X5_fewestTooMany_L4 M a_4.1 a_4.2) (0, 1)).bind (fun e_4 => some e_4)
def rm_X5_mostAtOnce : Room := rmz 3 67
def f_X5_mostAtOnce_L4 (M : Mm) (v1 : Int32) (v2 : Int32) : Option ((Int32 × Int32) ⊕ Int32) :=
  if (gI M 87 3) ≤ v2 then (some (.inr v1)) else ((some (v1 ||| (1 <<< (v2 &&& 31)))).bind (fun x1 => (f_X5_anyTooMany M x1 v2).bind (fun r2 => if r2 = true then (some (.inl (v1, (v2 + 1)))) else (some (.inl (x1, (v2 + 1)))))))
def f_X5_mostAtOnce (M : Mm)  : Option (Int32) :=
  (loop FU (fun a_3 => f_X5_mostAtOnce_L4 M a_3.1 a_3.2) (0, 0)).bind (fun e_3 => some e_3)
def rm_X5_take : Room := rmz 2 43
def f_X5_take_L28 (M : Mm) (v1 : Nat) (v3 : Int32) : Option ((Mm × Int32) ⊕ Mm) :=
  if (gI M 87 2) ≤ v3 then (some (.inr M)) else ((some (t_X9_put M 88 v3 (t_X9_at M 84 v3))).bind (fun M4 => (some (t_X9_put M4 89 v3 (f_X4_ofThing M4 v1 v3 2))).bind (fun M5 => some (.inl (M5, (v3 + 1))))))
def f_X5_take (M : Mm) (a1 : Nat) : Option (Mm) :=
  (some (sI M 87 2 (gI M a1 3))).bind (fun M1 => (some (sI M1 87 3 (gI M1 a1 4))).bind (fun M2 => (some (sI M2 87 4 (1 <<< ((gI M2 87 3) &&& 31)))).bind (fun M3 => (loop FU (fun a_6 => f_X5_take_L28 a_6.1 a1 a_6.2) (M3, 0)).bind (fun e_6 => some e_6))))
def rm_X6_envied : Room := rmz 2 43
def f_X6_envied_L4 (M : Mm) (v1 : Int32) (v2 : Int32) (v3 : Int32) : Option ((Int32 × Int32) ⊕ Int32) :=
  if 10 ≤ v3 then (some (.inr v2)) else (if (t_X9_at M 85 v3) = v1 then ((some (mx v2 (f_X6_likes M v1 v3))).bind (fun x1 => some (.inl (x1, (v3 + 1))))) else (some (.inl (v2, (v3 + 1)))))
def f_X6_envied_J44_82 (M : Mm) (v1 : Int32) (v2 : Int32) (v3 : Int32) (v4 : Int32) (t0 : Int32) : Option ((Int32 × Int32) ⊕ Int32) :=
  if t0 = 0 then (some (.inl (v3, (v4 + 1)))) else (if (f_X6_calls M v1 v4) = true then (if (f_X6_likes M v1 v4) ≤ v2 then (some (.inl (v3, (v4 + 1)))) else ((some (v3 ||| (1 <<< (v4 &&& 31)))).bind (fun x3 => some (.inl (x3, (v4 + 1)))))) else (some (.inl (v3, (v4 + 1)))))
def f_X6_envied_J44_81 (M : Mm) (v1 : Int32) (v2 : Int32) (v3 : Int32) (v4 : Int32) : Option ((Int32 × Int32) ⊕ Int32) :=
  f_X6_envied_J44_82 M v1 v2 v3 v4 0
def f_X6_envied_L44 (M : Mm) (v1 : Int32) (v2 : Int32) (v3 : Int32) (v4 : Int32) : Option ((Int32 × Int32) ⊕ Int32) :=
  if 10 ≤ v4 then (some (.inr v3)) else (if (t_X9_at M 85 v4) = (-1) then (f_X6_envied_J44_81 M v1 v2 v3 v4) else (if (t_X9_at M 85 v4) = v1 then (f_X6_envied_J44_81 M v1 v2 v3 v4) else (f_X6_envied_J44_82 M v1 v2 v3 v4 1)))
def f_X6_envied (M : Mm) (a1 : Int32) : Option (Int32) :=
  (loop FU (fun a_2 => f_X6_envied_L4 M a1 a_2.1 a_2.2) (0, 0)).bind (fun e_2 => (loop FU (fun a_4 => f_X6_envied_L44 M a1 e_2 a_4.1 a_4.2) (0, 0)).bind (fun e_4 => some e_4))
def rm_X6_firstToRing : Room := rmz 2 43
def f_X6_firstToRing_J9_95 (M : Mm) (v1 : Nat) (v2 : Int32) (v5 : Int32) (v6 : Int32) : Option ((Int32 × Int32 × Int32) ⊕ Int32) :=
  some (.inl (v5, v6, (v5 + 1)))
def f_X6_firstToRing_J9_81 (M : Mm) (v1 : Nat) (v2 : Int32) (v3 : Int32) (v4 : Int32) (v5 : Int32) (v6 : Int32) (t0 : Int32) : Option ((Int32 × Int32 × Int32) ⊕ Int32) :=
  if v6 < v4 then (f_X6_firstToRing_J9_95 M v1 v2 v5 v6) else (if t0 = 0 then (some (.inl (v3, v4, (v5 + 1)))) else (f_X6_firstToRing_J9_95 M v1 v2 v5 v6))
def f_X6_firstToRing_J9_80 (M : Mm) (v1 : Nat) (v2 : Int32) (v3 : Int32) (v4 : Int32) (v5 : Int32) (v6 : Int32) : Option ((Int32 × Int32 × Int32) ⊕ Int32) :=
  f_X6_firstToRing_J9_81 M v1 v2 v3 v4 v5 v6 0
def f_X6_firstToRing_L9 (M : Mm) (v1 : Nat) (v2 : Int32) (v3 : Int32) (v4 : Int32) (v5 : Int32) : Option ((Int32 × Int32 × Int32) ⊕ Int32) :=
  if (gI M v1 3) ≤ v5 then (some (.inr v3)) else (if (t_X9_at M 86 v5) ≤ 0 then (some (.inl (v3, v4, (v5 + 1)))) else (if (f_X6_calls M v5 v2) = true then ((some (t_X4_stepOf M v1 (f_X4_ofThing M v1 v5 0))).bind (fun x1 => if x1 = v4 then (if (f_X6_likes M v5 v2) ≤ (f_X6_likes M v3 v2) then (f_X6_firstToRing_J9_80 M v1 v2 v3 v4 v5 x1) else (f_X6_firstToRing_J9_81 M v1 v2 v3 v4 v5 x1 1)) else (f_X6_firstToRing_J9_80 M v1 v2 v3 v4 v5 x1))) else (some (.inl (v3, v4, (v5 + 1))))))
def f_X6_firstToRing (M : Mm) (a1 : Nat) (a2 : Int32) : Option (Int32) :=
  (loop FU (fun a_2 => f_X6_firstToRing_L9 M a1 a2 a_2.1 a_2.2.1 a_2.2.2) ((-1), 20, 0)).bind (fun e_2 => some e_2)
def rm_X6_hadAtAll : Room := rmz 1 21
def f_X6_hadAtAll_L4 (M : Mm) (v1 : Int32) (v2 : Int32) : Option ((Int32 × Int32) ⊕ Int32) :=
  if 10 ≤ v2 then (some (.inr v1)) else (if (t_X9_at M 85 v2) = (-1) then (some (.inl (v1, (v2 + 1)))) else ((some (v1 ||| (1 <<< (v2 &&& 31)))).bind (fun x1 => some (.inl (x1, (v2 + 1))))))
def f_X6_hadAtAll (M : Mm)  : Option (Int32) :=
  (loop FU (fun a_2 => f_X6_hadAtAll_L4 M a_2.1 a_2.2) (0, 0)).bind (fun e_2 => some e_2)
def rm_X6_hadBy : Room := rmz 1 21
def f_X6_hadBy_L4 (M : Mm) (v1 : Int32) (v2 : Int32) (v3 : Int32) : Option ((Int32 × Int32) ⊕ Int32) :=
  if 10 ≤ v3 then (some (.inr v2)) else (if (t_X9_at M 85 v3) = v1 then ((some (v2 ||| (1 <<< (v3 &&& 31)))).bind (fun x1 => some (.inl (x1, (v3 + 1))))) else (some (.inl (v2, (v3 + 1)))))
def f_X6_hadBy (M : Mm) (a1 : Int32) : Option (Int32) :=
  (loop FU (fun a_2 => f_X6_hadBy_L4 M a1 a_2.1 a_2.2) (0, 0)).bind (fun e_2 => some e_2)
def rm_X6_lead : Room := rmz 3 70
def f_X6_lead_L10 (M : Mm) (v1 : Nat) (v2 : Int32) (v3 : Int32) : Option ((Mm × Int32) ⊕ Mm) :=
  if (gI M v1 3) ≤ v3 then (some (.inr M)) else ((some (t_X9_put M 86 v3 (f_X4_ofThing M v1 v3 2))).bind (fun M2 => some (.inl (M2, (v3 + 1)))))
def f_X6_lead_J43_88 (M : Mm) (v1 : Nat) (v2 : Int32) (v3 : Int32) (v4 : Int32) (t0 : Int32) : Option ((Mm × Int32 × Int32) ⊕ (Mm × Int32)) :=
  if t0 = (-1) then (some (.inl (M, v3, (v4 + 1)))) else ((some (t_X9_put M 85 v4 t0)).bind (fun M5 => (some (t_X9_put M5 86 t0 ((t_X9_at M5 86 t0) - 1))).bind (fun M6 => some (.inl (M6, (v3 + 1), (v4 + 1))))))
def f_X6_lead_J43_70 (M : Mm) (v1 : Nat) (v2 : Int32) (v3 : Int32) (v4 : Int32) (t0 : Int32) : Option ((Mm × Int32 × Int32) ⊕ (Mm × Int32)) :=
  if t0 = 0 then ((f_X6_firstToRing M v1 v4).bind (fun r4 => f_X6_lead_J43_88 M v1 v2 v3 v4 r4)) else (f_X6_lead_J43_88 M v1 v2 v3 v4 (-1))
def f_X6_lead_J43_69 (M : Mm) (v1 : Nat) (v2 : Int32) (v3 : Int32) (v4 : Int32) : Option ((Mm × Int32 × Int32) ⊕ (Mm × Int32)) :=
  f_X6_lead_J43_70 M v1 v2 v3 v4 0
def f_X6_lead_L43 (M : Mm) (v1 : Nat) (v2 : Int32) (v3 : Int32) (v4 : Int32) : Option ((Mm × Int32 × Int32) ⊕ (Mm × Int32)) :=
  if (gI M v1 4) ≤ v4 then (some (.inr (M, v3))) else (if v2 = 0 then (f_X6_lead_J43_69 M v1 v2 v3 v4) else ((some (f_X4_drawsAway M v1 v4)).bind (fun rr8 => if rr8.1 = true then (f_X6_lead_J43_70 rr8.2 v1 v2 v3 v4 1) else (f_X6_lead_J43_69 rr8.2 v1 v2 v3 v4))))
def f_X6_lead (M : Mm) (a1 : Nat) (a2 : Int32) : Option (Int32 × Mm) :=
  (f_J7_fill_53178 M 85 (-1)).bind (fun M1 => (loop FU (fun a_3 => f_X6_lead_L10 a_3.1 a1 a2 a_3.2) (M1, 0)).bind (fun e_3 => (loop FU (fun a_9 => f_X6_lead_L43 a_9.1 a1 a2 a_9.2.1 a_9.2.2) (e_3, 0, 0)).bind (fun e_9 => some (e_9.2, e_9.1))))
def rm_X6_likedBy : Room := rmz 2 43
def f_X6_likedBy_L4 (M : Mm) (v1 : Int32) (v2 : Int32) (v3 : Int32) : Option ((Int32 × Int32) ⊕ Int32) :=
  if 10 ≤ v3 then (some (.inr v2)) else (if (t_X9_at M 85 v3) = v1 then ((some (v2 + (f_X6_likes M v1 v3))).bind (fun x1 => some (.inl (x1, (v3 + 1))))) else (some (.inl (v2, (v3 + 1)))))
def f_X6_likedBy (M : Mm) (a1 : Int32) : Option (Int32) :=
  (loop FU (fun a_2 => f_X6_likedBy_L4 M a1 a_2.1 a_2.2) (0, 0)).bind (fun e_2 => some e_2)
def rm_X6_listen : Room := rmz 3 65
def f_X6_listen_L15 (M : Mm) (v1 : Nat) (v2 : Int32) (v3 : Int32) (v4 : Int32) : Option ((Int32 × Int32) ⊕ Int32) :=
  if (gI M v1 4) ≤ v4 then (some (.inr v3)) else (if (f_X4_rings M v1 v2 (f_X6_likes M v2 v4)) = true then ((some (v3 ||| (1 <<< (v4 &&& 31)))).bind (fun x1 => some (.inl (x1, (v4 + 1))))) else (some (.inl (v3, (v4 + 1)))))
def f_X6_listen_L2 (M : Mm) (v1 : Nat) (v2 : Int32) : Option ((Mm × Int32) ⊕ Mm) :=
  if (gI M v1 3) ≤ v2 then (some (.inr M)) else ((loop FU (fun a_2 => f_X6_listen_L15 M v1 v2 a_2.1 a_2.2) (0, 0)).bind (fun e_2 => (some (t_X9_put M 84 v2 e_2)).bind (fun M3 => some (.inl (M3, (v2 + 1))))))
def f_X6_listen (M : Mm) (a1 : Nat) : Option (Mm) :=
  (loop FU (fun a_4 => f_X6_listen_L2 a_4.1 a1 a_4.2) (M, 0)).bind (fun e_4 => some e_4)
def rm_X6_weigh : Room := rmz 4 89
def f_X6_weigh_L13 (M : Mm) (v1 : Nat) (v2 : Nat) (v3 : Int32) (v4 : Int32) : Option ((Mm × Int32) ⊕ Mm) :=
  if (gI M v1 4) ≤ v4 then (some (.inr M)) else ((f_X2_weighs M v2 v1 v3 v4).bind (fun rr2 => (some (t_X9_put rr2.2 83 ((v3 * 10) + v4) rr2.1)).bind (fun M3 => some (.inl (M3, (v4 + 1))))))
def f_X6_weigh_L2 (M : Mm) (v1 : Nat) (v2 : Nat) (v3 : Int32) : Option ((Mm × Int32) ⊕ Mm) :=
  if (gI M v1 3) ≤ v3 then (some (.inr M)) else ((loop FU (fun a_4 => f_X6_weigh_L13 a_4.1 v1 v2 v3 a_4.2) (M, 0)).bind (fun e_4 => some (.inl (e_4, (v3 + 1)))))
def f_X6_weigh (M : Mm) (a1 : Nat) (a2 : Nat) : Option (Mm) :=
  (loop FU (fun a_5 => f_X6_weigh_L2 a_5.1 a1 a2 a_5.2) (M, 0)).bind (fun e_5 => (f_X6_listen e_5 a1).bind (fun M6 => some M6))
def rm_X6_passDay : Room := rmz 5 113
def f_X6_passDay_L17 (M : Mm) (v1 : Nat) (v4 : Int32) (v5 : Int32) : Option ((Mm × Int32) ⊕ Mm) :=
  if (gI M v1 4) ≤ v5 then (some (.inr M)) else (if (t_X9_at M 85 v5) = (-1) then (some (.inl (M, (v5 + 1)))) else ((f_X4_note M v1 v5 (t_X9_at M 85 v5) (f_X6_likes M (t_X9_at M 85 v5) v5)).bind (fun M4 => some (.inl (M4, (v5 + 1))))))
def f_X6_passDay_J68_123 (M : Mm) (v1 : Nat) (v4 : Int32) (v5 : Int32) (t0 : Int32) (t1 : Int32) (t2 : Int32) (t3 : Nat) : Option ((Mm × Int32) ⊕ Mm) :=
  (some (f_X4_setThing M t3 t2 t1 t0)).bind (fun M8 => some (.inl (M8, (v5 + 1))))
def f_X6_passDay_L68 (M : Mm) (v1 : Nat) (v4 : Int32) (v5 : Int32) : Option ((Mm × Int32) ⊕ Mm) :=
  if (gI M v1 3) ≤ v5 then (some (.inr M)) else (if (f_X4_ofThing M v1 v5 3) = 1 then ((some (mn ((f_X4_ofThing M v1 v5 4) + 1) 99)).bind (fun x6 => (f_X6_hadBy M v5).bind (fun r7 => if r7 = 0 then (f_X6_passDay_J68_123 M v1 v4 v5 x6 4 v5 v1) else (f_X6_passDay_J68_123 M v1 v4 v5 0 4 v5 v1)))) else (some (.inl (M, (v5 + 1)))))
def f_X6_passDay (M : Mm) (a1 : Nat) (a2 : Nat) (a3 : Int32) : Option (Int32 × Mm) :=
  (f_X6_weigh M a1 a2).bind (fun M1 => (f_X6_lead M1 a1 a3).bind (fun rr3 => (loop FU (fun a_5 => f_X6_passDay_L17 a_5.1 a1 rr3.1 a_5.2) (rr3.2, 0)).bind (fun e_5 => (loop FU (fun a_9 => f_X6_passDay_L68 a_9.1 a1 rr3.1 a_9.2) (e_5, 0)).bind (fun e_9 => (some (sI e_9 a1 7 ((gI e_9 a1 7) + 1))).bind (fun M10 => some (rr3.1, M10))))))
def rm_X9_needVisitor : Room := rmx 6 82 1 6
def f_X9_needVisitor_J15 (M : Mm)  : Option ((Mm ⊕ (Nat × Mm))) :=
  some (.inr (2, M))
def f_X9_needVisitor (M : Mm) (a1 : Int32) : Option (Mm ⊕ (Nat × Mm)) :=
  if a1 < 0 then (f_X9_needVisitor_J15 M ) else ((some (gR M 1 3)).bind (fun q1 => if kd q1 = 4 then (if a1 < (gI M q1 4) then (some (.inl M)) else (f_X9_needVisitor_J15 M )) else none))
def rm_X9_ringing : Room := rmz 3 81
def f_X9_ringing_L5 (M : Mm) (v1 : Nat) (v2 : Int32) (v3 : Int32) (v4 : Int32) : Option ((Mm × Int32 × Int32) ⊕ (Mm × Int32)) :=
  if (gI M v1 3) ≤ v4 then (some (.inr (M, v3))) else ((some (gR M 1 5)).bind (fun q1 => if kd q1 = 2 then ((f_X2_weighs M q1 v1 v4 v2).bind (fun rr3 => if (f_X4_rings rr3.2 v1 v4 rr3.1) = true then ((some (v3 ||| (1 <<< (v4 &&& 31)))).bind (fun x4 => some (.inl (rr3.2, x4, (v4 + 1))))) else (some (.inl (rr3.2, v3, (v4 + 1)))))) else none))
def f_X9_ringing (M : Mm) (a1 : Nat) (a2 : Int32) : Option (Int32 × Mm) :=
  (loop FU (fun a_5 => f_X9_ringing_L5 a_5.1 a1 a2 a_5.2.1 a_5.2.2) (M, 0, 0)).bind (fun e_5 => some (e_5.2, e_5.1))
def rm_X9_about : Room := rmx 7 221 2 12
def f_X9_about_J14 (M : Mm)  : Option (((Int32 × Mm) ⊕ (Nat × Mm))) :=
  some (.inr (4, M))
def f_X9_about_L64 (M : Mm) (v1 : Int32) (v3 : Int32) (v4 : Int32) (v5 : Int32) (v6 : Int32) (v7 : Int32) (v8 : Int32) : Option ((Mm × Int32 × Int32 × Int32 × Int32) ⊕ (Mm × Int32 × Int32 × Int32)) :=
  if 64 ≤ v8 then (some (.inr (M, v5, v6, v7))) else ((some (gR M 1 4)).bind (fun q7 => if kd q7 = 4 then ((some (f_X4_setVisitor M q7 v1 4 v8)).bind (fun M8 => (some (gR M8 1 4)).bind (fun q9 => if kd q9 = 4 then ((f_X9_ringing M8 q9 v1).bind (fun rr11 => if rr11.1 = v4 then (some (.inl (rr11.2, (v5 + 1), (v6 &&& v8), (v7 ||| v8), (v8 + 1)))) else (some (.inl (rr11.2, v5, v6, v7, (v8 + 1)))))) else none))) else none))
def f_X9_about (M : Mm) (a1 : Int32) (a2 : Int32) (a3 : Int32) : Option ((Int32 × Mm) ⊕ (Nat × Mm)) :=
  (f_X9_needVisitor M a1).bind (Sum.elim (fun e_0 => if a3 < 0 then (f_X9_about_J14 e_0 ) else (if a3 ≤ 2 then ((some (gR e_0 1 3)).bind (fun q2 => if kd q2 = 4 then ((some (a2 &&& ((1 <<< ((gI e_0 q2 3) &&& 31)) - 1))).bind (fun x3 => (some (gR e_0 1 4)).bind (fun q4 => if kd q4 = 4 then ((some (gR e_0 1 3)).bind (fun q5 => if kd q5 = 4 then ((f_X4_copyFrom e_0 q4 q5).bind (fun M6 => (loop FU (fun a_12 => f_X9_about_L64 a_12.1 a1 a3 x3 a_12.2.1 a_12.2.2.1 a_12.2.2.2.1 a_12.2.2.2.2) (M6, 0, 63, 0, 0)).bind (fun e_12 => if a3 = 0 then (some (.inl (e_12.2.1, e_12.1))) else (if e_12.2.1 = 0 then (some (.inl (e_12.2.1, e_12.1))) else (if a3 = 1 then (some (.inl (e_12.2.2.1, e_12.1))) else (some (.inl (e_12.2.2.2, e_12.1)))))))) else none)) else none))) else none)) else (f_X9_about_J14 e_0 ))) (fun q => some (.inr q)))
def rm_X9_needThing : Room := rmx 6 82 1 6
def f_X9_needThing_J15 (M : Mm)  : Option ((Mm ⊕ (Nat × Mm))) :=
  some (.inr (2, M))
def f_X9_needThing (M : Mm) (a1 : Int32) : Option (Mm ⊕ (Nat × Mm)) :=
  if a1 < 0 then (f_X9_needThing_J15 M ) else ((some (gR M 1 3)).bind (fun q1 => if kd q1 = 4 then (if a1 < (gI M q1 3) then (some (.inl M)) else (f_X9_needThing_J15 M )) else none))
def rm_X9_needDaysAhead : Room := rmx 6 82 1 6
def f_X9_needDaysAhead_J10 (M : Mm)  : Option ((Mm ⊕ (Nat × Mm))) :=
  some (.inr (1, M))
def f_X9_needDaysAhead (M : Mm) (a0 : Int32) : Option (Mm ⊕ (Nat × Mm)) :=
  if a0 < 0 then (f_X9_needDaysAhead_J10 M ) else (if a0 ≤ 30 then (some (.inl M)) else (f_X9_needDaysAhead_J10 M ))
def rm_X9_ahead : Room := rmx 7 221 3 18
def f_X9_ahead_J18 (M : Mm)  : Option (((Int32 × Mm) ⊕ (Nat × Mm))) :=
  some (.inr (4, M))
def f_X9_ahead_L43 (M : Mm) (v1 : Int32) (v2 : Int32) (v3 : Int32) (v4 : Int32) : Option ((Mm × Int32) ⊕ Mm) :=
  if v2 ≤ v4 then (some (.inr M)) else ((some (gR M 1 4)).bind (fun q6 => if kd q6 = 4 then ((some (gR M 1 5)).bind (fun q7 => if kd q7 = 2 then ((f_X6_passDay M q6 q7 0).bind (fun rr9 => some (.inl (rr9.2, (v4 + 1))))) else none)) else none))
def f_X9_ahead (M : Mm) (a1 : Int32) (a2 : Int32) (a3 : Int32) : Option ((Int32 × Mm) ⊕ (Nat × Mm)) :=
  (f_X9_needThing M a1).bind (Sum.elim (fun e_0 => (f_X9_needDaysAhead e_0 a2).bind (Sum.elim (fun e_1 => if a3 < 0 then (f_X9_ahead_J18 e_1 ) else (if a3 ≤ 1 then ((some (gR e_1 1 4)).bind (fun q3 => if kd q3 = 4 then ((some (gR e_1 1 3)).bind (fun q4 => if kd q4 = 4 then ((f_X4_copyFrom e_1 q3 q4).bind (fun M5 => (loop FU (fun a_10 => f_X9_ahead_L43 a_10.1 a1 a2 a3 a_10.2) (M5, 0)).bind (fun e_10 => if a3 = 0 then ((some (gR e_10 1 4)).bind (fun q12 => if kd q12 = 4 then (some (.inl ((f_X4_ofThing e_10 q12 a1 4), e_10))) else none)) else (if a2 = 0 then (some (.inl (0, e_10))) else ((f_X6_hadBy e_10 a1).bind (fun r11 => some (.inl (r11, e_10)))))))) else none)) else none)) else (f_X9_ahead_J18 e_1 ))) (fun q => some (.inr q)))) (fun q => some (.inr q)))
def rm_X9_alone : Room := rmz 5 113
def f_X9_alone_L19 (M : Mm) (v1 : Int32) (v2 : Int32) : Option ((Int32 × Int32) ⊕ Int32) :=
  (some (gR M 1 3)).bind (fun q4 => if kd q4 = 4 then (if (gI M q4 3) ≤ v2 then (some (.inr v1)) else (if (t_X9_at M 84 v2) = 0 then ((some (v1 ||| (1 <<< (v2 &&& 31)))).bind (fun x5 => some (.inl (x5, (v2 + 1))))) else (some (.inl (v1, (v2 + 1)))))) else none)
def f_X9_alone (M : Mm)  : Option (Int32 × Mm) :=
  (some (gR M 1 3)).bind (fun q1 => if kd q1 = 4 then ((some (gR M 1 5)).bind (fun q2 => if kd q2 = 2 then ((f_X6_weigh M q1 q2).bind (fun M3 => (loop FU (fun a_6 => f_X9_alone_L19 M3 a_6.1 a_6.2) (0, 0)).bind (fun e_6 => some (e_6, M3)))) else none)) else none)
def rm_X9_append : Room := rmz 1 22
def f_X9_append_L3 (M : Mm) (v1 : Int32) (v2 : Int32) : Option ((Mm × Int32) ⊕ Mm) :=
  if v2 < 0 then (some (.inr M)) else ((some (t_X9_put M 2 (gI M 1 1) ((iush v1 v2) &&& 255))).bind (fun M1 => (some (sI M1 1 1 ((gI M1 1 1) + 1))).bind (fun M2 => some (.inl (M2, (v2 + (-8)))))))
def f_X9_append (M : Mm) (a1 : Int32) : Option (Mm) :=
  (loop FU (fun a_3 => f_X9_append_L3 a_3.1 a1 a_3.2) (M, 24)).bind (fun e_3 => some e_3)
def rm_X9_back : Room := rmz 2 221
def f_X9_back (M : Mm)  : Option (Bool × Mm) :=
  if (gI M 1 9) = 0 then (some (false, M)) else ((some (gR M 1 3)).bind (fun q1 => if kd q1 = 4 then ((f_X4_copyFrom M q1 60).bind (fun M2 => (some (gR M2 1 5)).bind (fun q3 => if kd q3 = 2 then ((f_X2_copyFrom M2 q3 76).bind (fun M4 => (some (sI M4 1 11 0)).bind (fun M5 => some (true, M5)))) else none))) else none))
def rm_X9_pairUp : Room := rmz 5 113
def f_X9_pairUp (M : Mm)  : Option (Mm) :=
  (some (gR M 1 3)).bind (fun q1 => if kd q1 = 4 then ((some (gR M 1 5)).bind (fun q2 => if kd q2 = 2 then ((f_X6_weigh M q1 q2).bind (fun M3 => (some (gR M3 1 3)).bind (fun q4 => if kd q4 = 4 then ((f_X5_take M3 q4).bind (fun M5 => some M5)) else none))) else none)) else none)
def rm_X9_cannot : Room := rmz 6 133
def f_X9_cannot (M : Mm)  : Option (Int32 × Mm) :=
  (f_X9_pairUp M ).bind (fun M1 => (f_X5_fewestTooMany M1 ).bind (fun r2 => some (r2, M1)))
def rm_X9_tomorrow : Room := rmz 5 113
def f_X9_tomorrow (M : Mm) (a1 : Nat) : Option (Int32 × Mm) :=
  (some (gR M 1 5)).bind (fun q1 => if kd q1 = 2 then ((f_X6_weigh M a1 q1).bind (fun M2 => (f_X6_lead M2 a1 0).bind (fun rr4 => some (rr4.1, rr4.2)))) else none)
def rm_X9_change : Room := rmz 6 221
def f_X9_change_L43 (M : Mm) (v1 : Int32) (v2 : Int32) (v3 : Int32) (v4 : Int32) (v5 : Int32) : Option ((Mm × Int32 × Int32 × Int32) ⊕ (Mm × Int32 × Int32)) :=
  (some (gR M 1 3)).bind (fun q8 => if kd q8 = 4 then (if (gI M q8 3) ≤ v5 then (some (.inr (M, v2, v3))) else ((some (gR M 1 4)).bind (fun q9 => if kd q9 = 4 then ((f_X4_swapCells M q9 v4 v5).bind (fun M10 => (some (gR M10 1 4)).bind (fun q11 => if kd q11 = 4 then ((f_X9_tomorrow M10 q11).bind (fun rr13 => (some (gR rr13.2 1 4)).bind (fun q14 => if kd q14 = 4 then ((f_X4_swapCells rr13.2 q14 v4 v5).bind (fun M15 => if rr13.1 ≤ v2 then (some (.inl (M15, v2, v3, (v5 + 1)))) else (some (.inl (M15, rr13.1, ((10 * v4) + v5), (v5 + 1)))))) else none))) else none))) else none))) else none)
def f_X9_change_L25 (M : Mm) (v1 : Int32) (v2 : Int32) (v3 : Int32) (v4 : Int32) : Option ((Mm × Int32 × Int32 × Int32) ⊕ (Mm × Int32 × Int32)) :=
  (some (gR M 1 3)).bind (fun q7 => if kd q7 = 4 then (if (gI M q7 3) ≤ v4 then (some (.inr (M, v2, v3))) else ((loop FU (fun a_16 => f_X9_change_L43 a_16.1 v1 a_16.2.1 a_16.2.2.1 v4 a_16.2.2.2) (M, v2, v3, (v4 + 1))).bind (fun e_16 => some (.inl (e_16.1, e_16.2.1, e_16.2.2, (v4 + 1)))))) else none)
def f_X9_change (M : Mm) (a1 : Int32) : Option (Int32 × Mm) :=
  (some (gR M 1 3)).bind (fun q1 => if kd q1 = 4 then ((f_X9_tomorrow M q1).bind (fun rr3 => (some (gR rr3.2 1 4)).bind (fun q4 => if kd q4 = 4 then ((some (gR rr3.2 1 3)).bind (fun q5 => if kd q5 = 4 then ((f_X4_copyFrom rr3.2 q4 q5).bind (fun M6 => (loop FU (fun a_17 => f_X9_change_L25 a_17.1 a1 a_17.2.1 a_17.2.2.1 a_17.2.2.2) (M6, rr3.1, (-1), 0)).bind (fun e_17 => if a1 = 0 then (some (e_17.2.2, e_17.1)) else (some (e_17.2.1, e_17.1))))) else none)) else none))) else none)
def rm_X9_forgetOldest : Room := rmz 0 0
def f_X9_forgetOldest_L9 (M : Mm) (v1 : Nat) (v2 : Int32) : Option ((Mm × Int32) ⊕ Mm) :=
  if 12 ≤ v2 then (some (.inr M)) else (if ibs v2 12 = true then (some (gE M 3 v2)).bind (fun q2 => if kd q2 = 4 then (if ibs (v2 - 1) 12 = true then (some (sE M 3 (v2 - 1) q2)).bind (fun M3 => some (.inl (M3, (v2 + 1)))) else none) else none) else none)
def f_X9_forgetOldest (M : Mm)  : Option (Mm) :=
  if ibs 0 12 = true then (some (gE M 3 0)).bind (fun q1 => if kd q1 = 4 then ((loop FU (fun a_4 => f_X9_forgetOldest_L9 a_4.1 q1 a_4.2) (M, 1)).bind (fun e_4 => if ibs (12 - 1) 12 = true then (some (sE e_4 3 (12 - 1) q1)).bind (fun M5 => (some (sI M5 1 11 (12 - 1))).bind (fun M6 => some M6)) else none)) else none) else none
def rm_X9_remember : Room := rmz 2 221
def f_X9_remember_J16 (M : Mm)  : Option (Mm) :=
  if (gI M 1 11) < 0 then (some M) else (if 12 ≤ (gI M 1 11) then (some M) else (if ibs (gI M 1 11) 12 = true then (some (gE M 3 (gI M 1 11))).bind (fun q1 => if kd q1 = 4 then ((some (gR M 1 3)).bind (fun q2 => if kd q2 = 4 then ((f_X4_copyFrom M q1 q2).bind (fun M3 => (some (sI M3 1 11 ((gI M3 1 11) + 1))).bind (fun M4 => some M4))) else none)) else none) else none))
def f_X9_remember (M : Mm)  : Option (Mm) :=
  if (gI M 1 11) < 12 then (f_X9_remember_J16 M ) else ((f_X9_forgetOldest M ).bind (fun M5 => f_X9_remember_J16 M5 ))
def rm_X9_clean : Room := rmx 7 241 2 12
def f_X9_clean_J15 (M : Mm)  : Option (((Int32 × Mm) ⊕ (Nat × Mm))) :=
  some (.inr (1, M))
def f_X9_clean (M : Mm) (a1 : Int32) (a2 : Int32) : Option ((Int32 × Mm) ⊕ (Nat × Mm)) :=
  (f_X9_needVisitor M a1).bind (Sum.elim (fun e_0 => if a2 < 0 then (f_X9_clean_J15 e_0 ) else (if a2 < 10 then ((f_X9_remember e_0 ).bind (fun M2 => (some (gR M2 1 3)).bind (fun q3 => if kd q3 = 4 then ((some (f_X4_ofVisitor M2 q3 a1 1)).bind (fun x4 => (some (gR M2 1 3)).bind (fun q5 => if kd q5 = 4 then ((some (f_X4_setVisitor M2 q5 a1 1 a2)).bind (fun M6 => some (.inl (x4, M6)))) else none))) else none))) else (f_X9_clean_J15 e_0 ))) (fun q => some (.inr q)))
def rm_X9_comes : Room := rmx 7 221 1 6
def f_X9_comes_L18 (M : Mm) (v1 : Int32) (v2 : Int32) : Option ((Mm × Int32) ⊕ ((((Int32 × Mm) ⊕ (Nat × Mm))) ⊕ Mm)) :=
  if 30 < v2 then (some (.inr (.inr M))) else ((some (gR M 1 4)).bind (fun q5 => if kd q5 = 4 then ((some (gR M 1 5)).bind (fun q6 => if kd q6 = 2 then ((f_X6_passDay M q5 q6 0).bind (fun rr8 => (f_X6_hadBy rr8.2 v1).bind (fun r9 => if r9 = 0 then (some (.inl (rr8.2, (v2 + 1)))) else (some (.inr (.inl (.inl (v2, rr8.2)))))))) else none)) else none))
def f_X9_comes (M : Mm) (a1 : Int32) : Option ((Int32 × Mm) ⊕ (Nat × Mm)) :=
  (f_X9_needThing M a1).bind (Sum.elim (fun e_0 => (some (gR e_0 1 4)).bind (fun q2 => if kd q2 = 4 then ((some (gR e_0 1 3)).bind (fun q3 => if kd q3 = 4 then ((f_X4_copyFrom e_0 q2 q3).bind (fun M4 => (loop FU (fun a_10 => f_X9_comes_L18 a_10.1 a1 a_10.2) (M4, 1)).bind (Sum.elim (fun v => some v) (fun e_10 => some (.inl ((-1), e_10)))))) else none)) else none)) (fun q => some (.inr q)))
def rm_X9_count : Room := rmz 3 66
def f_X9_count (M : Mm) (a1 : Int32) : Option (Int32) :=
  if a1 = 0 then ((some (gR M 1 3)).bind (fun q1 => if kd q1 = 4 then (some (gI M q1 3)) else none)) else (if a1 = 1 then ((some (gR M 1 3)).bind (fun q2 => if kd q2 = 4 then (some (gI M q2 4)) else none)) else (if a1 = 2 then ((some (gR M 1 3)).bind (fun q3 => if kd q3 = 4 then (some (gI M q3 5)) else none)) else (if a1 = 3 then ((some (gR M 1 5)).bind (fun q4 => if kd q4 = 2 then (some (gI M q4 6)) else none)) else (if a1 = 4 then ((some (gR M 1 3)).bind (fun q5 => if kd q5 = 4 then (some (gI M q5 7)) else none)) else (if a1 = 5 then ((some (gR M 1 3)).bind (fun q6 => if kd q6 = 4 then (some (gI M q6 6)) else none)) else (if a1 = 6 then ((some (gR M 1 3)).bind (fun q7 => if kd q7 = 4 then ((f_X4_shownThings M q7).bind (fun r8 => some r8)) else none)) else (if a1 = 7 then ((some (gR M 1 3)).bind (fun q9 => if kd q9 = 4 then ((f_X4_sumOfThings M q9 4).bind (fun r10 => some r10)) else none)) else (if a1 = 8 then ((some (gR M 1 3)).bind (fun q11 => if kd q11 = 4 then ((f_X4_sumOfThings M q11 2).bind (fun r12 => some r12)) else none)) else (if a1 = 9 then ((some (gR M 1 3)).bind (fun q13 => if kd q13 = 4 then (some (gI M q13 9)) else none)) else (if a1 = 10 then ((some (gR M 1 3)).bind (fun q14 => if kd q14 = 4 then (some (f_X4_logRows M q14)) else none)) else (if a1 = 11 then (some (gI M 1 11)) else (some (-1)))))))))))))
def rm_X9_passDays : Room := rmz 6 139
def f_X9_passDays_L5 (M : Mm) (v1 : Nat) (v2 : Int32) (v3 : Int32) (v4 : Int32) : Option ((Mm × Int32 × Int32) ⊕ (Mm × Int32)) :=
  if v2 ≤ v4 then (some (.inr (M, v3))) else ((some (gR M 1 5)).bind (fun q1 => if kd q1 = 2 then ((f_X6_passDay M v1 q1 1).bind (fun rr3 => some (.inl (rr3.2, (v3 + rr3.1), (v4 + 1))))) else none))
def f_X9_passDays (M : Mm) (a1 : Nat) (a2 : Int32) : Option (Int32 × Mm) :=
  (loop FU (fun a_4 => f_X9_passDays_L5 a_4.1 a1 a2 a_4.2.1 a_4.2.2) (M, 0, 0)).bind (fun e_4 => some (e_4.2, e_4.1))
def rm_X9_days : Room := rmx 7 241 1 6
def f_X9_days_J11 (M : Mm)  : Option (((Int32 × Mm) ⊕ (Nat × Mm))) :=
  some (.inr (1, M))
def f_X9_days (M : Mm) (a1 : Int32) : Option ((Int32 × Mm) ⊕ (Nat × Mm)) :=
  if a1 < 1 then (f_X9_days_J11 M ) else (if a1 ≤ 50 then ((f_X9_remember M ).bind (fun M1 => (some (gR M1 1 3)).bind (fun q2 => if kd q2 = 4 then ((f_X9_passDays M1 q2 a1).bind (fun rr4 => some (.inl (rr4.1, rr4.2)))) else none))) else (f_X9_days_J11 M ))
def rm_X9_dearest : Room := rmx 7 120 1 6
def f_X9_dearest_J10 (M : Mm) (v1 : Int32) : Option (((Int32 × Mm) ⊕ (Nat × Mm))) :=
  (some (gR M 1 3)).bind (fun q1 => if kd q1 = 4 then ((some (gR M 1 5)).bind (fun q2 => if kd q2 = 2 then ((f_X6_weigh M q1 q2).bind (fun M3 => (some (gR M3 1 3)).bind (fun q4 => if kd q4 = 4 then ((f_X0_find M3 q4).bind (fun M5 => if v1 = (-1) then ((f_X0_sum M5 ).bind (fun r6 => some (.inl (r6, M5)))) else (some (.inl ((t_X9_at M5 92 v1), M5))))) else none))) else none)) else none)
def f_X9_dearest (M : Mm) (a1 : Int32) : Option ((Int32 × Mm) ⊕ (Nat × Mm)) :=
  if a1 = (-1) then (f_X9_dearest_J10 M a1) else ((f_X9_needVisitor M a1).bind (Sum.elim (fun e_6 => f_X9_dearest_J10 e_6 a1) (fun q => some (.inr q))))
def rm_X9_end : Room := rmz 0 0
def f_X9_end (M : Mm) (a1 : Int32) : Bool × Mm :=
  if a1 < 0 then ((false, M)) else (if a1 ≤ (gI M 1 1) then ((true, (sI M 1 1 a1))) else ((false, M)))
def rm_X9_fault : Room := rmz 0 0
def f_X9_fault (M : Mm)  : Int32 :=
  (gI M 1 2)
def rm_X9_feed : Room := rmz 2 44
def f_X9_feed (M : Mm) (a1 : Int32) (a2 : Int32) (a3 : Int32) (a4 : Int32) (a5 : Int32) : Option (Int32 × Mm) :=
  if ((gI M 1 1) + 20) ≤ 400 then ((f_X9_append M a1).bind (fun M1 => (f_X9_append M1 a2).bind (fun M2 => (f_X9_append M2 a3).bind (fun M3 => (f_X9_append M3 a4).bind (fun M4 => (f_X9_append M4 a5).bind (fun M5 => some ((gI M5 1 1), M5))))))) else (some ((-1), M))
def rm_X9_fewest : Room := rmz 6 133
def f_X9_fewest (M : Mm)  : Option (Int32 × Mm) :=
  (f_X9_pairUp M ).bind (fun M1 => (f_X5_fewestForAll M1 ).bind (fun r2 => some (r2, M1)))
def rm_X9_first : Room := rmz 6 134
def f_X9_first_L11 (M : Mm) (v1 : Int32) : Option (Int32 ⊕ ((Int32 × Mm) ⊕ Unit)) :=
  if 20 ≤ v1 then (some (.inr (.inr ()))) else ((some (gR M 1 3)).bind (fun q4 => if kd q4 = 4 then ((f_X4_thingAt M q4 v1).bind (fun r5 => if r5 = (-1) then (some (.inl (v1 + 1))) else ((some (gR M 1 3)).bind (fun q6 => if kd q6 = 4 then (if (f_X4_ofThing M q6 r5 3) = 1 then ((f_X6_hadBy M r5).bind (fun r7 => if r7 = 0 then (some (.inr (.inl (r5, M)))) else (some (.inl (v1 + 1))))) else (some (.inl (v1 + 1)))) else none)))) else none))
def f_X9_first (M : Mm)  : Option (Int32 × Mm) :=
  (some (gR M 1 3)).bind (fun q1 => if kd q1 = 4 then ((f_X9_tomorrow M q1).bind (fun rr3 => (loop FU (fun a_8 => f_X9_first_L11 rr3.2 a_8) 0).bind (Sum.elim (fun v => some v) (fun e_8 => some ((-1), rr3.2))))) else none)
def rm_X9_setsWithin : Room := rmz 0 0
def f_X9_setsWithin_L4 (M : Mm) (v0 : Int32) (v1 : Int64) (v3 : Int32) : Option ((Int64 × Int32) ⊕ Int64) :=
  if 64 ≤ v3 then (some (.inr v1)) else (if (v3 &&& (v0 ^^^ (-1))) = 0 then (some (.inl ((v1 ||| (lsh 1 v3)), (v3 + 1)))) else (some (.inl (v1, (v3 + 1)))))
def f_X9_setsWithin (M : Mm) (a0 : Int32) : Option (Int64) :=
  (loop FU (fun a_1 => f_X9_setsWithin_L4 M a0 a_1.1 a_1.2) (0, 0)).bind (fun e_1 => some e_1)
def rm_X9_fittingSets : Room := rmz 2 43
def f_X9_fittingSets_L7 (M : Mm) (v1 : Int32) (v2 : Int64) (v4 : Int32) : Option ((Int64 × Int32) ⊕ Int64) :=
  if v1 ≤ v4 then (some (.inr v2)) else ((some (gR M 1 3)).bind (fun q1 => if kd q1 = 4 then ((f_X9_setsWithin M (f_X4_ofVisitor M q1 (t_X9_at M 2 v4) 4)).bind (fun r2 => if (t_X9_at M 2 (v4 + 1)) = 1 then (some (.inl ((v2 &&& r2), (v4 + 2)))) else (some (.inl ((v2 &&& (r2 ^^^ (-1))), (v4 + 2)))))) else none))
def f_X9_fittingSets (M : Mm) (a1 : Int32) : Option (Int64) :=
  (loop FU (fun a_3 => f_X9_fittingSets_L7 M a1 a_3.1 a_3.2) ((-1), 0)).bind (fun e_3 => some e_3)
def rm_X9_group : Room := rmx 6 134 1 6
def f_X9_group_J10 (M : Mm)  : Option (((Int32 × Mm) ⊕ (Nat × Mm))) :=
  some (.inr (2, M))
def f_X9_group_J38_93 (M : Mm) (v1 : Int32) (v2 : Int32) (v4 : Int32) (v5 : Int32) (v6 : Int32) (t0 : Int32) (t1 : Int32) : Option ((Int32 × Int32 × Int32) ⊕ (Int32 × Int32)) :=
  if v6 = (-1) then ((some (v4 ||| (1 <<< (v5 &&& 31)))).bind (fun x6 => some (.inl ((t1 ||| t0), x6, (v5 + 1))))) else (some (.inl ((t1 ||| t0), (v4 ||| 0), (v5 + 1))))
def f_X9_group_L38 (M : Mm) (v1 : Int32) (v2 : Int32) (v3 : Int32) (v4 : Int32) (v5 : Int32) : Option ((Int32 × Int32 × Int32) ⊕ (Int32 × Int32)) :=
  (some (gR M 1 3)).bind (fun q4 => if kd q4 = 4 then (if (gI M q4 4) ≤ v5 then (some (.inr (v3, v4))) else ((some (gR M 1 3)).bind (fun q5 => if kd q5 = 4 then (if (f_X4_ofVisitor M q5 v5 2) = v1 then (if (t_X9_at M 85 v5) = (-1) then (f_X9_group_J38_93 M v1 v2 v4 v5 (t_X9_at M 85 v5) 0 v3) else (f_X9_group_J38_93 M v1 v2 v4 v5 (t_X9_at M 85 v5) (1 <<< ((t_X9_at M 85 v5) &&& 31)) v3)) else (some (.inl (v3, v4, (v5 + 1))))) else none))) else none)
def f_X9_group (M : Mm) (a1 : Int32) (a2 : Int32) : Option ((Int32 × Mm) ⊕ (Nat × Mm)) :=
  if a1 < 0 then (f_X9_group_J10 M ) else (if a1 < 10 then ((some (gR M 1 3)).bind (fun q1 => if kd q1 = 4 then ((f_X9_tomorrow M q1).bind (fun rr3 => (loop FU (fun a_7 => f_X9_group_L38 rr3.2 a1 a2 a_7.1 a_7.2.1 a_7.2.2) (0, 0, 0)).bind (fun e_7 => if a2 = 0 then (some (.inl (e_7.1, rr3.2))) else (some (.inl (e_7.2, rr3.2)))))) else none)) else (f_X9_group_J10 M ))
def rm_X9_had : Room := rmz 6 134
def f_X9_had (M : Mm)  : Option (Int32 × Mm) :=
  (some (gR M 1 3)).bind (fun q1 => if kd q1 = 4 then ((f_X9_tomorrow M q1).bind (fun rr3 => (f_X6_hadAtAll rr3.2 ).bind (fun r4 => some (r4, rr3.2)))) else none)
def rm_X9_useTapeUp : Room := rmz 0 0
def f_X9_useTapeUp (M : Mm)  : Int32 × Mm :=
  ((gI M 1 1), (sI M 1 1 0))
def rm_X9_hall : Room := rmx 9 221 1 6
def f_X9_hall (M : Mm)  : Option ((Int32 × Mm) ⊕ (Nat × Mm)) :=
  (some (gR M 1 4)).bind (fun q1 => if kd q1 = 4 then ((some (gR M 1 3)).bind (fun q2 => if kd q2 = 4 then ((f_X4_copyFrom M q1 q2).bind (fun M3 => (some (gR M3 1 4)).bind (fun q4 => if kd q4 = 4 then ((some (f_X9_useTapeUp M3 )).bind (fun rr6 => (f_X1_readInto rr6.2 q4 2 rr6.1).bind (fun rr8 => (some (sI rr8.2 1 2 (gI rr8.2 98 8))).bind (fun M9 => if rr8.1 = true then ((some (gR M9 1 3)).bind (fun q10 => if kd q10 = 4 then (if (gI M9 q10 5) < 12 then ((some (gR M9 1 3)).bind (fun q11 => if kd q11 = 4 then ((some (gR M9 1 4)).bind (fun q12 => if kd q12 = 4 then ((some (sR M9 1 3 q12)).bind (fun M13 => (some (sR M13 1 4 q11)).bind (fun M14 => (some (gR M14 1 3)).bind (fun q15 => if kd q15 = 4 then ((some (sI M14 q15 5 ((gI M14 q15 5) + 1))).bind (fun M16 => (some (sI M16 1 11 0)).bind (fun M17 => (some (gR M17 1 3)).bind (fun q18 => if kd q18 = 4 then (some (.inl ((gI M17 q18 5), M17))) else none)))) else none)))) else none)) else none)) else (some (.inr (3, M9)))) else none)) else (some (.inr (1, M9))))))) else none))) else none)) else none)
def rm_X9_hold : Room := rmx 7 241 2 12
def f_X9_hold_J15 (M : Mm)  : Option (((Int32 × Mm) ⊕ (Nat × Mm))) :=
  some (.inr (1, M))
def f_X9_hold (M : Mm) (a1 : Int32) (a2 : Int32) : Option ((Int32 × Mm) ⊕ (Nat × Mm)) :=
  (f_X9_needThing M a1).bind (Sum.elim (fun e_0 => if a2 < 0 then (f_X9_hold_J15 e_0 ) else (if a2 < 100 then ((f_X9_remember e_0 ).bind (fun M2 => (some (gR M2 1 3)).bind (fun q3 => if kd q3 = 4 then ((some (f_X4_ofThing M2 q3 a1 1)).bind (fun x4 => (some (gR M2 1 3)).bind (fun q5 => if kd q5 = 4 then ((some (f_X4_setThing M2 q5 a1 1 a2)).bind (fun M6 => some (.inl (x4, M6)))) else none))) else none))) else (f_X9_hold_J15 e_0 ))) (fun q => some (.inr q)))
def rm_X9_image : Room := rmz 2 221
def f_X9_image (M : Mm)  : Option (Mm) :=
  (some (gR M 1 3)).bind (fun q1 => if kd q1 = 4 then ((f_X4_copyFrom M 60 q1).bind (fun M2 => (some (gR M2 1 5)).bind (fun q3 => if kd q3 = 2 then ((f_X2_copyFrom M2 76 q3).bind (fun M4 => (some (sI M4 1 9 1)).bind (fun M5 => some M5))) else none))) else none)
def rm_X9_last : Room := rmx 7 221 1 6
def f_X9_last_L24 (M : Mm) (v1 : Int32) (v2 : Int32) (v3 : Int32) (v4 : Int32) (v5 : Int32) : Option ((Mm × Int32 × Int32 × Int32) ⊕ (Mm × Int32 × Int32)) :=
  if 30 < v5 then (some (.inr (M, v3, v4))) else ((some (gR M 1 4)).bind (fun q5 => if kd q5 = 4 then ((some (gR M 1 5)).bind (fun q6 => if kd q6 = 2 then ((f_X6_passDay M q5 q6 0).bind (fun rr8 => if (t_X9_at rr8.2 85 v1) = (-1) then (some (.inl (rr8.2, v3, (v4 + 1), (v5 + 1)))) else (if v3 = (-1) then (some (.inl (rr8.2, v5, v4, (v5 + 1)))) else (some (.inl (rr8.2, v3, v4, (v5 + 1))))))) else none)) else none))
def f_X9_last (M : Mm) (a1 : Int32) (a2 : Int32) : Option ((Int32 × Mm) ⊕ (Nat × Mm)) :=
  (f_X9_needVisitor M a1).bind (Sum.elim (fun e_0 => (some (gR e_0 1 4)).bind (fun q2 => if kd q2 = 4 then ((some (gR e_0 1 3)).bind (fun q3 => if kd q3 = 4 then ((f_X4_copyFrom e_0 q2 q3).bind (fun M4 => (loop FU (fun a_9 => f_X9_last_L24 a_9.1 a1 a2 a_9.2.1 a_9.2.2.1 a_9.2.2.2) (M4, (-1), 0, 1)).bind (fun e_9 => if a2 = 0 then (some (.inl (e_9.2.1, e_9.1))) else (some (.inl (e_9.2.2, e_9.1)))))) else none)) else none)) (fun q => some (.inr q)))
def rm_X9_law : Room := rmx 9 219 1 6
def f_X9_law (M : Mm)  : Option ((Int32 × Mm) ⊕ (Nat × Mm)) :=
  (some (gR M 1 6)).bind (fun q1 => if kd q1 = 2 then ((some (f_X9_useTapeUp M )).bind (fun rr3 => (f_X3_readInto rr3.2 q1 2 rr3.1).bind (fun rr5 => (some (sI rr5.2 1 2 (gI rr5.2 104 8))).bind (fun M6 => if rr5.1 = true then ((some (gR M6 1 5)).bind (fun q7 => if kd q7 = 2 then ((some (gR M6 1 6)).bind (fun q8 => if kd q8 = 2 then ((some (sR M6 1 5 q8)).bind (fun M9 => (some (sR M9 1 6 q7)).bind (fun M10 => (some (sI M10 1 11 0)).bind (fun M11 => (some (gR M11 1 5)).bind (fun q12 => if kd q12 = 2 then (some (.inl ((gI M11 q12 6), M11))) else none))))) else none)) else none)) else (some (.inr (1, M6))))))) else none)
def rm_X9_led : Room := rmx 7 103 1 6
def f_X9_led_L16 (M : Mm) (v1 : Int32) (v2 : Int32) (v3 : Int32) (v4 : Int32) (v5 : Int32) (v6 : Int32) : Option ((Int32 × Int32 × Int32 × Int32) ⊕ (Int32 × Int32)) :=
  if 10 ≤ v6 then (some (.inr (v3, v4))) else ((some (gR M 1 3)).bind (fun q2 => if kd q2 = 4 then ((f_X4_timesLed M q2 v6 v1).bind (fun r3 => if r3 ≤ v5 then (some (.inl ((v3 + r3), v4, v5, (v6 + 1)))) else (some (.inl ((v3 + r3), v6, r3, (v6 + 1)))))) else none))
def f_X9_led (M : Mm) (a1 : Int32) (a2 : Int32) : Option ((Int32 × Mm) ⊕ (Nat × Mm)) :=
  (f_X9_needThing M a1).bind (Sum.elim (fun e_0 => (loop FU (fun a_4 => f_X9_led_L16 e_0 a1 a2 a_4.1 a_4.2.1 a_4.2.2.1 a_4.2.2.2) (0, (-1), 0, 0)).bind (fun e_4 => if a2 = 0 then (some (.inl (e_4.1, e_0))) else (some (.inl (e_4.2, e_0))))) (fun q => some (.inr q)))
def rm_X9_liking : Room := rmx 7 103 2 12
def f_X9_liking (M : Mm) (a1 : Int32) (a2 : Int32) : Option ((Int32 × Mm) ⊕ (Nat × Mm)) :=
  (f_X9_needThing M a1).bind (Sum.elim (fun e_0 => (f_X9_needVisitor e_0 a2).bind (Sum.elim (fun e_1 => (some (gR e_1 1 5)).bind (fun q3 => if kd q3 = 2 then ((some (gR e_1 1 3)).bind (fun q4 => if kd q4 = 4 then ((f_X2_weighs e_1 q3 q4 a1 a2).bind (fun rr6 => some (.inl (rr6.1, rr6.2)))) else none)) else none)) (fun q => some (.inr q)))) (fun q => some (.inr q)))
def rm_X9_log : Room := rmx 6 82 1 6
def f_X9_log_J9 (M : Mm)  : Option (((Int32 × Mm) ⊕ (Nat × Mm))) :=
  some (.inr (4, M))
def f_X9_log_J35 (M : Mm)  : Option (((Int32 × Mm) ⊕ (Nat × Mm))) :=
  some (.inl ((-1), M))
def f_X9_log (M : Mm) (a1 : Int32) (a2 : Int32) : Option ((Int32 × Mm) ⊕ (Nat × Mm)) :=
  if a2 < 0 then (f_X9_log_J9 M ) else (if a2 < 5 then (if a1 < 0 then (f_X9_log_J35 M ) else ((some (gR M 1 3)).bind (fun q1 => if kd q1 = 4 then (if a1 < (f_X4_logRows M q1) then ((some (gR M 1 3)).bind (fun q2 => if kd q2 = 4 then (some (.inl ((f_X4_logged M q2 a1 a2), M))) else none)) else (f_X9_log_J35 M )) else none))) else (f_X9_log_J9 M ))
def rm_X9_mark : Room := rmx 7 241 2 12
def f_X9_mark_J15 (M : Mm)  : Option (((Bool × Mm) ⊕ (Nat × Mm))) :=
  some (.inr (2, M))
def f_X9_mark_J61 (M : Mm) (v1 : Int32) (v4 : Int32) (t0 : Int32) : Option (((Bool × Mm) ⊕ (Nat × Mm))) :=
  (some (gR M 1 3)).bind (fun q5 => if kd q5 = 4 then ((some (f_X4_setVisitor M q5 v1 4 t0)).bind (fun M6 => if t0 = v4 then (some (.inl (false, M6))) else (some (.inl (true, M6))))) else none)
def f_X9_mark (M : Mm) (a1 : Int32) (a2 : Int32) (a3 : Int32) : Option ((Bool × Mm) ⊕ (Nat × Mm)) :=
  (f_X9_needVisitor M a1).bind (Sum.elim (fun e_0 => if a2 < 0 then (f_X9_mark_J15 e_0 ) else (if a2 < 6 then ((f_X9_remember e_0 ).bind (fun M2 => (some (gR M2 1 3)).bind (fun q3 => if kd q3 = 4 then ((some (f_X4_ofVisitor M2 q3 a1 4)).bind (fun x4 => if a3 = 0 then (f_X9_mark_J61 M2 a1 x4 (x4 &&& ((1 <<< (a2 &&& 31)) ^^^ (-1)))) else (f_X9_mark_J61 M2 a1 x4 (x4 ||| (1 <<< (a2 &&& 31)))))) else none))) else (f_X9_mark_J15 e_0 ))) (fun q => some (.inr q)))
def rm_X9_most : Room := rmz 6 133
def f_X9_most (M : Mm)  : Option (Int32 × Mm) :=
  (f_X9_pairUp M ).bind (fun M1 => (f_X5_mostAtOnce M1 ).bind (fun r2 => some (r2, M1)))
def rm_X9_needCell : Room := rmx 6 82 1 6
def f_X9_needCell_J10 (M : Mm)  : Option ((Mm ⊕ (Nat × Mm))) :=
  some (.inr (2, M))
def f_X9_needCell (M : Mm) (a0 : Int32) : Option (Mm ⊕ (Nat × Mm)) :=
  if a0 < 0 then (f_X9_needCell_J10 M ) else (if a0 < 20 then (some (.inl M)) else (f_X9_needCell_J10 M ))
def rm_X9_move : Room := rmx 7 241 2 12
def f_X9_move_J52 (M : Mm) (v1 : Int32) (v2 : Int32) (v3 : Int32) : Option (((Int32 × Mm) ⊕ (Nat × Mm))) :=
  (some (gR M 1 3)).bind (fun q6 => if kd q6 = 4 then ((some (f_X4_setThing M q6 v1 0 v2)).bind (fun M7 => some (.inl (v3, M7)))) else none)
def f_X9_move (M : Mm) (a1 : Int32) (a2 : Int32) : Option ((Int32 × Mm) ⊕ (Nat × Mm)) :=
  (f_X9_needThing M a1).bind (Sum.elim (fun e_0 => (f_X9_needCell e_0 a2).bind (Sum.elim (fun e_1 => (f_X9_remember e_1 ).bind (fun M3 => (some (gR M3 1 3)).bind (fun q4 => if kd q4 = 4 then ((f_X4_thingAt M3 q4 a2).bind (fun r5 => if r5 = a1 then (some (.inl ((-1), M3))) else (if r5 = (-1) then (f_X9_move_J52 M3 a1 a2 r5) else ((some (gR M3 1 3)).bind (fun q8 => if kd q8 = 4 then ((some (gR M3 1 3)).bind (fun q9 => if kd q9 = 4 then ((some (f_X4_setThing M3 q8 r5 0 (f_X4_ofThing M3 q9 a1 0))).bind (fun M10 => f_X9_move_J52 M10 a1 a2 r5)) else none)) else none))))) else none))) (fun q => some (.inr q)))) (fun q => some (.inr q)))
def rm_X9_right : Room := rmx 7 221 1 6
def f_X9_right_L39 (M : Mm) (v1 : Int32) (v2 : Int32) (v3 : Int32) (v4 : Int32) (v5 : Int32) : Option ((Mm × Int32 × Int32 × Int32) ⊕ (Mm × Int32 × Int32)) :=
  if 100 ≤ v5 then (some (.inr (M, v3, v4))) else ((some (gR M 1 4)).bind (fun q8 => if kd q8 = 4 then ((some (f_X4_setThing M q8 v1 1 v5)).bind (fun M9 => (some (gR M9 1 4)).bind (fun q10 => if kd q10 = 4 then ((f_X6_listen M9 q10).bind (fun M11 => (some (gR M11 1 4)).bind (fun q12 => if kd q12 = 4 then ((f_X6_lead M11 q12 0).bind (fun rr14 => (f_X6_likedBy rr14.2 v1).bind (fun r15 => if r15 ≤ v3 then (some (.inl (rr14.2, v3, v4, (v5 + 1)))) else (some (.inl (rr14.2, r15, v5, (v5 + 1))))))) else none))) else none))) else none))
def f_X9_right (M : Mm) (a1 : Int32) (a2 : Int32) : Option ((Int32 × Mm) ⊕ (Nat × Mm)) :=
  (f_X9_needThing M a1).bind (Sum.elim (fun e_0 => (some (gR e_0 1 4)).bind (fun q2 => if kd q2 = 4 then ((some (gR e_0 1 3)).bind (fun q3 => if kd q3 = 4 then ((f_X4_copyFrom e_0 q2 q3).bind (fun M4 => (some (gR M4 1 4)).bind (fun q5 => if kd q5 = 4 then ((some (gR M4 1 5)).bind (fun q6 => if kd q6 = 2 then ((f_X6_weigh M4 q5 q6).bind (fun M7 => (loop FU (fun a_16 => f_X9_right_L39 a_16.1 a1 a2 a_16.2.1 a_16.2.2.1 a_16.2.2.2) (M7, (-1), 0, 0)).bind (fun e_16 => if a2 = 0 then (some (.inl (e_16.2.2, e_16.1))) else (some (.inl (e_16.2.1, e_16.1)))))) else none)) else none))) else none)) else none)) (fun q => some (.inr q)))
def rm_X9_rivals : Room := rmx 7 113 3 18
def f_X9_rivals (M : Mm) (a1 : Int32) (a2 : Int32) : Option ((Int32 × Mm) ⊕ (Nat × Mm)) :=
  (f_X9_needThing M a1).bind (Sum.elim (fun e_0 => (f_X9_needThing e_0 a2).bind (Sum.elim (fun e_1 => if a1 = a2 then (some (.inr (1, e_1))) else ((some (gR e_1 1 3)).bind (fun q3 => if kd q3 = 4 then ((some (gR e_1 1 5)).bind (fun q4 => if kd q4 = 2 then ((f_X6_weigh e_1 q3 q4).bind (fun M5 => some (.inl (((t_X9_at M5 84 a1) &&& (t_X9_at M5 84 a2)), M5)))) else none)) else none))) (fun q => some (.inr q)))) (fun q => some (.inr q)))
def rm_X9_seed : Room := rmz 0 0
def f_X9_seed (M : Mm) (a1 : Int32) : Option (Int32 × Mm) :=
  (some (gR M 1 3)).bind (fun q1 => if kd q1 = 4 then ((some (gR M 1 3)).bind (fun q2 => if kd q2 = 4 then ((some (sI M q2 8 a1)).bind (fun M3 => some ((gI M q1 8), M3))) else none)) else none)
def rm_X9_takeTold : Room := rmz 1 21
def f_X9_takeTold_L21 (M : Mm) (v1 : Int32) (v2 : Int32) : Option (Int32 ⊕ ((Int32 × Mm) ⊕ Unit)) :=
  if v1 ≤ v2 then (some (.inr (.inr ()))) else ((some (gR M 1 3)).bind (fun q3 => if kd q3 = 4 then (if (gI M q3 4) ≤ (t_X9_at M 2 v2) then (some (.inr (.inl ((-1), M)))) else (if (t_X9_at M 2 (v2 + 1)) ≤ 1 then (some (.inl (v2 + 2))) else (some (.inr (.inl ((-1), M)))))) else none))
def f_X9_takeTold (M : Mm)  : Option (Int32 × Mm) :=
  (some (f_X9_useTapeUp M )).bind (fun rr2 => if 40 < rr2.1 then (some ((-1), rr2.2)) else (if (rr2.1 - rr2.1 / 2 * 2) = 0 then ((loop FU (fun a_4 => f_X9_takeTold_L21 rr2.2 rr2.1 a_4) 0).bind (Sum.elim (fun v => some v) (fun e_4 => some (rr2.1, rr2.2)))) else (some ((-1), rr2.2))))
def rm_X9_send : Room := rmx 6 82 1 6
def f_X9_send_L51 (M : Mm) (v2 : Int64) (v4 : Int32) (v5 : Int32) (v6 : Int32) (v7 : Int32) : Option ((Int32 × Int32 × Int32) ⊕ Int32) :=
  (some (gR M 1 3)).bind (fun q5 => if kd q5 = 4 then (if (gI M q5 4) ≤ v7 then (some (.inr v5)) else ((some (gR M 1 3)).bind (fun q6 => if kd q6 = 4 then ((f_X9_setsWithin M (f_X4_ofVisitor M q6 v7 4)).bind (fun r7 => (f_J13_bitCount_95d88 M (v2 &&& r7)).bind (fun r8 => if v6 ≤ (mx r8 (v4 - r8)) then (some (.inl (v5, v6, (v7 + 1)))) else (some (.inl (v7, (mx r8 (v4 - r8)), (v7 + 1))))))) else none))) else none)
def f_X9_send (M : Mm)  : Option ((Int32 × Mm) ⊕ (Nat × Mm)) :=
  (f_X9_takeTold M ).bind (fun rr2 => if rr2.1 = (-1) then (some (.inr (1, rr2.2))) else ((f_X9_fittingSets rr2.2 rr2.1).bind (fun r3 => (f_J13_bitCount_95d88 rr2.2 r3).bind (fun r4 => if 2 ≤ r4 then ((loop FU (fun a_9 => f_X9_send_L51 rr2.2 r3 r4 a_9.1 a_9.2.1 a_9.2.2) ((-1), 65, 0)).bind (fun e_9 => some (.inl (e_9, rr2.2)))) else (some (.inl ((-1), rr2.2)))))))
def rm_X9_show : Room := rmx 7 241 1 6
def f_X9_show_J37 (M : Mm) (v1 : Int32) (v3 : Int32) (t0 : Int32) : Option (((Bool × Mm) ⊕ (Nat × Mm))) :=
  (some (gR M 1 3)).bind (fun q4 => if kd q4 = 4 then ((some (f_X4_setThing M q4 v1 3 v3)).bind (fun M5 => if t0 = 0 then some (.inl (false, M5)) else if t0 = 1 then some (.inl (true, M5)) else none)) else none)
def f_X9_show_J18 (M : Mm) (v1 : Int32) (t0 : Int32) : Option (((Bool × Mm) ⊕ (Nat × Mm))) :=
  (some (gR M 1 3)).bind (fun q3 => if kd q3 = 4 then (if (f_X4_ofThing M q3 v1 3) = t0 then (f_X9_show_J37 M v1 t0 0) else (f_X9_show_J37 M v1 t0 1)) else none)
def f_X9_show (M : Mm) (a1 : Int32) (a2 : Int32) : Option ((Bool × Mm) ⊕ (Nat × Mm)) :=
  (f_X9_needThing M a1).bind (Sum.elim (fun e_0 => (f_X9_remember e_0 ).bind (fun M2 => if a2 = 0 then (f_X9_show_J18 M2 a1 0) else (f_X9_show_J18 M2 a1 1))) (fun q => some (.inr q)))
def rm_X9_smallestOf : Room := rmz 1 20
def f_X9_smallestOf_J4_25 (M : Mm) (v0 : Int64) (v2 : Int32) (v3 : Int32) (t0 : Int32) : Option ((Int32 × Int32) ⊕ Int32) :=
  if t0 = 0 then (some (.inl (v2, (v3 + 1)))) else (if v2 = (-1) then (some (.inl (v3, (v3 + 1)))) else ((f_J6_bitCount_0f7a4 M v3).bind (fun r1 => (f_J6_bitCount_0f7a4 M v2).bind (fun r2 => if r2 ≤ r1 then (some (.inl (v2, (v3 + 1)))) else (some (.inl (v3, (v3 + 1))))))))
def f_X9_smallestOf_L4 (M : Mm) (v0 : Int64) (v2 : Int32) (v3 : Int32) : Option ((Int32 × Int32) ⊕ Int32) :=
  if 64 ≤ v3 then (some (.inr v2)) else (if (lg_cmp ((lush v0 v3) &&& 1) 1) = 0 then (f_X9_smallestOf_J4_25 M v0 v2 v3 1) else (f_X9_smallestOf_J4_25 M v0 v2 v3 0))
def f_X9_smallestOf (M : Mm) (a0 : Int64) : Option (Int32) :=
  (loop FU (fun a_3 => f_X9_smallestOf_L4 M a0 a_3.1 a_3.2) ((-1), 0)).bind (fun e_3 => some e_3)
def rm_X9_span : Room := rmx 7 221 1 6
def f_X9_span_L14 (M : Mm) (v1 : Int32) (v2 : Int32) (v3 : Int32) (v4 : Int32) (v5 : Int32) : Option ((Mm × Int32 × Int32 × Int32) ⊕ (Mm × Int32 × Int32)) :=
  if 6 < v5 then (some (.inr (M, v3, v4))) else ((some (gR M 1 4)).bind (fun q2 => if kd q2 = 4 then ((some (gR M 1 3)).bind (fun q3 => if kd q3 = 4 then ((f_X4_copyFrom M q2 q3).bind (fun M4 => (some (gR M4 1 4)).bind (fun q5 => if kd q5 = 4 then ((some (sI M4 q5 8 v5)).bind (fun M6 => (some (gR M6 1 4)).bind (fun q7 => if kd q7 = 4 then ((f_X9_passDays M6 q7 v1).bind (fun rr9 => some (.inl (rr9.2, (mn v3 rr9.1), (mx v4 rr9.1), (v5 + 1))))) else none))) else none))) else none)) else none))
def f_X9_span (M : Mm) (a1 : Int32) (a2 : Int32) : Option ((Int32 × Mm) ⊕ (Nat × Mm)) :=
  (f_X9_needDaysAhead M a1).bind (Sum.elim (fun e_0 => (loop FU (fun a_10 => f_X9_span_L14 a_10.1 a1 a2 a_10.2.1 a_10.2.2.1 a_10.2.2.2) (e_0, 300, 0, 1)).bind (fun e_10 => if a2 = 0 then (some (.inl (e_10.2.1, e_10.1))) else (some (.inl (e_10.2.2, e_10.1))))) (fun q => some (.inr q)))
def rm_X9_steps : Room := rmx 7 102 1 6
def f_X9_steps (M : Mm) (a1 : Int32) : Option ((Int32 × Mm) ⊕ (Nat × Mm)) :=
  if a1 = (-1) then ((some (gR M 1 3)).bind (fun q3 => if kd q3 = 4 then (some (.inl (((t_X4_stepOf M q3 19) + 1), M))) else none)) else ((f_X9_needCell M a1).bind (Sum.elim (fun e_0 => (some (gR e_0 1 3)).bind (fun q2 => if kd q2 = 4 then (some (.inl ((t_X4_stepOf e_0 q2 a1), e_0))) else none)) (fun q => some (.inr q))))
def rm_X9_thing : Room := rmx 7 134 2 12
def f_X9_thing_J15 (M : Mm)  : Option (((Int32 × Mm) ⊕ (Nat × Mm))) :=
  some (.inr (4, M))
def f_X9_thing (M : Mm) (a1 : Int32) (a2 : Int32) : Option ((Int32 × Mm) ⊕ (Nat × Mm)) :=
  (f_X9_needThing M a1).bind (Sum.elim (fun e_0 => if a2 < 0 then (f_X9_thing_J15 e_0 ) else (if a2 ≤ 7 then (if 5 ≤ a2 then ((some (gR e_0 1 3)).bind (fun q2 => if kd q2 = 4 then ((f_X9_tomorrow e_0 q2).bind (fun rr4 => if a2 = 5 then (some (.inl ((t_X9_at rr4.2 84 a1), rr4.2))) else (if a2 = 6 then ((f_X6_hadBy rr4.2 a1).bind (fun r6 => some (.inl (r6, rr4.2)))) else ((f_X6_envied rr4.2 a1).bind (fun r5 => some (.inl (r5, rr4.2))))))) else none)) else ((some (gR e_0 1 3)).bind (fun q7 => if kd q7 = 4 then (some (.inl ((f_X4_ofThing e_0 q7 a1 a2), e_0))) else none))) else (f_X9_thing_J15 e_0 ))) (fun q => some (.inr q)))
def rm_X9_trade : Room := rmx 7 241 3 18
def f_X9_trade (M : Mm) (a1 : Int32) (a2 : Int32) : Option (Mm ⊕ (Nat × Mm)) :=
  (f_X9_needVisitor M a1).bind (Sum.elim (fun e_0 => (f_X9_needVisitor e_0 a2).bind (Sum.elim (fun e_1 => if a1 = a2 then (some (.inr (1, e_1))) else ((f_X9_remember e_1 ).bind (fun M3 => (some (gR M3 1 3)).bind (fun q4 => if kd q4 = 4 then ((f_X4_swapVisitors M3 q4 a1 a2).bind (fun M5 => some (.inl M5))) else none)))) (fun q => some (.inr q)))) (fun q => some (.inr q)))
def rm_X9_trial : Room := rmx 7 221 1 6
def f_X9_trial (M : Mm) (a1 : Int32) : Option ((Int32 × Mm) ⊕ (Nat × Mm)) :=
  (f_X9_needDaysAhead M a1).bind (Sum.elim (fun e_0 => (some (gR e_0 1 4)).bind (fun q2 => if kd q2 = 4 then ((some (gR e_0 1 3)).bind (fun q3 => if kd q3 = 4 then ((f_X4_copyFrom e_0 q2 q3).bind (fun M4 => (some (gR M4 1 4)).bind (fun q5 => if kd q5 = 4 then ((f_X9_passDays M4 q5 a1).bind (fun rr7 => some (.inl (rr7.1, rr7.2)))) else none))) else none)) else none)) (fun q => some (.inr q)))
def rm_X9_undo : Room := rmz 2 221
def f_X9_undo (M : Mm)  : Option (Bool × Mm) :=
  if (gI M 1 11) < 1 then (some (false, M)) else (if (gI M 1 11) ≤ 12 then ((some (sI M 1 11 ((gI M 1 11) - 1))).bind (fun M1 => (some (gR M1 1 3)).bind (fun q2 => if kd q2 = 4 then (if ibs (gI M1 1 11) 12 = true then (some (gE M1 3 (gI M1 1 11))).bind (fun q3 => if kd q3 = 4 then ((f_X4_copyFrom M1 q2 q3).bind (fun M4 => some (true, M4))) else none) else none) else none))) else (some (false, M)))
def rm_X9_visitor : Room := rmx 7 134 2 12
def f_X9_visitor_J15 (M : Mm)  : Option (((Int32 × Mm) ⊕ (Nat × Mm))) :=
  some (.inr (4, M))
def f_X9_visitor (M : Mm) (a1 : Int32) (a2 : Int32) : Option ((Int32 × Mm) ⊕ (Nat × Mm)) :=
  (f_X9_needVisitor M a1).bind (Sum.elim (fun e_0 => if a2 < 0 then (f_X9_visitor_J15 e_0 ) else (if a2 ≤ 7 then (if 5 ≤ a2 then (if a2 = 5 then ((some (gR e_0 1 3)).bind (fun q7 => if kd q7 = 4 then ((f_X9_ringing e_0 q7 a1).bind (fun rr9 => some (.inl (rr9.1, rr9.2)))) else none)) else ((some (gR e_0 1 3)).bind (fun q2 => if kd q2 = 4 then ((f_X9_tomorrow e_0 q2).bind (fun rr4 => if a2 = 6 then (some (.inl ((t_X9_at rr4.2 85 a1), rr4.2))) else (if (t_X9_at rr4.2 85 a1) = (-1) then (some (.inl ((t_X9_at rr4.2 85 a1), rr4.2))) else ((some (gR rr4.2 1 3)).bind (fun q5 => if kd q5 = 4 then ((some (gR rr4.2 1 3)).bind (fun q6 => if kd q6 = 4 then (some (.inl ((t_X4_stepOf rr4.2 q5 (f_X4_ofThing rr4.2 q6 (t_X9_at rr4.2 85 a1) 0)), rr4.2))) else none)) else none))))) else none))) else ((some (gR e_0 1 3)).bind (fun q10 => if kd q10 = 4 then (some (.inl ((f_X4_ofVisitor e_0 q10 a1 a2), e_0))) else none))) else (f_X9_visitor_J15 e_0 ))) (fun q => some (.inr q)))
def rm_X9_wants : Room := rmx 6 82 1 6
def f_X9_wants (M : Mm) (a1 : Int32) : Option ((Int32 × Mm) ⊕ (Nat × Mm)) :=
  (f_X9_takeTold M ).bind (fun rr2 => if rr2.1 = (-1) then (some (.inr (1, rr2.2))) else ((f_X9_fittingSets rr2.2 rr2.1).bind (fun r3 => if a1 = 0 then ((f_J13_bitCount_95d88 rr2.2 r3).bind (fun r4 => some (.inl (r4, rr2.2)))) else ((f_X9_smallestOf rr2.2 r3).bind (fun r5 => some (.inl (r5, rr2.2)))))))
