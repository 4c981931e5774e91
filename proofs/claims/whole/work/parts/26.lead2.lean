/-! visitors led past: the class's lead -/
theorem fillI {M : Mm} {i : Nat} {x : Int32} (hi : ln i < 10000) : Tr (f_J7_fill_53178 M i x) (fun N => Fr [i] M N ∧ ∀ k, k < ln i → N.1 i k = x) := by
  unfold f_J7_fill_53178
  refine Tr.bind (Q := fun N => Fr [i] M N ∧ ∀ k, k < ln i → N.1 i k = x) ?_ (fun N hN => Tr.some hN)
  refine lp0 (fun j (N : Mm) => (N, nI j)) (ln i) (fun j N => Fr [i] M N ∧ ∀ k, k < j → N.1 i k = x) hi M rfl ⟨Fr.rf, fun k hk => absurd hk (Nat.not_lt_zero k)⟩ (fun j N hj hP => ?_) (fun N hP => ?_)
  · unfold f_J7_fill_53178_L5
    simp (disch := omega) only [a2, a83, a84, a85, a86, a88, a89, a92, a93, a96, p2, p83, p84, p85, p86, p88, p89, p92, p93, p96, a91, a94, a95, p91, p94, p95, gI, gR, sA_nI, gA_nI, at_nI, put_nI, ibs_nI, nI_add, nI_mulI, nI_subI, nI_neg1, nI_leI, nI_ltI, nI_eq, nI_ne_m1, nI_m1_ne, nI_nlt0, Option.bind_some, bnd_some, iteP, iteN, reduceIte, b1_def, or0, if_true, if_false, eq_self, Bool.false_eq_true, l_0, l_1, l_2, l_3, l_4, l_5, l_6, l_7, l_8, l_9, l_10, l_11, l_12, l_13, l_14, l_15, l_16, l_17, l_18, l_19, l_20, l_24, l_30, l_31, l_40, l_45, l_50, l_57, l_58, l_59, l_60, l_61, l_62, l_63, l_64, l_90, l_99, l_100, l_107, l_108, l_109, l_110, l_111, l_299, l_300, l_400, l_407, l_807, show Int32.ofNat (ln i) = nI (ln i) from rfl]
    refine Tr.some (Or.inl ⟨_, rfl, hP.1.tr (Fr.sI (by simp)), fun k hk => ?_⟩)
    rw [sI_at]
    by_cases e : k = j
    · simp [e]
    · simp [e, hP.2 k (by omega)]
  · unfold f_J7_fill_53178_L5
    simp (disch := omega) only [a2, a83, a84, a85, a86, a88, a89, a92, a93, a96, p2, p83, p84, p85, p86, p88, p89, p92, p93, p96, a91, a94, a95, p91, p94, p95, gI, gR, sA_nI, gA_nI, at_nI, put_nI, ibs_nI, nI_add, nI_mulI, nI_subI, nI_neg1, nI_leI, nI_ltI, nI_eq, nI_ne_m1, nI_m1_ne, nI_nlt0, Option.bind_some, bnd_some, iteP, iteN, reduceIte, b1_def, or0, if_true, if_false, eq_self, Bool.false_eq_true, l_0, l_1, l_2, l_3, l_4, l_5, l_6, l_7, l_8, l_9, l_10, l_11, l_12, l_13, l_14, l_15, l_16, l_17, l_18, l_19, l_20, l_24, l_30, l_31, l_40, l_45, l_50, l_57, l_58, l_59, l_60, l_61, l_62, l_63, l_64, l_90, l_99, l_100, l_107, l_108, l_109, l_110, l_111, l_299, l_300, l_400, l_407, l_807, show Int32.ofNat (ln i) = nI (ln i) from rfl]
    exact Tr.some ⟨_, rfl, hP⟩
section LEAD2
variable {LR : Mm → Nat → (Nat → Int32) → Prop} {LK : (Nat → Int32) → Nat → Nat → Int32 → Int32} {M : Mm} {q L B : Nat} {m : Nat → Int32} {s : Int32}
theorem u9e {k : Nat} (h : k ≠ 9) : u9 m s k = m k := if_neg h
theorem Inv.u9 (h : Inv m B) : Inv (u9 m s) B := by
  obtain ⟨h1, h2, h3, h4, h5, h6, h7, h8, h9⟩ := h
  refine ⟨h1, h2, h3, h4, h5, h6, fun t ht => ?_, fun v hv => ?_, fun a ha => ?_⟩
  · have := h7 t ht
    rw [u9e (by omega), u9e (by omega), u9e (by omega), u9e (by omega), u9e (by omega)]
    exact this
  · have := h8 v hv
    rw [u9e (by omega), u9e (by omega)]
    exact this
  · have := h9 a ha
    rw [u9e (by omega)]
    exact this
theorem MR.u9 (h : MR M q m) : MR (sI M q 8 s) q (u9 m s) := by
  obtain ⟨h1, h2, h3, h4, h5, h6, h7, h8, h9, h10⟩ := h
  have e : ∀ j, j ≠ q → (sI M q 8 s).1 j = M.1 j := fun j hj => up2_fn hj
  have e2 : ∀ b, b ≠ 8 → (sI M q 8 s).1 q b = M.1 q b := fun b hb => up2_ne2 hb
  refine ⟨fun k hk => ?_, fun k hk => ?_, ?_, ?_, ?_, ?_, ?_, up2_eq, ?_, ?_⟩
  · rw [e _ (by omega), u9e (by omega)]; exact h1 k hk
  · rw [e _ (by omega), u9e (by omega)]; exact h2 k hk
  · rw [e2 _ (by decide)]; exact h3
  · rw [e2 _ (by decide)]; exact h4
  · rw [e2 _ (by decide)]; exact h5
  · rw [e2 _ (by decide)]; exact h6
  · rw [e2 _ (by decide)]; exact h7
  · rw [e2 _ (by decide)]; exact h9
  · rw [e _ (by omega)]
    intro a c ha hc
    rw [u9e (by omega)]
    exact h10 a c ha hc
theorem lkv_u9 (HL : LSpec LR LK) (t v : Nat) : lkv LK (u9 m s) t v = lkv LK m t v := by
  unfold lkv
  rw [u9e (by omega)]
  exact HL.2.2.1 _ _ _ _ _ ⟨rfl, rfl, fun k h1 h2 => u9e (by omega)⟩ rfl (fun c hc => u9e (by omega)) (u9e (by omega)) (u9e (by omega))
theorem rgs_u9 (t : Nat) (x : Int32) : rgs (u9 m s) t x = rgs m t x := by
  unfold rgs
  rw [u9e (by omega), u9e (by omega), u9e (by omega)]
theorem stp_u9 (t : Nat) : stp (u9 m s) t = stp m t := by
  unfold stp
  rw [u9e (by omega), u9e (by omega)]
theorem acc_u9 (lk : Nat → Int32) (t : Nat) (b : Option Nat) : acc (u9 m s) lk t b = acc m lk t b := by
  cases b <;> simp only [acc, stp_u9]
theorem pk_u9 (lk : Nat → Int32) (ok : Nat → Bool) (n : Nat) : pkS (u9 m s) lk ok n = pkS m lk ok n := by
  unfold pkS
  exact iter_cg (fun i b hi => by rw [acc_u9])
theorem u9_u9 {s2 : Int32} : u9 (u9 m s) s2 = u9 m s2 := by
  funext k
  by_cases h : k = 9 <;> simp [u9, h]
theorem u9_self : u9 m (m 9) = m := by
  funext k
  by_cases h : k = 9
  · subst h; rfl
  · exact u9e h
theorem pk_ok {lk : Nat → Int32} {ok : Nat → Bool} : ∀ {n u : Nat}, pkS m lk ok n = some u → u < n ∧ ok u = true := by
  intro n
  induction n with
  | zero => intro u hu; cases hu
  | succ n ih =>
    intro u hu
    unfold pkS iter at hu
    by_cases hc : (ok n && acc m lk n (iter (fun t b => if (ok t && acc m lk t b) = true then some t else b) n none)) = true
    · rw [if_pos hc] at hu
      cases hu
      exact ⟨by omega, (Bool.and_eq_true_iff.mp hc).1⟩
    · rw [if_neg hc] at hu
      have := ih (u := u) hu
      exact ⟨by omega, this.2⟩
theorem drawsC (hk : kd q = 4) (h : MR M q m) {v : Nat} (hv : v < 10) : f_X4_drawsAway M q (nI v) = (decide (¬ m (57 + 5 * v + 3) ≤ drw (nxs (m 9))), sI M q 8 (nxs (m 9))) := by
  have e : gI M q 8 = m 9 := h.2.2.2.2.2.2.2.1
  have h2 : MR (sI M q 8 (nxs (m 9))) q (u9 m (nxs (m 9))) := h.u9
  have e2 : gI (sI M q 8 (nxs (m 9))) q 8 = nxs (m 9) := up2_eq
  have e3 : f_X4_ofVisitor (sI M q 8 (nxs (m 9))) q (nI v) 3 = m (57 + 5 * v + 3) := by
    rw [l_3, ofV hk h2 hv (by omega)]
    exact u9e (by omega)
  unfold f_X4_drawsAway
  rw [e]
  rw [show m 9 * 1103515245 + 12345 = nxs (m 9) from rfl, e2, e3, show (iush (nxs (m 9)) 16 &&& 32767) - (iush (nxs (m 9)) 16 &&& 32767) / 100 * 100 = drw (nxs (m 9)) from rfl]
  by_cases hd : m (57 + 5 * v + 3) ≤ drw (nxs (m 9))
  · rw [if_pos hd]; simp [hd]
  · rw [if_neg hd]; simp [hd]
end LEAD2
