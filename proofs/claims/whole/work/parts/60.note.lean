/-! one note in the log: the class -/
section NOTE
variable {LR : Mm → Nat → (Nat → Int32) → Prop} {LK : (Nat → Int32) → Nat → Nat → Int32 → Int32} {n : Nat} {M N Mc Mr Nc Nr : Mm} {q B v t : Nat} {m m0 : Nat → Int32} {x y : Int32}
/-- the row of numbers behind a note: the log one further, one more had -/
def ntM (m : Nat → Int32) (v t : Nat) (lk st : Int32) : Nat → Int32 := fun k => if 112 ≤ k ∧ k < 407 then m (k - 5) else if k = 107 then m 6 else if k = 108 then nI v else if k = 109 then nI t else if k = 110 then lk else if k = 111 then st else if k = 8 then nI (min (hN m + 1) 60) else if k = 7 then nI (hN m + 1) else m k
theorem nt_lo {k : Nat} (h : k < 107 ∨ 407 ≤ k) (h7 : k ≠ 7) (h8 : k ≠ 8) : ntM m v t x y k = m k := by
  unfold ntM
  rw [if_neg (by omega), if_neg (by omega), if_neg (by omega), if_neg (by omega), if_neg (by omega), if_neg (by omega), if_neg (by omega), if_neg (by omega)]
theorem nt_hi {k : Nat} (h : 112 ≤ k) (h2 : k < 407) : ntM m v t x y k = m (k - 5) := by
  unfold ntM
  rw [if_pos ⟨h, h2⟩]
theorem nt_7 : ntM m v t x y 7 = nI (hN m + 1) := rfl
theorem nt_8 : ntM m v t x y 8 = nI (min (hN m + 1) 60) := rfl
theorem nt_0 : ntM m v t x y 107 = m 6 := rfl
theorem nt_1 : ntM m v t x y 108 = nI v := rfl
theorem nt_2 : ntM m v t x y 109 = nI t := rfl
theorem nt_3 : ntM m v t x y 110 = x := rfl
theorem nt_4 : ntM m v t x y 111 = y := rfl
theorem nt_hN (h : hN m + 1 < 2 ^ 31) : hN (ntM m v t x y) = hN m + 1 := by
  unfold hN
  rw [nt_7, nI_clamp h]
  rfl
theorem nt_tN : tN (ntM m v t x y) = tN m ∧ vN (ntM m v t x y) = vN m := by
  unfold tN vN
  rw [nt_lo (by omega) (by decide) (by decide), nt_lo (by omega) (by decide) (by decide)]
  exact ⟨rfl, rfl⟩
theorem Inv.nt (h : Inv m B) (hB : B + 1 < 2 ^ 31) (hv : v < vN m) : Inv (ntM m v t x y) (B + 1) := by
  have hT := h.t
  have hV := h.v
  obtain ⟨hh1, hh2⟩ := h.h
  obtain ⟨e1, e2, e3, e4, e5, e6, e7, e8, e9⟩ := h
  have eh : hN (ntM m v t x y) = hN m + 1 := nt_hN (by omega)
  obtain ⟨n1, n2⟩ := nt_tN (m := m) (v := v) (t := t) (x := x) (y := y)
  refine ⟨?_, ?_, ?_, ?_, ?_, ?_, fun u hu => ?_, fun u hu => ?_, fun a ha => ?_⟩
  · rw [nt_lo (by omega) (by decide) (by decide)]; exact e1
  · rw [nt_lo (by omega) (by decide) (by decide)]; exact e2
  · rw [nt_lo (by omega) (by decide) (by decide)]; exact e3
  · rw [nt_lo (by omega) (by decide) (by decide)]; exact e4
  · rw [nt_7]; exact isN_nI (by omega) hB
  · rw [nt_8, eh]
  · rw [n1] at hu
    rw [nt_lo (by omega) (by omega) (by omega), nt_lo (by omega) (by omega) (by omega), nt_lo (by omega) (by omega) (by omega), nt_lo (by omega) (by omega) (by omega), nt_lo (by omega) (by omega) (by omega)]
    exact e7 u hu
  · rw [n2] at hu
    rw [nt_lo (by omega) (by omega) (by omega), nt_lo (by omega) (by omega) (by omega)]
    exact e8 u hu
  · rw [eh] at ha
    rw [n2]
    by_cases ea : a = 0
    · subst ea
      rw [show 107 + 5 * 0 + 1 = 108 from rfl, nt_1, nI_clamp (by omega)]
      exact ⟨isN_nI (by omega) (by omega), hv⟩
    · rw [nt_hi (by omega) (by omega), show 107 + 5 * a + 1 - 5 = 107 + 5 * (a - 1) + 1 by omega]
      exact e9 (a - 1) (by omega)
theorem noteC (hk : kd q = 4) (h : MR M q m) (hI : Inv m B) (hB : B + 1 < 2 ^ 31) (ht : t < 9) : Tr (f_X4_note M q (nI v) (nI t) x) (fun N => MR N q (ntM m v t x (stp m t)) ∧ Fr [q, q + 3] M N) := by
  obtain ⟨l1, l2, l3, l4⟩ := lnM hk
  obtain ⟨hh1, hh2⟩ := hI.h
  have e9 : gI M q 9 = nI (hN m) := h.2.2.2.2.2.2.2.2.1.trans hh1
  have e7 : gI M q 7 = m 6 := h.2.2.2.2.2.2.1
  generalize hr : hN m % 60 * 5 = r
  have hr2 : r + 4 < 300 := by have := Nat.mod_lt (hN m) (show 60 > 0 by decide); omega
  have ri : (nI (hN m) - nI (hN m) / 60 * 60) * 5 = nI r := by
    rw [show (60 : Int32) = nI 60 from rfl, nI_divI (by omega) (by decide) (by decide), nI_mulI, nI_subI (by omega), l_5, nI_mulI]
    congr 1; omega
  have p0 : ∀ (K : Mm) (y : Int32), t_X9_put K (q + 3) (nI r) y = sI K (q + 3) r y := fun K y => put_nI l3 (by omega)
  have p1 : ∀ (K : Mm) (y : Int32), t_X9_put K (q + 3) (nI r + 1) y = sI K (q + 3) (r + 1) y := fun K y => by rw [l_1, nI_add]; exact put_nI l3 (by omega)
  have p2 : ∀ (K : Mm) (y : Int32), t_X9_put K (q + 3) (nI r + 2) y = sI K (q + 3) (r + 2) y := fun K y => by rw [l_2, nI_add]; exact put_nI l3 (by omega)
  have p3 : ∀ (K : Mm) (y : Int32), t_X9_put K (q + 3) (nI r + 3) y = sI K (q + 3) (r + 3) y := fun K y => by rw [l_3, nI_add]; exact put_nI l3 (by omega)
  have p4 : ∀ (K : Mm) (y : Int32), t_X9_put K (q + 3) (nI r + 4) y = sI K (q + 3) (r + 4) y := fun K y => by rw [l_4, nI_add]; exact put_nI l3 (by omega)
  have st : ∀ K : Mm, K.1 q = M.1 q → K.1 (q + 1) = M.1 (q + 1) → t_X4_stepOf K q (f_X4_ofThing K q (nI t) 0) = stp m t := fun K k1 k2 => by
    have o1 : f_X4_ofThing K q (nI t) 0 = m (12 + 5 * t + 0) := by
      rw [← ofT (c := 0) hk h ht (by decide)]
      unfold f_X4_ofThing t_X9_at gA
      rw [k2]
      rfl
    rw [o1]
    have o2 := stepC h hI (m (12 + 5 * t + 0))
    unfold t_X4_stepOf gI at o2 ⊢
    rw [k1]
    exact o2
  unfold f_X4_note
  rw [e9, ri, Option.bind_some, p0, Option.bind_some, p1, Option.bind_some, p2, Option.bind_some, p3, Option.bind_some, st _ (by rw [sI_fn (by omega), sI_fn (by omega), sI_fn (by omega), sI_fn (by omega)]) (by rw [sI_fn (by omega), sI_fn (by omega), sI_fn (by omega), sI_fn (by omega)]), p4, Option.bind_some, Option.bind_some, e7]
  generalize hK : sI (sI (sI (sI (sI M (q + 3) r (m 6)) (q + 3) (r + 1) (nI v)) (q + 3) (r + 2) (nI t)) (q + 3) (r + 3) x) (q + 3) (r + 4) (stp m t) = K
  have kf : ∀ i, i ≠ q + 3 → K.1 i = M.1 i := fun i hi => by rw [← hK, sI_fn hi, sI_fn hi, sI_fn hi, sI_fn hi, sI_fn hi]
  have kl : ∀ k, K.1 (q + 3) k = if k = r + 4 then stp m t else if k = r + 3 then x else if k = r + 2 then nI t else if k = r + 1 then nI v else if k = r then m 6 else M.1 (q + 3) k := fun k => by
    rw [← hK]
    simp only [sI_at, true_and]
  have kF : Fr [q, q + 3] M K := by
    rw [← hK]
    exact ((((Fr.sI (by simp)).tr (Fr.sI (by simp))).tr (Fr.sI (by simp))).tr (Fr.sI (by simp))).tr (Fr.sI (by simp))
  have g9 : gI K q 9 = nI (hN m) := by show K.1 q 9 = _; rw [kf q (by omega)]; exact e9
  rw [g9, l_1, nI_add]
  refine Tr.some ⟨?_, kF.tr (Fr.sI (by simp))⟩
  obtain ⟨h1, h2, h3, h4, h5, h6, h7, h8, h9, h10⟩ := h
  have eh : hN (ntM m v t x (stp m t)) = hN m + 1 := nt_hN (by omega)
  have f0 : ∀ b, b ≠ 9 → (sI K q 9 (nI (hN m + 1))).1 q b = M.1 q b := fun b hb => by rw [sI_at, if_neg (by omega), kf q (by omega)]
  refine ⟨fun k hk => ?_, fun k hk => ?_, ?_, ?_, ?_, ?_, ?_, ?_, ?_, fun a c ha hc => ?_⟩
  · rw [sI_fn (by omega), kf _ (by omega), nt_lo (by omega) (by omega) (by omega)]; exact h1 k hk
  · rw [sI_fn (by omega), kf _ (by omega), nt_lo (by omega) (by omega) (by omega)]; exact h2 k hk
  · rw [f0 3 (by decide), nt_lo (by omega) (by omega) (by omega)]; exact h3
  · rw [f0 4 (by decide), nt_lo (by omega) (by omega) (by omega)]; exact h4
  · rw [f0 5 (by decide), nt_lo (by omega) (by omega) (by omega)]; exact h5
  · rw [f0 6 (by decide), nt_lo (by omega) (by omega) (by omega)]; exact h6
  · rw [f0 7 (by decide), nt_lo (by omega) (by omega) (by omega)]; exact h7
  · rw [f0 8 (by decide), nt_lo (by omega) (by omega) (by omega)]; exact h8
  · rw [nt_7, sI_at, if_pos ⟨rfl, rfl⟩]
  · rw [eh] at ha ⊢
    rw [sI_fn (by omega), kl]
    by_cases ea : a = 0
    · subst ea
      have hc2 : c = 0 ∨ c = 1 ∨ c = 2 ∨ c = 3 ∨ c = 4 := by omega
      have hz : (hN m + 1 - 1 - 0) % 60 * 5 = r := by rw [← hr]; rfl
      rw [hz]
      rcases hc2 with rfl | rfl | rfl | rfl | rfl
      · rw [if_neg (by omega), if_neg (by omega), if_neg (by omega), if_neg (by omega), if_pos (by omega)]; exact nt_0.symm
      · rw [if_neg (by omega), if_neg (by omega), if_neg (by omega), if_pos (by omega)]; exact nt_1.symm
      · rw [if_neg (by omega), if_neg (by omega), if_pos (by omega)]; exact nt_2.symm
      · rw [if_neg (by omega), if_pos (by omega)]; exact nt_3.symm
      · rw [if_pos (by omega)]; exact nt_4.symm
    · have hz : (hN m + 1 - 1 - a) = hN m - 1 - (a - 1) := by omega
      have hne : (hN m - 1 - (a - 1)) % 60 ≠ hN m % 60 := by omega
      rw [hz, if_neg (by omega), if_neg (by omega), if_neg (by omega), if_neg (by omega), if_neg (by omega), nt_hi (by omega) (by omega), show 107 + 5 * a + c - 5 = 107 + 5 * (a - 1) + c by omega]
      exact h10 (a - 1) c (by omega) hc
/-- all notes of a day -/
def ntF (LK : (Nat → Int32) → Nat → Nat → Int32 → Int32) (m0 m : Nat → Int32) (f : Nat → Option Nat) (n : Nat) : Nat → Int32 := iter (fun v s => match f v with | none => s | some t => ntM s v t (lkv LK m0 t v) (stp m0 t)) n m
theorem ntF_succ {f : Nat → Option Nat} : ntF LK m0 m f (n + 1) = match f n with | none => ntF LK m0 m f n | some t => ntM (ntF LK m0 m f n) n t (lkv LK m0 t n) (stp m0 t) := rfl
theorem ntF_none {f : Nat → Option Nat} (h : f n = none) : ntF LK m0 m f (n + 1) = ntF LK m0 m f n := by rw [ntF_succ, h]
theorem ntF_some {f : Nat → Option Nat} (h : f n = some t) : ntF LK m0 m f (n + 1) = ntM (ntF LK m0 m f n) n t (lkv LK m0 t n) (stp m0 t) := by rw [ntF_succ, h]
theorem ntF_lo {f : Nat → Option Nat} {k : Nat} (h : k < 107 ∨ 407 ≤ k) (h7 : k ≠ 7) (h8 : k ≠ 8) : ∀ n, ntF LK m0 m f n k = m k := by
  intro n
  induction n with
  | zero => rfl
  | succ n ih =>
    cases hf : f n with
    | none => rw [ntF_none hf]; exact ih
    | some t => rw [ntF_some hf, nt_lo h h7 h8]; exact ih
theorem ntF_n {f : Nat → Option Nat} (n : Nat) : tN (ntF LK m0 m f n) = tN m ∧ vN (ntF LK m0 m f n) = vN m := by
  unfold tN vN
  rw [ntF_lo (by omega) (by decide) (by decide), ntF_lo (by omega) (by decide) (by decide)]
  exact ⟨rfl, rfl⟩
theorem ntF_st {f : Nat → Option Nat} (n t : Nat) (ht : t < 9) : stp (ntF LK m0 m f n) t = stp m t := by
  unfold stp
  rw [ntF_lo (by omega) (by omega) (by omega), ntF_lo (by omega) (by decide) (by decide)]
theorem ntF_inv {f : Nat → Option Nat} (hI : Inv m B) (hB : B + vN m < 2 ^ 31) : ∀ n, n ≤ vN m → Inv (ntF LK m0 m f n) (B + n) := by
  intro n
  induction n with
  | zero => intro _; exact hI
  | succ n ih =>
    intro hn
    have ih := ih (by omega)
    cases hf : f n with
    | none => rw [ntF_none hf]; exact ih.mono (by omega)
    | some t =>
      rw [ntF_some hf]
      exact ih.nt (by omega) (by rw [(ntF_n n).2]; omega)
theorem ntF_hN {f : Nat → Option Nat} (hI : Inv m B) (hB : B + vN m < 2 ^ 31) : ∀ n, n ≤ vN m → hN (ntF LK m0 m f n) = hN m + cntB (fun v => (f v).isSome) n := by
  intro n
  induction n with
  | zero => intro _; rfl
  | succ n ih =>
    intro hn
    have ih := ih (by omega)
    have hb := hI.h
    have hc := cntB_le (fun v => (f v).isSome) n
    rw [cntB_succ]
    cases hf : f n with
    | none => rw [ntF_none hf, ih]; simp
    | some t => rw [ntF_some hf, nt_hN (by omega), ih]; simp; omega
/-- the class's notes -/
theorem notesC (hk : kd q = 4) (h : MR M q m) (hI : Inv m B) (hB : B + vN m < 2 ^ 31) {f : Nat → Option Nat} (hf : ∀ v t, f v = some t → t < tN m) (h85 : ∀ v, v < 10 → M.1 85 v = oI (f v)) (hq : q + 3 < 83) (h83 : ∀ t v, t < tN m → v < vN m → M.1 83 (t * 10 + v) = lkv LK m0 t v) (hst : ∀ t, t < tN m → stp m t = stp m0 t) (y : Int32) : Tr (loop FU (fun a_5 => f_X6_passDay_L17 a_5.1 q y a_5.2) (M, 0)) (fun N => MR N q (ntF LK m0 m f (vN m)) ∧ Fr [q, q + 3] M N) := by
  obtain ⟨e3, hT⟩ := hI.t
  obtain ⟨e4, hV⟩ := hI.v
  refine lp0 (fun i (N : Mm) => (N, nI i)) (vN m) (fun i N => MR N q (ntF LK m0 m f i) ∧ Fr [q, q + 3] M N) (by omega) M rfl ⟨h, Fr.rf⟩ (fun i N hi hP => ?_) (fun N hP => ?_)
  · obtain ⟨hN, hF⟩ := hP
    have hIi := ntF_inv (LK := LK) (m0 := m0) (f := f) hI hB i (by omega)
    have g4 : gI N q 4 = nI (vN m) := hN.2.2.2.1.trans (by rw [ntF_lo (by omega) (by omega) (by omega)]; exact e4)
    have g85 : t_X9_at N 85 (nI i) = oI (f i) := by rw [a85 (by omega), (hF 85 (by simp; omega)).1]; exact h85 i (by omega)
    show Tr (f_X6_passDay_L17 N q y (nI i)) _
    unfold f_X6_passDay_L17
    rw [g4, if_neg (by rw [nI_leI (by omega) (by omega)]; omega), g85, show nI i + 1 = nI (i + 1) from by rw [l_1, nI_add]]
    cases hfi : f i with
    | none =>
      rw [if_pos (show oI none = -1 from rfl)]
      exact Tr.some (Or.inl ⟨N, rfl, by rw [ntF_none hfi]; exact hN, hF⟩)
    | some t =>
      have ht := hf i t hfi
      have g83 : f_X6_likes N (nI t) (nI i) = lkv LK m0 t i := by
        unfold f_X6_likes
        rw [l_10, nI_mulI, nI_add, a83 (by omega), (hF 83 (by simp; omega)).1]
        exact h83 t i ht hi
      rw [if_neg (show ¬ oI (some t) = -1 from by rw [oI, nI_ne_m1 (by omega)]; exact not_false), oI, g83]
      refine Tr.bind (noteC hk hN hIi (by omega) (by omega)) (fun K hK => ?_)
      refine Tr.some (Or.inl ⟨K, rfl, ?_, hF.tr hK.2⟩)
      rw [ntF_some hfi, ← hst t ht, ← ntF_st (LK := LK) (m0 := m0) (f := f) i t (by omega)]
      exact hK.1
  · obtain ⟨hN, hF⟩ := hP
    have g4 : gI N q 4 = nI (vN m) := hN.2.2.2.1.trans (by rw [ntF_lo (by omega) (by omega) (by omega)]; exact e4)
    show Tr (f_X6_passDay_L17 N q y (nI (vN m))) _
    unfold f_X6_passDay_L17
    rw [g4, if_pos (by rw [nI_leI (by omega) (by omega)]; omega)]
    exact Tr.some ⟨_, rfl, hN, hF⟩
end NOTE
