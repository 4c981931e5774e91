/-! the class's reader -/
section READER
variable {M N : Mm} {e p r i j k n : Nat} {q : Nat → Bool} {tx : Nat → Int32} {x y v b : Int32} {w : Nat}
def rOK (r : Nat) : Prop := r = 98 ∨ r = 104
theorem rOK.ln (h : rOK r) : ln (r + 2) = 401 ∧ ln (r + 3) = 401 ∧ 90 < r ∧ r < 105 := by
  rcases h with rfl | rfl
  · exact ⟨by decide +kernel, by decide +kernel, by decide, by decide⟩
  · exact ⟨by decide +kernel, by decide +kernel, by decide, by decide⟩
theorem addC (hr : rOK r) (hk : M.1 r 3 = nI k) (hk2 : k < 401) : Tr (f_X7_add M r w b v) (fun N => Fr [r, r + 1, r + 2, r + 3] M N ∧ N.2.2 r = M.2.2 r ∧ (∀ c, c ≠ 3 → N.1 r c = M.1 r c) ∧ N.1 r 3 = nI (k + 1) ∧ ∀ j, N.2.2 (r + 1) j = (if j = k then w else M.2.2 (r + 1) j) ∧ N.1 (r + 2) j = (if j = k then b else M.1 (r + 2) j) ∧ N.1 (r + 3) j = (if j = k then v else M.1 (r + 3) j)) := by
  obtain ⟨l2, l3, l4, l5⟩ := hr.ln
  have g3 : ∀ N : Mm, N.1 r 3 = nI k → gI N r 3 = nI k := fun N h => h
  unfold f_X7_add
  rw [g3 M hk, if_neg (nI_pos (by omega)), if_neg (show ¬ (401 : Int32) ≤ nI k by rw [show (401 : Int32) = nI 401 from rfl, nI_leI (by omega) (by omega)]; omega), if_pos (ibs_nI hk2 (by decide)), sE_nI (by omega), Option.bind_some]
  rw [g3 (sR M (r + 1) k w) hk, put_nI l2 hk2, Option.bind_some, g3 (sI (sR M (r + 1) k w) (r + 2) k b) (by rw [sI_fn (by omega)]; exact hk), put_nI l3 hk2, Option.bind_some, g3 (sI (sI (sR M (r + 1) k w) (r + 2) k b) (r + 3) k v) (by rw [sI_fn (by omega), sI_fn (by omega)]; exact hk), l_1, nI_add, Option.bind_some]
  refine Tr.some ⟨(((Fr.sR (by simp)).tr (Fr.sI (by simp))).tr (Fr.sI (by simp))).tr (Fr.sI (by simp)), ?_, fun c hc => ?_, ?_, fun j => ⟨?_, ?_, ?_⟩⟩
  · show up2 M.2.2 (r + 1) k w r = M.2.2 r
    exact up2_fn (by omega)
  · rw [sI_at, if_neg (by omega), sI_fn (by omega), sI_fn (by omega)]; rfl
  · rw [sI_at, if_pos ⟨rfl, rfl⟩]
  · show up2 M.2.2 (r + 1) k w (r + 1) j = _
    by_cases c : j = k
    · subst c; rw [if_pos rfl, up2_eq]
    · rw [if_neg c, up2_ne2 c]
  · rw [sI_fn (by omega), sI_fn (by omega), sI_at]
    by_cases c : j = k
    · rw [if_pos ⟨rfl, c⟩, if_pos c]
    · rw [if_neg (fun h => c h.2), if_neg c]; rfl
  · rw [sI_fn (by omega), sI_at, sI_fn (by omega)]
    by_cases c : j = k
    · rw [if_pos ⟨rfl, c⟩, if_pos c]
    · rw [if_neg (fun h => c h.2), if_neg c]; rfl
theorem j23C (hr : rOK r) (h4 : M.1 r 4 = nI k) (hk : k < 401) (hw : isW (M.2.2 (r + 1) k) = true) : f_X7_next_J23 M r = some (sI (sI (sR M r 5 (M.2.2 (r + 1) k)) r 6 (M.1 (r + 2) k)) r 7 (M.1 (r + 3) k)) := by
  obtain ⟨l2, l3, l4, l5⟩ := hr.ln
  have hne := isW_ne hw
  have g4 : ∀ N : Mm, N.1 r 4 = nI k → gI N r 4 = nI k := fun N h => h
  have ib : ibs (nI k) 401 = true := ibs_nI hk (by decide)
  unfold f_X7_next_J23
  rw [g4 M h4, if_neg (nI_pos (by omega)), if_neg (show ¬ (401 : Int32) ≤ nI k by rw [show (401 : Int32) = nI 401 from rfl, nI_leI (by omega) (by omega)]; omega), if_pos ib, gE_nI (by omega), if_neg hne, if_pos ib, Option.bind_some, g4 (sR M r 5 (M.2.2 (r + 1) k)) h4, if_pos ib, gA_nI (by omega), Option.bind_some, g4 (sI (sR M r 5 (M.2.2 (r + 1) k)) r 6 _) (by rw [sI_at, if_neg (by omega)]; exact h4), if_pos ib, gA_nI (by omega), Option.bind_some, sI_fn (show r + 3 ≠ r by omega)]
  rfl
/-- the reader stands at word i -/
def RdS (M : Mm) (r : Nat) (tx : Nat → Int32) (e i : Nat) : Prop := ∃ n, n ≤ e ∧ bg tx e n = e ∧ (∀ j, j < n → bg tx e j < e) ∧ M.1 r 3 = nI (n + 1) ∧ M.1 r 4 = nI (min i n) ∧ (∀ j, j ≤ n → M.2.2 (r + 1) j = wdT tx e j ∧ M.1 (r + 2) j = nI (bg tx e j) ∧ M.1 (r + 3) j = vl tx e j) ∧ M.2.2 r 5 = wdT tx e i ∧ M.1 r 6 = nI (bg tx e i) ∧ M.1 r 7 = vl tx e i
theorem RdS.fr (h : RdS M r tx e i) (hF : ∀ j, r ≤ j → j ≤ r + 3 → N.1 j = M.1 j ∧ N.2.2 j = M.2.2 j) : RdS N r tx e i := by
  obtain ⟨n, n1, n2, n3, h1, h2, h3, h4, h5, h6⟩ := h
  refine ⟨n, n1, n2, n3, ?_, ?_, fun j hj => ?_, ?_, ?_, ?_⟩
  · rw [(hF r (by omega) (by omega)).1]; exact h1
  · rw [(hF r (by omega) (by omega)).1]; exact h2
  · rw [(hF (r + 1) (by omega) (by omega)).2, (hF (r + 2) (by omega) (by omega)).1, (hF (r + 3) (by omega) (by omega)).1]; exact h3 j hj
  · rw [(hF r (by omega) (by omega)).2]; exact h4
  · rw [(hF r (by omega) (by omega)).1]; exact h5
  · rw [(hF r (by omega) (by omega)).1]; exact h6
theorem RdS.s8 (h : RdS M r tx e i) : RdS (sI M r 8 x) r tx e i := by
  obtain ⟨n, n1, n2, n3, h1, h2, h3, h4, h5, h6⟩ := h
  refine ⟨n, n1, n2, n3, ?_, ?_, fun j hj => ?_, h4, ?_, ?_⟩
  · rw [sI_at, if_neg (by omega)]; exact h1
  · rw [sI_at, if_neg (by omega)]; exact h2
  · rw [sI_fn (by omega), sI_fn (by omega)]; exact h3 j hj
  · rw [sI_at, if_neg (by omega)]; exact h5
  · rw [sI_at, if_neg (by omega)]; exact h6
theorem RdS.wd (h : RdS M r tx e i) : gR M r 5 = wdT tx e i ∧ gI M r 6 = nI (bg tx e i) ∧ gI M r 7 = vl tx e i := by
  obtain ⟨n, n1, n2, n3, h1, h2, h3, h4, h5, h6⟩ := h
  exact ⟨h4, h5, h6⟩
theorem nextC (hr : rOK r) (he : e ≤ 400) (h : RdS M r tx e i) : Tr (f_X7_next M r) (fun N => RdS N r tx e (i + 1) ∧ Fr [r] M N ∧ N.1 r 8 = M.1 r 8) := by
  obtain ⟨n, n1, n2, n3, h1, h2, h3, h4, h5, h6⟩ := h
  have g3 : gI M r 3 = nI (n + 1) := h1
  have g4 : gI M r 4 = nI (min i n) := h2
  have hmin : min i n ≤ n := Nat.min_le_right _ _
  have fin : ∀ K : Mm, K = M ∨ K = sI M r 4 (nI (i + 1)) → K.1 r 4 = nI (min (i + 1) n) → Tr (f_X7_next_J23 K r) (fun N => RdS N r tx e (i + 1) ∧ Fr [r] M N ∧ N.1 r 8 = M.1 r 8) := fun K hK hK4 => by
    have hmin2 : min (i + 1) n ≤ n := Nat.min_le_right _ _
    have k1 : ∀ c, c ≠ 4 → K.1 r c = M.1 r c := fun c hc => by
      rcases hK with rfl | rfl
      · rfl
      · rw [sI_at, if_neg (by omega)]
    have k2 : ∀ j, j ≠ r → K.1 j = M.1 j := fun j hj => by
      rcases hK with rfl | rfl
      · rfl
      · exact sI_fn hj
    have k3 : K.2 = M.2 := by
      rcases hK with rfl | rfl
      · rfl
      · rfl
    have kF : Fr [r] M K := by
      rcases hK with rfl | rfl
      · exact Fr.rf
      · exact Fr.sI (by simp)
    have wE : K.2.2 (r + 1) (min (i + 1) n) = wdT tx e (min (i + 1) n) := by rw [k3]; exact (h3 _ hmin2).1
    have same : wdT tx e (min (i + 1) n) = wdT tx e (i + 1) ∧ bg tx e (min (i + 1) n) = bg tx e (i + 1) ∧ vl tx e (min (i + 1) n) = vl tx e (i + 1) := by
      have hb : bg tx e (min (i + 1) n) = bg tx e (i + 1) := by
        by_cases c : i + 1 ≤ n
        · rw [Nat.min_eq_left c]
        · rw [Nat.min_eq_right (by omega), n2, bg_ge he n2 _ (by omega)]
      unfold wdT vl
      rw [hb]
      exact ⟨rfl, rfl, rfl⟩
    have e23 := j23C hr hK4 (by omega) (by rw [wE]; exact isW_wd)
    rw [e23, wE, k2 (r + 2) (by omega), k2 (r + 3) (by omega), (h3 _ hmin2).2.1, (h3 _ hmin2).2.2, same.1, same.2.1, same.2.2]
    refine Tr.some ⟨⟨n, n1, n2, n3, ?_, ?_, fun j hj => ⟨?_, ?_, ?_⟩, ?_, ?_, ?_⟩, ((kF.tr (Fr.sR (by simp))).tr (Fr.sI (by simp))).tr (Fr.sI (by simp)), ?_⟩
    · rw [sI_at, if_neg (by omega), sI_at, if_neg (by omega)]; exact (k1 3 (by decide)).trans h1
    · rw [sI_at, if_neg (by omega), sI_at, if_neg (by omega)]; exact hK4
    · show up2 K.2.2 r 5 _ (r + 1) j = _
      rw [up2_fn (by omega), k3]; exact (h3 j hj).1
    · rw [sI_fn (by omega), sI_fn (by omega)]
      show K.1 (r + 2) j = _
      rw [k2 (r + 2) (by omega)]; exact (h3 j hj).2.1
    · rw [sI_fn (by omega), sI_fn (by omega)]
      show K.1 (r + 3) j = _
      rw [k2 (r + 3) (by omega)]; exact (h3 j hj).2.2
    · show up2 K.2.2 r 5 _ r 5 = _
      exact up2_eq
    · rw [sI_at, if_neg (by omega), sI_at, if_pos ⟨rfl, rfl⟩]
    · rw [sI_at, if_pos ⟨rfl, rfl⟩]
    · rw [sI_at, if_neg (by omega), sI_at, if_neg (by omega)]; exact k1 8 (by decide)
  unfold f_X7_next
  rw [g3, g4, l_1, nI_subI (by omega), show n + 1 - 1 = n by omega]
  by_cases c : n ≤ i
  · rw [if_pos (by rw [nI_leI (by omega) (by omega)]; omega)]
    exact fin M (Or.inl rfl) (by rw [h2]; congr 1; omega)
  · rw [if_neg (by rw [nI_leI (by omega) (by omega)]; omega), Option.bind_some, nI_add, show min i n + 1 = i + 1 by omega]
    exact fin _ (Or.inr rfl) (by rw [sI_at, if_pos ⟨rfl, rfl⟩]; congr 1; omega)
theorem skipC (hr : rOK r) (he : e ≤ 400) (h : RdS M r tx e i) (w : Nat) : (wdT tx e i = w ∧ Tr (f_X7_skip M r w) (fun x => x.1 = true ∧ RdS x.2 r tx e (i + 1) ∧ Fr [r] M x.2 ∧ x.2.1 r 8 = M.1 r 8)) ∨ (wdT tx e i ≠ w ∧ f_X7_skip M r w = some (false, M)) := by
  have g5 := h.wd.1
  by_cases c : wdT tx e i = w
  · refine Or.inl ⟨c, ?_⟩
    unfold f_X7_skip f_X7_skip_J13
    rw [Option.bind_some, g5, if_pos isW_wd, if_pos c, if_neg (by decide)]
    refine Tr.bind (nextC hr he h) (fun N hN => ?_)
    rw [if_neg (by decide), if_pos rfl]
    exact Tr.some ⟨rfl, hN⟩
  · refine Or.inr ⟨c, ?_⟩
    unfold f_X7_skip f_X7_skip_J13
    rw [Option.bind_some, g5, if_pos isW_wd, if_neg c, if_pos rfl, if_pos rfl]
theorem numWC (h : RdS M r tx e i) : f_X7_numberWithin M r x y = some (if wdT tx e i = 328 ∧ ¬ vl tx e i < x ∧ ¬ y < vl tx e i then vl tx e i else -1) := by
  obtain ⟨g5, g6, g7⟩ := h.wd
  unfold f_X7_numberWithin
  rw [Option.bind_some, g5, if_pos isW_wd, g7]
  by_cases c1 : wdT tx e i = 328
  · rw [if_pos c1]
    by_cases c2 : vl tx e i < x
    · rw [if_pos c2, if_neg (fun hh => hh.2.1 c2)]
    · rw [if_neg c2]
      by_cases c3 : y < vl tx e i
      · rw [if_pos c3, if_neg (fun hh => hh.2.2 c3)]
      · rw [if_neg c3, if_pos ⟨c1, c2, c3⟩]
  · rw [if_neg c1, if_neg (fun hh => c1 hh.1)]
theorem marksHC (h : RdS M r tx e i) : f_X7_marksHere M r = some (if wdT tx e i = 329 then vl tx e i else -1) := by
  obtain ⟨g5, g6, g7⟩ := h.wd
  unfold f_X7_marksHere
  rw [Option.bind_some, g5, if_pos isW_wd, g7]
  by_cases c1 : wdT tx e i = 329
  · rw [if_pos c1, if_pos c1]
  · rw [if_neg c1, if_neg c1]
theorem refuseC (h : RdS M r tx e i) : f_X7_refuse M r = (false, sI M r 8 (nI (bg tx e i))) := by
  unfold f_X7_refuse
  rw [h.wd.2.1]
theorem openC (hr : rOK r) (h : TxC M tx e) : Tr (f_X7_open M r 2 (nI e)) (fun N => RdS N r tx e 0 ∧ Fr [r, r + 1, r + 2, r + 3] M N ∧ N.1 r 8 = -1) := by
  obtain ⟨l2, l3, l4, l5⟩ := hr.ln
  have he := h.1
  unfold f_X7_open
  rw [Option.bind_some]
  refine Tr.bind (Q := fun N => Fr [r, r + 1, r + 2, r + 3] M N ∧ ∃ k, k ≤ e ∧ bg tx e k = e ∧ (∀ j, j < k → bg tx e j < e) ∧ N.1 r 3 = nI k ∧ ∀ j, j < k → N.2.2 (r + 1) j = wdT tx e j ∧ N.1 (r + 2) j = nI (bg tx e j) ∧ N.1 (r + 3) j = vl tx e j) ?_ (fun N hN => ?_)
  · refine lpM (fun s : Mm × Int32 => e - s.2.toNatClampNeg) (fun s => Fr [r, r + 1, r + 2, r + 3] M s.1 ∧ ∃ k p, s.2 = nI p ∧ p ≤ e ∧ k ≤ p ∧ sk tx e p = bg tx e k ∧ (∀ j, j < k → bg tx e j < e) ∧ s.1.1 r 3 = nI k ∧ ∀ j, j < k → s.1.2.2 (r + 1) j = wdT tx e j ∧ s.1.1 (r + 2) j = nI (bg tx e j) ∧ s.1.1 (r + 3) j = vl tx e j) (fun s hP => ?_) _ (by show e - (0 : Int32).toNatClampNeg < 10000; omega) ⟨Fr.sI (by simp), 0, 0, rfl, Nat.zero_le _, Nat.le_refl _, rfl, fun j hj => absurd hj (Nat.not_lt_zero j), by rw [sI_at, if_pos ⟨rfl, rfl⟩]; rfl, fun j hj => absurd hj (Nat.not_lt_zero j)⟩
    obtain ⟨K, s2⟩ := s
    obtain ⟨hF, k, p, hp, p1, p2, p3, p4, p5, p6⟩ := hP
    have hp : s2 = nI p := hp
    subst hp
    have hT : TxC K tx e := ⟨he, fun i hi => by rw [(hF 2 (by simp; omega)).1]; exact h.2 i hi⟩
    have p5 : K.1 r 3 = nI k := p5
    show Tr (f_X7_open_L7 K r 2 (nI e) (nI p)) _
    unfold f_X7_open_L7
    by_cases c : e ≤ p
    · rw [if_pos (by rw [nI_leI (by omega) (by omega)]; exact c)]
      have hpe : p = e := by omega
      rw [hpe, sk_id he] at p3
      exact Tr.some (Or.inr ⟨_, rfl, hF, k, by omega, p3.symm, p4, p5, p6⟩)
    · rw [if_neg (by rw [nI_leI (by omega) (by omega)]; exact c), hT.at (by omega)]
      have pe : p < e := by omega
      -- a word's end: one more
      have fin : ∀ (K2 : Mm) (a : Nat), Fr [r, r + 1, r + 2, r + 3] M K2 → tkE tx e p = a → bg tx e k = p → K2.1 r 3 = nI (k + 1) → (∀ j, K2.2.2 (r + 1) j = (if j = k then wdT tx e k else K.2.2 (r + 1) j) ∧ K2.1 (r + 2) j = (if j = k then nI (bg tx e k) else K.1 (r + 2) j) ∧ K2.1 (r + 3) j = (if j = k then vl tx e k else K.1 (r + 3) j)) → Tr (f_X7_open_J7_116 K2 r 2 (nI e) (nI p) (nI a)) (fun x => (∃ s', x = Sum.inl s' ∧ (Fr [r, r + 1, r + 2, r + 3] M s'.1 ∧ ∃ k p, s'.2 = nI p ∧ p ≤ e ∧ k ≤ p ∧ sk tx e p = bg tx e k ∧ (∀ j, j < k → bg tx e j < e) ∧ s'.1.1 r 3 = nI k ∧ ∀ j, j < k → s'.1.2.2 (r + 1) j = wdT tx e j ∧ s'.1.1 (r + 2) j = nI (bg tx e j) ∧ s'.1.1 (r + 3) j = vl tx e j) ∧ e - s'.2.toNatClampNeg < e - (nI p).toNatClampNeg) ∨ ∃ r', x = Sum.inr r' ∧ (Fr [r, r + 1, r + 2, r + 3] M r' ∧ ∃ k, k ≤ e ∧ bg tx e k = e ∧ (∀ j, j < k → bg tx e j < e) ∧ r'.1 r 3 = nI k ∧ ∀ j, j < k → r'.2.2 (r + 1) j = wdT tx e j ∧ r'.1 (r + 2) j = nI (bg tx e j) ∧ r'.1 (r + 3) j = vl tx e j)) := by
        intro K2 a f1 f2 f3 f4 f5
        have a1 := tkE_lt (tx := tx) he pe
        have a2 := tkE_le (tx := tx) he p1
        rw [f2] at a1 a2
        unfold f_X7_open_J7_116
        rw [l_1, nI_add, mx_nI (by omega) (by omega), Nat.max_eq_left (by omega)]
        refine Tr.some (Or.inl ⟨(K2, nI a), rfl, ⟨f1, k + 1, a, rfl, a2, by omega, ?_, fun j hj => ?_, f4, fun j hj => ?_⟩, ?_⟩)
        · show sk tx e a = sk tx e (tkE tx e (bg tx e k))
          rw [f3, f2]
        · by_cases d : j = k
          · rw [d, f3]; exact pe
          · exact p4 j (by omega)
        · obtain ⟨f6, f7, f8⟩ := f5 j
          rw [f6, f7, f8]
          by_cases d : j = k
          · subst d
            rw [if_pos rfl, if_pos rfl, if_pos rfl]
            exact ⟨rfl, rfl, rfl⟩
          · rw [if_neg d, if_neg d, if_neg d]
            exact p6 j (by omega)
        · show e - (nI a).toNatClampNeg < e - (nI p).toNatClampNeg
          rw [nI_clamp (by omega), nI_clamp (by omega)]
          omega
      -- a word stands here
      have here : tx p ≠ 32 → bg tx e k = p := fun hne => by
        rw [← p3]
        refine run_uq (sk_run he p) ⟨Nat.le_refl _, fun i h1 h2 => absurd h1 (Nat.not_le_of_lt h2), ?_⟩
        simp [skQ, hne]
      have lt32 : ltC (tx p) = true → tx p ≠ 32 := fun hl e2 => by rw [e2] at hl; exact absurd hl (by decide)
      have dg32 : dgC (tx p) = true → tx p ≠ 32 := fun hl e2 => by rw [e2] at hl; exact absurd hl (by decide)
      by_cases d1 : ltC (tx p) = true
      · have hb := here (lt32 d1)
        have r1 := lr_run (tx := tx) he p
        have rle := run_le ltQ_e r1 p1
        have hall : ∀ i, p ≤ i → i < lrE tx e p → ltC (tx i) = true := fun i h1 h2 => by
          have := r1.2.1 i h1 h2
          simp only [ltQ, Bool.and_eq_true] at this
          exact this.2
        rw [if_pos (show f_X7_isLetter K (tx p) = true from d1), endLC hT p1, Option.bind_some, spelC hT r1.1 rle, Option.bind_some, if_pos isW_spl, marksC hT r1.1 rle hall, Option.bind_some]
        refine Tr.bind (addC hr p5 (by omega)) (fun K2 hK2 => ?_)
        obtain ⟨u1, u2, u3, u4, u5⟩ := hK2
        have ew : wdT tx e k = spl tx p (lrE tx e p) := by unfold wdT wdP; rw [hb, if_neg c, if_pos d1]
        have ev : vl tx e k = oI (mkS tx p (lrE tx e p - p)) := by unfold vl vlP; rw [hb, if_neg c, if_pos d1]
        refine fin K2 (lrE tx e p) (hF.tr u1) (by unfold tkE; rw [if_neg c, if_pos d1]) hb u4 (fun j => ?_)
        rw [ew, ev, hb]
        exact u5 j
      · rw [if_neg (show ¬ f_X7_isLetter K (tx p) = true from d1)]
        by_cases d2 : dgC (tx p) = true
        · have hb := here (dg32 d2)
          have r1 := dg_run (tx := tx) he p
          have rle := run_le dgQ_e r1 p1
          have hall : ∀ i, p ≤ i → i < dgE tx e p → dgC (tx i) = true := fun i h1 h2 => by
            have := r1.2.1 i h1 h2
            simp only [dgQ, Bool.and_eq_true] at this
            exact this.2
          rw [if_pos (show f_X7_isDigit K (tx p) = true from d2), endDC hT p1, Option.bind_some, numC hT r1.1 rle hall, Option.bind_some]
          refine Tr.bind (addC hr p5 (by omega)) (fun K2 hK2 => ?_)
          obtain ⟨u1, u2, u3, u4, u5⟩ := hK2
          have ew : wdT tx e k = 328 := by unfold wdT wdP; rw [hb, if_neg c, if_neg d1, if_pos d2]
          have ev : vl tx e k = nI (nuV tx p (dgE tx e p)) := by unfold vl vlP; rw [hb, if_neg c, if_neg d1, if_pos d2]
          refine fin K2 (dgE tx e p) (hF.tr u1) (by unfold tkE; rw [if_neg c, if_neg d1, if_pos d2]) hb u4 (fun j => ?_)
          rw [ew, ev, hb]
          exact u5 j
        · rw [if_neg (show ¬ f_X7_isDigit K (tx p) = true from d2)]
          by_cases d3 : tx p = 32
          · rw [if_pos d3]
            unfold f_X7_open_J7_116
            rw [l_1, nI_add, mx_nI (by omega) (by omega), Nat.max_self]
            refine Tr.some (Or.inl ⟨(K, nI (p + 1)), rfl, ⟨hF, k, p + 1, rfl, by omega, by omega, ?_, p4, p5, p6⟩, ?_⟩)
            · rw [← p3]
              have r1 := sk_run (tx := tx) he p
              have hq : skQ tx e p = true := by simp [skQ, pe, d3]
              have := run_lt r1 hq
              exact run_uq (sk_run he (p + 1)) (run_from r1 (by omega) (by omega))
            · show e - (nI (p + 1)).toNatClampNeg < e - (nI p).toNatClampNeg
              rw [nI_clamp (by omega), nI_clamp (by omega)]
              omega
          · have hb := here d3
            rw [if_neg d3, l_1, nI_add, spelC hT (by omega) (by omega), Option.bind_some, if_pos isW_spl]
            refine Tr.bind (addC hr p5 (by omega)) (fun K2 hK2 => ?_)
            obtain ⟨u1, u2, u3, u4, u5⟩ := hK2
            have ew : wdT tx e k = spl tx p (p + 1) := by unfold wdT wdP; rw [hb, if_neg c, if_neg d1, if_neg d2]
            have ev : vl tx e k = -1 := by unfold vl vlP; rw [hb, if_neg c, if_neg d1, if_neg d2]
            refine fin K2 (p + 1) (hF.tr u1) (by unfold tkE; rw [if_neg c, if_neg d1, if_neg d2]) hb u4 (fun j => ?_)
            rw [ew, ev, hb]
            exact u5 j
  · obtain ⟨hF, k, k1, k2, k3, k4, k5⟩ := hN
    refine Tr.bind (addC hr k4 (by omega)) (fun K hK => ?_)
    obtain ⟨u1, u2, u3, u4, u5⟩ := hK
    rw [Option.bind_some, Option.bind_some]
    have ew : wdT tx e k = 330 := by unfold wdT wdP; rw [k2, if_pos (Nat.le_refl _)]
    have ev : vl tx e k = -1 := by unfold vl vlP; rw [k2, if_pos (Nat.le_refl _)]
    have arr : ∀ j, j ≤ k → K.2.2 (r + 1) j = wdT tx e j ∧ K.1 (r + 2) j = nI (bg tx e j) ∧ K.1 (r + 3) j = vl tx e j := fun j hj => by
      obtain ⟨f6, f7, f8⟩ := u5 j
      rw [f6, f7, f8]
      by_cases d : j = k
      · subst d
        rw [if_pos rfl, if_pos rfl, if_pos rfl, ew, ev, k2]
        exact ⟨rfl, rfl, rfl⟩
      · rw [if_neg d, if_neg d, if_neg d]
        exact k5 j (by omega)
    generalize hK2 : sI (sI K r 8 (-1)) r 4 (-1) = K2
    have z3 : K2.1 r 3 = nI (k + 1) := by rw [← hK2, sI_at, if_neg (by omega), sI_at, if_neg (by omega)]; exact u4
    have z4 : gI K2 r 4 = -1 := by show K2.1 r 4 = _; rw [← hK2, sI_at, if_pos ⟨rfl, rfl⟩]
    have zF : Fr [r] K K2 := by rw [← hK2]; exact (Fr.sI (by simp)).tr (Fr.sI (by simp))
    have z8 : K2.1 r 8 = -1 := by rw [← hK2, sI_at, if_neg (by omega), sI_at, if_pos ⟨rfl, rfl⟩]
    have e5 : (sI K2 r 4 (-1 + 1)).1 r 4 = nI 0 := by rw [sI_at, if_pos ⟨rfl, rfl⟩]; decide
    have za : ∀ j, j ≤ k → (sI K2 r 4 (-1 + 1)).2.2 (r + 1) j = wdT tx e j ∧ (sI K2 r 4 (-1 + 1)).1 (r + 2) j = nI (bg tx e j) ∧ (sI K2 r 4 (-1 + 1)).1 (r + 3) j = vl tx e j := fun j hj => by
      rw [sI_fn (by omega), sI_fn (by omega), (zF (r + 2) (by simp)).1, (zF (r + 3) (by simp)).1]
      show K2.2.2 (r + 1) j = _ ∧ _
      rw [(zF (r + 1) (by simp)).2.2]
      exact arr j hj
    have e23 := j23C hr e5 (by decide) (by rw [(za 0 (by omega)).1]; exact isW_wd)
    unfold f_X7_next
    rw [show gI K2 r 3 = nI (k + 1) from z3, z4, show nI (k + 1) - 1 = nI k from (nI_subI (a := k + 1) (b := 1) (by omega)), if_neg (by
      rw [Int32.not_le, Int32.lt_iff_toInt_lt, nI_toInt (by omega)]
      have : ((-1 : Int32)).toInt = -1 := rfl
      omega), Option.bind_some, e23, (za 0 (by omega)).1, (za 0 (by omega)).2.1, (za 0 (by omega)).2.2, Option.bind_some]
    refine Tr.some ⟨⟨k, k1, k2, k3, ?_, ?_, fun j hj => ⟨?_, ?_, ?_⟩, ?_, ?_, ?_⟩, hF.tr (u1.tr ((zF.mono (by simp)).tr ((((Fr.sI (by simp)).tr (Fr.sR (by simp))).tr (Fr.sI (by simp))).tr (Fr.sI (by simp))))), ?_⟩
    · rw [sI_at, if_neg (by omega), sI_at, if_neg (by omega)]
      show (sI K2 r 4 _).1 r 3 = _
      rw [sI_at, if_neg (by omega)]; exact z3
    · rw [sI_at, if_neg (by omega), sI_at, if_neg (by omega)]
      rw [Nat.zero_min]
      exact e5
    · show up2 K2.2.2 r 5 _ (r + 1) j = _
      rw [up2_fn (by omega)]; exact (za j hj).1
    · rw [sI_fn (by omega), sI_fn (by omega)]; exact (za j hj).2.1
    · rw [sI_fn (by omega), sI_fn (by omega)]; exact (za j hj).2.2
    · show up2 K2.2.2 r 5 _ r 5 = _
      exact up2_eq
    · rw [sI_at, if_neg (by omega), sI_at, if_pos ⟨rfl, rfl⟩]
    · rw [sI_at, if_pos ⟨rfl, rfl⟩]
    · rw [sI_at, if_neg (by omega), sI_at, if_neg (by omega)]
      show (sI K2 r 4 _).1 r 8 = _
      rw [sI_at, if_neg (by omega)]; exact z8
end READER
