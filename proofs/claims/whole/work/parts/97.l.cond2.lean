/-! the class reads a condition, whole -/
section LAWM
variable {tx : Nat → Int32} {e i j k r b f c a d n q w L : Nat} {M N K : Mm} {x y s op : Int32} {p out st : List Int32} {v : Bool} {R : GP}
theorem sttl_idem (hop : op = 1024 ∨ op = 1025) (h : wsh st) : sttl op (sttl op st out).1 (sttl op st out).2 = sttl op st out := by
  have := (sttl_ok hop st out h).2.1
  rw [sttl_id this]
theorem mach_s (hj : wdT tx e j ≠ 314) (h : wsh st) : mach tx e k false (sttl 1025 st out).1 (sttl 1025 st out).2 j = mach tx e k false st out j := by
  cases k with
  | zero => rfl
  | succ k =>
    unfold mach
    rw [sttl_idem (Or.inr rfl) h, if_neg hj, if_neg hj]
theorem closC (hL : kd L = 2) (he : e ≤ 400) (h : CSt tx e L M false st out i R) : Tr (f_X3_readClosings M L) (fun N => FrL L M N ∧ N.1 104 8 = M.1 104 8 ∧ ∃ st' out' i', i ≤ i' ∧ CSt tx e L N false st' out' i' R ∧ (wdT tx e i' ≠ 324 ∨ (sttl 1025 st' out').1 = [])) := by
  have hr : rOK 104 := Or.inr rfl
  have hLn := (lnL hL).2.2.2.2.2
  unfold f_X3_readClosings
  refine Tr.bind (Q := fun r : Mm ⊕ Mm => Tr (Sum.elim (fun v => some v) (fun e_6 => some e_6) r) (fun N => FrL L M N ∧ N.1 104 8 = M.1 104 8 ∧ ∃ st' out' i', i ≤ i' ∧ CSt tx e L N false st' out' i' R ∧ (wdT tx e i' ≠ 324 ∨ (sttl 1025 st' out').1 = []))) ?_ (fun r hr2 => hr2)
  refine lp0 (fun k (N : Mm) => (N, nI k)) 6 (fun k N => FrL L M N ∧ N.1 104 8 = M.1 104 8 ∧ ∃ st' out' i', i ≤ i' ∧ dp st' + k ≤ 6 ∧ CSt tx e L N false st' out' i' R) (by decide) M rfl ⟨FrL.rf, rfl, st, out, i, Nat.le_refl _, h.2.2.1, h⟩ (fun k N hk hP => ?_) (fun N hP => ?_)
  · obtain ⟨f1, f2, st', out', i', g0, g1, c1, c2, c3, c4, c5, c6, kk, c7⟩ := hP
    have hle := bg_le (tx := tx) he i'
    have hlen := wsh_21 c2 c3
    rw [if_neg (show ¬ false = true by decide), Nat.add_zero] at c6
    show Tr (f_X3_readClosings_L2 N L (nI k)) _
    unfold f_X3_readClosings_L2
    rw [if_neg (by rw [show (6 : Int32) = nI 6 from rfl, nI_leI (by omega) (by omega)]; omega), c4.wd.1, Option.bind_some, if_pos isW_wd]
    by_cases w1 : wdT tx e i' = 324
    · rw [if_pos w1]
      have hp := mach_s (tx := tx) (e := e) (j := i') (k := kk) (out := out') (show wdT tx e i' ≠ 314 by rw [w1]; decide) c2
      obtain ⟨s1, s2, s3, s4⟩ := sttl_ok (Or.inr rfl) st' out' c2
      refine Tr.bind (settleC hL (Or.inr rfl) c1 c5 (by omega) (by omega)) (fun K hK => ?_)
      generalize hS : sttl 1025 st' out' = S at s1 s2 s3 s4 hK hp
      obtain ⟨S1, S2⟩ := S
      obtain ⟨t1, t2, t3, t4⟩ : StO K S1 (dp S1) ∧ PrC K L S2 ∧ Fr [L, L + 4, 102] N K ∧ ∀ c, c ≠ 5 → K.1 L c = N.1 L c := hK
      have s1 : wsh S1 := s1
      have s2 : tpG 1025 S1 := s2
      have s3 : dp S1 ≤ dp st' := s3
      have s4 : S2.length + S1.length = out'.length + st'.length := s4
      have fK : FrL L N K := ⟨t3.mono (by simp), t4⟩
      have eK : K.1 104 8 = N.1 104 8 := congrFun (t3 104 (by simp; omega)).1 8
      have rK : RdS K 104 tx e i' := c4.fr (fun j h1 h2 => ⟨(t3 j (by simp; omega)).1, (t3 j (by simp; omega)).2.2⟩)
      cases S1 with
      | nil =>
        rw [show gI K 102 2 = nI 0 from t1.1, if_pos (show nI 0 = 0 from rfl)]
        refine Tr.some (Or.inr ⟨_, rfl, Tr.some ⟨f1.tr fK, eK.trans f2, [], S2, i', g0, ⟨t1, s1, Nat.zero_le _, rK, t2, ?_, kk, hp.trans c7⟩, Or.inr rfl⟩⟩)
        rw [if_neg (show ¬ false = true by decide)]; omega
      | cons y st2 =>
        have hy : y = 1026 := by
          rcases s1.2 with h | h | ⟨h, -⟩ | ⟨h, -⟩
          · exact absurd (show y ≤ 1025 by rw [h]; decide) s2
          · exact h
          · exact absurd (show y ≤ 1025 by rw [h]; decide) s2
          · exact absurd (show y ≤ 1025 by rw [h]; decide) s2
        have hd : dp (y :: st2) = dp st2 + 1 := by rw [dp, if_pos (Or.inr hy)]
        rw [hd] at t1 s3
        rw [List.length_cons] at s4
        have g2 : gI K 102 2 = nI (st2.length + 1) := t1.1
        have g3 : gI (sI K 102 2 (nI st2.length)) 102 3 = nI (dp st2 + 1) := by show (sI K 102 2 _).1 102 3 = _; rw [sI_at, if_neg (by omega)]; exact t1.2.1
        rw [g2, if_neg (show ¬ nI (st2.length + 1) = 0 by rw [show (0 : Int32) = nI 0 from rfl, nI_eq (by omega) (by omega)]; omega), nI_less1 (by omega), Nat.add_sub_cancel, Option.bind_some, g3, nI_less1 (by omega), Nat.add_sub_cancel, Option.bind_some]
        have sB : StO (sI (sI K 102 2 (nI st2.length)) 102 3 (nI (dp st2))) st2 (dp st2) := StO.pop (x := y) (z := y) t1 (by rw [sI_at, if_neg (by omega), sI_at, if_pos ⟨rfl, rfl⟩]) (by rw [sI_at, if_pos ⟨rfl, rfl⟩]) (by rw [sI_fn (by decide), sI_fn (by decide)])
        have fB : Fr [102] K (sI (sI K 102 2 (nI st2.length)) 102 3 (nI (dp st2))) := (Fr.sI (by simp)).tr (Fr.sI (by simp))
        generalize sI (sI K 102 2 (nI st2.length)) 102 3 (nI (dp st2)) = B at sB fB
        have rB : RdS B 104 tx e i' := rK.fr (fun j h1 h2 => ⟨(fB j (by simp; omega)).1, (fB j (by simp; omega)).2.2⟩)
        have pB : PrC B L S2 := t2.fr hL (fB.mono (by simp))
        refine Tr.bind (nextC hr he rB) (fun C hC => ?_)
        obtain ⟨n1, n2, n3⟩ := hC
        have up := bg_up he (show wdT tx e i' ≠ 330 by rw [w1]; decide)
        have c8 : ∃ k2, mach tx e k2 false st2 S2 (i' + 1) = some R := by
          cases kk with
          | zero => exact nomatch c7
          | succ kk =>
            rw [mach, if_pos w1, hS, if_neg (fun h => nomatch h)] at c7
            exact ⟨kk, c7⟩
        rw [l_1, nI_add]
        refine Tr.some (Or.inl ⟨C, rfl, ((f1.tr fK).tr (FrL.stk hL (fB.mono (by simp)))).tr (FrL.r104 hL n2), ((n3.trans (congrFun (fB 104 (by simp)).1 8)).trans eK).trans f2, st2, S2, i' + 1, by omega, by omega, sB.fr (n2 102 (by simp)).1 (n2 103 (by simp)).1, s1.1, by omega, n1, pB.f1 hL n2, ?_, c8⟩)
        rw [if_neg (show ¬ false = true by decide)]; omega
    · rw [if_neg w1]
      refine Tr.some (Or.inr ⟨_, rfl, Tr.some ⟨f1, f2, st', out', i', g0, ⟨c1, c2, c3, c4, c5, ?_, kk, c7⟩, Or.inl w1⟩⟩)
      rw [if_neg (show ¬ false = true by decide)]; exact c6
  · obtain ⟨f1, f2, st', out', i', g0, g1, c⟩ := hP
    show Tr (f_X3_readClosings_L2 N L (nI 6)) _
    unfold f_X3_readClosings_L2
    rw [if_pos (by decide)]
    exact Tr.some ⟨_, rfl, Tr.some ⟨f1, f2, st', out', i', g0, c, Or.inr (sttl_dp0 _ _ c.2.1 (by omega))⟩⟩
/-- how the class stands behind a condition -/
def CdC (tx : Nat → Int32) (e L : Nat) (M : Mm) (R : GP) (z : Bool × Mm) : Prop := FrL L M z.2 ∧ match R with | .inl b => z.1 = false ∧ z.2.1 104 8 = nI (bg tx e b) | .inr (p, j) => z.1 = true ∧ z.2.1 104 8 = M.1 104 8 ∧ PrC z.2 L p ∧ RdS z.2 104 tx e j ∧ p.length ≤ bg tx e j
theorem condC (hL : kd L = 2) (ht : TT tx e) (h : RdS M 104 tx e i) (hp : PrC M L out) (hb : out.length + 1 ≤ bg tx e i) (hi : i ≤ 400) (hm : MS tx e true [] out i R) : Tr (f_X3_readCondition M L) (CdC tx e L M R) := by
  have hr : rOK 104 := Or.inr rfl
  have he := ht.1
  have hLn := (lnL hL).2.2.2.2.2
  obtain ⟨kk, hm⟩ := hm
  unfold f_X3_readCondition
  rw [Option.bind_some, Option.bind_some]
  have sB : StO (sI (sI M 102 2 0) 102 3 0) [] 0 := ⟨by rw [sI_at, if_neg (by omega), sI_at, if_pos ⟨rfl, rfl⟩]; rfl, by rw [sI_at, if_pos ⟨rfl, rfl⟩]; rfl, fun k hk => absurd hk (Nat.not_lt_zero _)⟩
  have fB : Fr [102] M (sI (sI M 102 2 0) 102 3 0) := (Fr.sI (by simp)).tr (Fr.sI (by simp))
  generalize sI (sI M 102 2 0) 102 3 0 = M2 at sB fB
  have r2 : RdS M2 104 tx e i := h.fr (fun j h1 h2 => ⟨(fB j (by simp; omega)).1, (fB j (by simp; omega)).2.2⟩)
  have p2 : PrC M2 L out := hp.fr hL (fB.mono (by simp))
  have f2 : FrL L M M2 := FrL.stk hL (fB.mono (by simp))
  have e2 : M2.1 104 8 = M.1 104 8 := congrFun (fB 104 (by simp)).1 8
  refine Tr.bind (Q := fun r : (Bool × Mm) ⊕ Mm => Tr (Sum.elim (fun v => some v) (fun e_17 => (some (f_X7_refuse e_17 104)).bind (fun rr19 => some (rr19.1, rr19.2))) r) (CdC tx e L M R)) ?_ (fun r hr2 => hr2)
  refine lp0 (fun k (N : Mm) => (N, nI k)) 400 (fun k N => FrL L M N ∧ N.1 104 8 = M.1 104 8 ∧ ∃ st' out' i', 2 * k ≤ i' ∧ i' ≤ 400 ∧ CSt tx e L N true st' out' i' R) (by decide) M2 rfl ⟨f2, e2, [], out, i, Nat.zero_le _, hi, sB, trivial, Nat.zero_le _, r2, p2, by rw [if_pos rfl]; exact hb, kk, hm⟩ (fun k N hk hP => ?_) (fun N hP => ?_)
  · obtain ⟨f1, f2, st', out', i', g0, g1, c⟩ := hP
    show Tr (f_X3_readCondition_L12 N L (nI k)) _
    unfold f_X3_readCondition_L12
    rw [if_neg (by rw [show (400 : Int32) = nI 400 from rfl, nI_leI (by omega) (by omega)]; omega)]
    refine Tr.bind (opensC hL he c) (fun z hz => ?_)
    obtain ⟨z1, N1⟩ := z
    obtain ⟨fz, hz⟩ := hz
    have fz : FrL L M N1 := f1.tr fz
    rcases hz with ⟨y1, b, y2, y3⟩ | ⟨y1, y2, st1, i1, y3, y4, c1, c2, c3, c4, c5, c6, kk, c7⟩
    · have y1 : z1 = false := y1
      rw [y1, if_neg (show ¬ false = true by decide)]
      refine Tr.some (Or.inr ⟨_, rfl, Tr.some ⟨fz, ?_⟩⟩)
      rw [y2]
      exact ⟨rfl, y3⟩
    · have y1 : z1 = true := y1
      have y2 : N1.1 104 8 = N.1 104 8 := y2
      have c1 : StO N1 st1 (dp st1) := c1
      have c4 : RdS N1 104 tx e i1 := c4
      have c5 : PrC N1 L out' := c5
      rw [y1, if_pos rfl]
      rw [if_pos rfl] at c6
      cases kk with
      | zero => exact nomatch c7
      | succ kk =>
      rw [mach, if_neg y4] at c7
      refine Tr.bind (atomC (b := st1.length + 1) hL ht c4 c5 (by omega) (by omega)) (fun z hz => ?_)
      obtain ⟨z2, N2⟩ := z
      obtain ⟨fa, hz⟩ := hz
      have fa : Fr3 L N1 N2 := fa
      cases hq : plP tx e i1 with
      | inl b =>
        rw [hq] at hz c7
        obtain ⟨x1, x2⟩ : z2 = false ∧ N2.1 104 8 = nI (bg tx e b) := hz
        have c7 : some (.inl b) = some R := c7
        rw [x1, if_neg (show ¬ false = true by decide)]
        refine Tr.some (Or.inr ⟨_, rfl, Tr.some ⟨fz.tr fa.l, ?_⟩⟩)
        rw [← Option.some.inj c7]
        exact ⟨rfl, x2⟩
      | inr o =>
        obtain ⟨p, j⟩ := o
        rw [hq] at hz c7
        obtain ⟨x1, x2, x3, x4, x5⟩ : z2 = true ∧ N2.1 104 8 = N1.1 104 8 ∧ PrC N2 L (out' ++ p) ∧ RdS N2 104 tx e j ∧ (out' ++ p).length + (st1.length + 1) ≤ bg tx e j + 1 := hz
        have c7 : mach tx e kk false st1 (out' ++ p) j = some R := c7
        have hj := plP_gt hq
        rw [x1, if_pos rfl]
        refine Tr.bind (closC (i := j) (R := R) hL he ⟨c1.f3 hL fa, c2, c3, x4, x3, by rw [if_neg (show ¬ false = true by decide)]; omega, kk, c7⟩) (fun N3 hz => ?_)
        obtain ⟨fc, ec, st3, out3, i3, q0, ⟨d1, d2, d3, d4, d5, d6, k3, d7⟩, hw⟩ := hz
        have F3 : FrL L M N3 := (fz.tr fa.l).tr fc
        have E3 : N3.1 104 8 = M.1 104 8 := ((ec.trans x2).trans y2).trans f2
        rw [if_neg (show ¬ false = true by decide), Nat.add_zero] at d6
        have hle := bg_le (tx := tx) he i3
        have hlen := wsh_21 d2 d3
        cases k3 with
        | zero => exact nomatch d7
        | succ k3 =>
        rw [mach] at d7
        rw [d4.wd.1, Option.bind_some, if_pos isW_wd]
        -- what both roads on have
        have go : ∀ (op : Int32) (w : Nat) (S1 S2 : List Int32) (A : Mm), (op = 1024 ∨ op = 1025) → (w = 14 ∨ w = 15) → wdT tx e i3 = 300 + w → StO A S1 (dp S1) → wsh S1 → tpG op S1 → dp S1 ≤ dp st3 → S2.length + S1.length = out3.length + st3.length → PrC A L S2 → RdS A 104 tx e i3 → FrL L M A → A.1 104 8 = M.1 104 8 → mach tx e k3 true (op :: S1) S2 (i3 + 1) = some R → Tr ((f_X3_leaveOpen A op).bind (fun M16 => f_X3_readCondition_J12_123 M16 L (nI k))) (fun x => (∃ s' : Mm, x = .inl (s', nI (k + 1)) ∧ (FrL L M s' ∧ s'.1 104 8 = M.1 104 8 ∧ ∃ st' out' i', 2 * (k + 1) ≤ i' ∧ i' ≤ 400 ∧ CSt tx e L s' true st' out' i' R)) ∨ ∃ r, x = .inr r ∧ Tr (Sum.elim (fun v => some v) (fun e_17 => (some (f_X7_refuse e_17 104)).bind (fun rr19 => some (rr19.1, rr19.2))) r) (CdC tx e L M R)) := fun op w S1 S2 A hop hw2 hwd a1 a2 a3 a4 a5 a6 a7 a8 a9 am => by
          have l20 := wsh_21 a2 (by omega)
          obtain ⟨B, b1, b2, b3⟩ := leaveC a1 (by omega) op
          rw [b1, Option.bind_some]
          unfold f_X3_readCondition_J12_123
          have rB : RdS B 104 tx e i3 := a7.fr (fun j h1 h2 => ⟨(b3 j (by simp; omega)).1, (b3 j (by simp; omega)).2.2⟩)
          have pB : PrC B L S2 := a6.fr hL (b3.mono (by simp))
          refine Tr.bind (nextC hr he rB) (fun C hC => ?_)
          obtain ⟨n1, n2, n3⟩ := hC
          have up := bg_up2 (j := w) he (by omega) hwd
          have lt := wd_lt (tx := tx) (e := e) (j := i3) he (by omega)
          have hdp : dp (op :: S1) = dp S1 := by
            rcases hop with rfl | rfl
            · rw [dp, if_neg (by decide), Nat.add_zero]
            · rw [dp, if_neg (by decide), Nat.add_zero]
          rw [l_1, nI_add]
          refine Tr.some (Or.inl ⟨C, rfl, (a8.tr (FrL.stk hL b3)).tr (FrL.r104 hL n2), (n3.trans (congrFun (b3 104 (by simp)).1 8)).trans a9, op :: S1, S2, i3 + 1, by omega, by omega, ?_, ⟨a2, ?_⟩, by omega, n1, pB.f1 hL n2, ?_, k3, am⟩)
          · rw [hdp]; exact b2.fr (n2 102 (by simp)).1 (n2 103 (by simp)).1
          · rcases hop with rfl | rfl
            · exact Or.inr (Or.inr (Or.inl ⟨rfl, a3⟩))
            · exact Or.inr (Or.inr (Or.inr ⟨rfl, a3⟩))
          · rw [if_pos rfl, List.length_cons]; omega
        have stl : ∀ op, (op = 1024 ∨ op = 1025) → Tr (f_X3_settle N3 L op) (fun A => StO A (sttl op st3 out3).1 (dp (sttl op st3 out3).1) ∧ PrC A L (sttl op st3 out3).2 ∧ RdS A 104 tx e i3 ∧ FrL L M A ∧ A.1 104 8 = M.1 104 8) := fun op hop => by
          refine Tr.weak (settleC hL hop d1 d5 (by omega) (by omega)) (fun A hA => ?_)
          obtain ⟨t1, t2, t3, t4⟩ := hA
          exact ⟨t1, t2, d4.fr (fun j h1 h2 => ⟨(t3 j (by simp; omega)).1, (t3 j (by simp; omega)).2.2⟩), F3.tr ⟨t3.mono (by simp), t4⟩, (congrFun (t3 104 (by simp; omega)).1 8).trans E3⟩
        by_cases w1 : wdT tx e i3 = 314
        · rw [if_neg (by omega), if_pos w1] at d7
          rw [if_pos w1]
          obtain ⟨s1, s2, s3, s4⟩ := sttl_ok (Or.inl rfl) st3 out3 d2
          refine Tr.bind (stl 1024 (Or.inl rfl)) (fun A hA => ?_)
          obtain ⟨t1, t2, t3, t4, t5⟩ := hA
          exact go 1024 14 _ _ A (Or.inl rfl) (Or.inl rfl) w1 t1 s1 s2 s3 s4 t2 t3 t4 t5 d7
        · rw [if_neg w1]
          rw [if_neg w1] at d7
          obtain ⟨s1, s2, s3, s4⟩ := sttl_ok (Or.inr rfl) st3 out3 d2
          refine Tr.bind (stl 1025 (Or.inr rfl)) (fun A hA => ?_)
          obtain ⟨t1, t2, t3, t4, t5⟩ := hA
          rw [t3.wd.1, Option.bind_some, if_pos isW_wd]
          by_cases w2 : wdT tx e i3 = 315
          · rw [if_neg (by omega), if_pos w2] at d7
            rw [if_pos w2]
            exact go 1025 15 _ _ A (Or.inr rfl) (Or.inr rfl) w2 t1 s1 s2 s3 s4 t2 t3 t4 t5 d7
          · rw [if_neg w2] at d7
            rw [if_neg w2]
            by_cases hS : (sttl 1025 st3 out3).1 = []
            · have d8 : R = .inr ((sttl 1025 st3 out3).2, i3) := by
                rw [if_pos hS, if_pos hS] at d7
                by_cases w3 : wdT tx e i3 = 324
                · rw [if_pos w3] at d7; exact (Option.some.inj d7).symm
                · rw [if_neg w3] at d7; exact (Option.some.inj d7).symm
              have hz : gI A 102 2 = nI 0 := by
                have := t1.1
                rw [hS] at this
                exact this
              rw [hz, if_pos (show nI 0 = 0 from rfl)]
              unfold f_X3_readCondition_J12_110
              refine Tr.some (Or.inr ⟨_, rfl, Tr.some ⟨t4, ?_⟩⟩)
              rw [d8]
              refine ⟨rfl, t5, t2, t3, ?_⟩
              rw [hS] at s4
              have s4 : (sttl 1025 st3 out3).2.length + 0 = out3.length + st3.length := s4
              omega
            · have w3 : ¬ wdT tx e i3 = 324 := fun h => hw.elim (fun h2 => h2 h) hS
              rw [if_neg w3, if_neg hS] at d7
              have hl0 : (sttl 1025 st3 out3).1.length ≠ 0 := fun h => hS (List.length_eq_zero_iff.mp h)
              have l20 := wsh_21 s1 (by omega)
              rw [show gI A 102 2 = nI (sttl 1025 st3 out3).1.length from t1.1, if_neg (by rw [show (0 : Int32) = nI 0 from rfl, nI_eq (by omega) (by omega)]; exact hl0), refuseC t3, Option.bind_some, if_neg (show ¬ false = true by decide)]
              refine Tr.some (Or.inr ⟨_, rfl, Tr.some ⟨t4.tr (FrL.r104 hL (Fr.sI (by simp))), ?_⟩⟩)
              rw [← Option.some.inj d7]
              refine ⟨rfl, ?_⟩
              show (sI A 104 8 _).1 104 8 = _
              rw [sI_at, if_pos ⟨rfl, rfl⟩]
  · obtain ⟨f1, f2, st', out', i', g0, g1, c⟩ := hP
    omega
end LAWM
