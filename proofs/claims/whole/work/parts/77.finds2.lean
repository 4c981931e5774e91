/-! the search in the memory -/
section FINDS2
variable {LR : Mm → Nat → (Nat → Int32) → Prop} {LK : (Nat → Int32) → Nat → Nat → Int32 → Int32} {n : Nat} {M N Mc Mr Nc Nr : Mm} {q B K A T V v : Nat} {m : Nat → Int32} {r x y x1 x2 x3 x4 x5 : Int32} {G : Nat → Nat → Bool} {R : Nat → Nat} {b b2 : Nat → Option Nat} {k k2 : Nat → Nat}
def CtR (m : Nat → Int32) (G : Nat → Nat → Bool) (M : Mm) : Prop := M.1 110 = m ∧ PR M (tN m) (vN m) G
def HdR (T : Nat) (b : Nat → Option Nat) (k : Nat → Nat) (M : Mm) : Prop := (∀ v, v < 10 → M.1 120 v = oI (b v)) ∧ ∀ t, t < T → M.1 119 t = nI (k t)
theorem CtR.fr {G : Nat → Nat → Bool} (h : CtR m G M) (hF : Fr [119, 120] M N) : CtR m G N := ⟨by rw [(hF 110 (by simp)).1]; exact h.1, fun v hv => by rw [(hF 121 (by simp)).1]; exact h.2 v hv⟩
theorem isOfE {k : Nat} (hk : k < 32) : (f_X10_isOf M x (nI k) = true) = (bt x k = true) := by
  unfold f_X10_isOf
  have := bt_tst (x := x) (v := k) hk
  by_cases c : bt x k = true
  · rw [if_pos (show ((x >>> (nI k &&& 31)) &&& 1 = 1) from this.mpr c), c]
  · rw [if_neg (show ¬ ((x >>> (nI k &&& 31)) &&& 1 = 1) from fun e => c (this.mp e))]
    simp [c]
theorem findsR (hI : Inv m B) : ∀ d (M : Mm) (v : Nat) (tr : Int32) (b : Nat → Option Nat) (k : Nat → Nat), CtR m G M → HdR (tN m) b k M → v < vN m → Wf (tN m) (vN m) G (rmN m) b k v (bt tr) → cntB (fun t => !(bt tr t)) (tN m) < d →
    (∃ N b2 k2, f_gfinds d M (nI v) tr = some (true, N) ∧ Fr [119, 120] M N ∧ HdR (tN m) b2 k2 N ∧ Pf (tN m) (vN m) G (rmN m) b k b2 k2 v (bt tr)) ∨ (f_gfinds d M (nI v) tr = some (false, M) ∧ ∃ X, Xf (tN m) (vN m) G (rmN m) b k v (bt tr) X) := by
  obtain ⟨e3, hT⟩ := hI.t
  obtain ⟨e4, hV⟩ := hI.v
  intro d
  induction d with
  | zero => intro M v tr b k _ _ _ _ h; omega
  | succ d ih =>
    intro M v tr b k hC hH hv hW hd
    have i3 : ibs (3 : Int32) 807 = true := by decide
    have i4 : ibs (4 : Int32) 807 = true := by decide
    have g3 : gA M 110 3 = nI (tN m) := by show M.1 110 3 = _; rw [hC.1]; exact e3
    have g4 : gA M 110 4 = nI (vN m) := by show M.1 110 4 = _; rw [hC.1]; exact e4
    have gc : gA M 121 (nI v) = bset (fun t => G t v) (tN m) := by rw [gA_nI (by omega)]; exact hC.2 v hv
    have iv : ibs (nI v) 10 = true := ibs_nI (by omega) (by decide)
    have is : ∀ t, t < tN m → (f_X10_isOf M (bset (fun t => G t v) (tN m) &&& (tr ^^^ (-1))) (nI t) = true) = (G t v = true ∧ bt tr t = false) := fun t ht => by
      rw [isOfE (by omega), b_and, b_xor, b_m1 t (by omega), bt_bset (by omega) (by omega)]
      simp [ht]
    obtain ⟨w1, w2, w3, w4⟩ := hW
    have hW : Wf (tN m) (vN m) G (rmN m) b k v (bt tr) := ⟨w1, w2, w3, w4⟩
    have L2 : Tr (loop FU (fun a_4 => f_X10_finds_L2 (f_gfinds d) a_4.1 (nI v) tr a_4.2) (M, 0)) (fun r => (∃ N b2 k2, r = .inl (true, N) ∧ Fr [119, 120] M N ∧ HdR (tN m) b2 k2 N ∧ Pf (tN m) (vN m) G (rmN m) b k b2 k2 v (bt tr)) ∨ (r = .inr M ∧ ∀ t, t < tN m → G t v = true → bt tr t = false → k t = rmN m t)) := by
      refine lp0 (fun i (_ : Unit) => (M, nI i)) (tN m) (fun i _ => ∀ t, t < i → G t v = true → bt tr t = false → k t = rmN m t) (by omega) () rfl (fun t ht => by omega) (fun t _ ht hP => ?_) (fun _ hP => ?_)
      · show Tr (f_X10_finds_L2 (f_gfinds d) M (nI v) tr (nI t)) _
        have hr := hI.rm ht
        have hk := w2 t ht
        have it : ibs (nI t) 9 = true := ibs_nI (by omega) (by decide)
        unfold f_X10_finds_L2
        rw [if_pos i3, g3, if_neg (by rw [nI_leI (by omega) (by omega)]; omega), if_pos iv, gc, show nI t + 1 = nI (t + 1) from by rw [l_1, nI_add]]
        by_cases c : G t v = true ∧ bt tr t = false
        · rw [if_pos (by rw [is t ht]; exact c), if_pos it, show f_X10_of M (nI t) 2 = some (nI (rmN m t)) from (ofR (c := 2) (by omega) (by decide)).trans (by rw [hC.1, hr.1]), Option.bind_some, show gA M 119 (nI t) = nI (k t) from (gA_nI (by omega)).trans (hH.2 t ht)]
          by_cases c2 : k t = rmN m t
          · rw [if_pos (by rw [c2])]
            refine Tr.some (Or.inl ⟨(), rfl, fun s hs h1 h2 => ?_⟩)
            by_cases e : s = t
            · rw [e]; exact c2
            · exact hP s (by omega) h1 h2
          · rw [if_neg (by rw [nI_eq (by omega) (by omega)]; exact c2), if_pos iv, sA_nI (by omega), Option.bind_some, if_pos it, if_pos it, gA_nI (by omega), sI_fn (show (119 : Nat) ≠ 120 by decide), hH.2 t ht, sA_nI (by omega), Option.bind_some, l_1, nI_add]
            refine Tr.some (Or.inr ⟨_, rfl, Or.inl ⟨sI (sI M 120 v (nI t)) 119 t (nI (k t + 1)), _, _, rfl, (Fr.sI (by simp)).tr (Fr.sI (by simp)), ⟨fun u hu => ?_, fun s hs => ?_⟩, Pf_base hW hv ht c.1 c.2 c2⟩⟩)
            · rw [sI_fn (by decide), sI_at]
              by_cases e : u = v
              · rw [if_pos ⟨rfl, e⟩, if_pos e]; rfl
              · rw [if_neg (fun h => e h.2), if_neg e]; exact hH.1 u hu
            · rw [sI_at]
              by_cases e : s = t
              · subst e; rw [if_pos ⟨rfl, rfl⟩, if_pos rfl]
              · rw [if_neg (fun h => e h.2), if_neg e, sI_fn (by decide)]; exact hH.2 s hs
        · rw [if_neg (by rw [is t ht]; exact c)]
          refine Tr.some (Or.inl ⟨(), rfl, fun s hs h1 h2 => ?_⟩)
          by_cases e : s = t
          · rw [e] at h1 h2; exact absurd ⟨h1, h2⟩ c
          · exact hP s (by omega) h1 h2
      · show Tr (f_X10_finds_L2 (f_gfinds d) M (nI v) tr (nI (tN m))) _
        unfold f_X10_finds_L2
        rw [if_pos i3, g3, if_pos (by rw [nI_leI (by omega) (by omega)]; omega)]
        exact Tr.some ⟨_, rfl, Or.inr ⟨rfl, hP⟩⟩
    obtain ⟨r, r1, r2⟩ := L2
    show (∃ N b2 k2, fB_X10_finds (f_gfinds d) M (nI v) tr = some (true, N) ∧ _) ∨ (fB_X10_finds (f_gfinds d) M (nI v) tr = some (false, M) ∧ _)
    unfold fB_X10_finds
    rw [r1, Option.bind_some]
    rcases r2 with ⟨N, b2, k2, rfl, f1, f2, f3⟩ | ⟨rfl, hfull⟩
    · exact Or.inl ⟨N, b2, k2, rfl, f1, f2, f3⟩
    · rw [Sum.elim_inr]
      have htr2 : ∀ s, bt (tr ||| bset (fun t => G t v) (tN m)) s = (bt tr s || (decide (s < tN m) && G s v)) := fun s => by
        rw [b_or]
        by_cases hs : s < 32
        · rw [bt_bset (by omega) hs]
        · rw [b_big (x := bset (fun t => G t v) (tN m)) (by omega)]
          have : ¬ s < tN m := by omega
          simp [this]
      generalize htt : tr ||| bset (fun t => G t v) (tN m) = tr2 at htr2
      have L74 : Tr (loop FU (fun a_8 => f_X10_finds_L74 (f_gfinds d) a_8.1 (nI v) tr a_8.2) (M, 0)) (fun r => (∃ N b2 k2, r = .inl (true, N) ∧ Fr [119, 120] M N ∧ HdR (tN m) b2 k2 N ∧ Pf (tN m) (vN m) G (rmN m) b k b2 k2 v (bt tr)) ∨ (r = .inr M ∧ ∃ X : Nat → Bool, (∀ u, X u = true → u < vN m ∧ b u ≠ none ∧ ∀ t, t < tN m → G t u = true → bt tr2 t = false → k t = rmN m t ∧ ∀ o, b o = some t → X o = true) ∧ ∀ o t, o < vN m → b o = some t → G t v = true → bt tr t = false → X o = true)) := by
        refine lp0 (fun i (_ : Unit) => (M, nI i)) (vN m) (fun i _ => ∃ X : Nat → Bool, (∀ u, X u = true → u < vN m ∧ b u ≠ none ∧ ∀ t, t < tN m → G t u = true → bt tr2 t = false → k t = rmN m t ∧ ∀ o, b o = some t → X o = true) ∧ ∀ o t, o < i → b o = some t → G t v = true → bt tr t = false → X o = true) (by omega) () rfl ⟨fun _ => false, (fun u hu => (nomatch hu)), (fun o t ho => absurd ho (Nat.not_lt_zero o))⟩ (fun o _ ho hP => ?_) (fun _ hP => ?_)
        · obtain ⟨X, hX1, hX2⟩ := hP
          show Tr (f_X10_finds_L74 (f_gfinds d) M (nI v) tr (nI o)) _
          have io : ibs (nI o) 10 = true := ibs_nI (by omega) (by decide)
          have go : gA M 120 (nI o) = oI (b o) := (gA_nI (by omega)).trans (hH.1 o (by omega))
          unfold f_X10_finds_L74
          rw [if_pos i4, g4, if_neg (by rw [nI_leI (by omega) (by omega)]; omega), if_pos io, go, if_pos iv, if_pos io, gc, show nI o + 1 = nI (o + 1) from by rw [l_1, nI_add], htt]
          cases hbo : b o with
          | none =>
            rw [if_pos (show oI none = -1 from rfl)]
            refine Tr.some (Or.inl ⟨(), rfl, X, hX1, fun o2 t h1 h2 h3 h4 => ?_⟩)
            by_cases e : o2 = o
            · rw [e, hbo] at h2; cases h2
            · exact hX2 o2 t (by omega) h2 h3 h4
          | some t =>
            obtain ⟨_, ht, hGo⟩ := w1 o t hbo
            rw [if_neg (show ¬ oI (some t) = -1 from by rw [oI, nI_ne_m1 (by omega)]; exact not_false), oI]
            by_cases c : G t v = true ∧ bt tr t = false
            · rw [if_pos (by rw [is t ht]; exact c), if_pos io, if_pos iv]
              have hW2 := Wf_in (tr2 := bt tr2) hW hbo c.1 c.2 (fun s hs => by rw [htr2 s]; simp [hs])
              have hd2 : cntB (fun t => !(bt tr2 t)) (tN m) < d := by
                have := cntB_lts (p := fun t => !(bt tr t)) (p2 := fun t => !(bt tr2 t)) (i := t) (fun u hu => by
                  have hu : (!(bt tr2 u)) = true := hu
                  rw [htr2 u] at hu
                  show (!(bt tr u)) = true
                  cases hbu : bt tr u
                  · rfl
                  · rw [hbu] at hu; simp at hu) (by show (!(bt tr t)) = true; rw [c.2]; rfl) (by show (!(bt tr2 t)) = false; rw [htr2 t, c.1]; simp [ht]) (tN m) ht
                omega
              rcases ih M o tr2 b k hC hH ho hW2 hd2 with ⟨N, b2, k2, f1, f2, f3, f4⟩ | ⟨f1, Y, hY1, hY2⟩
              · rw [f1, Option.bind_some, if_pos rfl, if_pos iv, sA_nI (by omega), Option.bind_some]
                refine Tr.some (Or.inr ⟨_, rfl, Or.inl ⟨sI N 120 v (nI t), _, _, rfl, f2.tr (Fr.sI (by simp)), ⟨fun u hu => ?_, fun s hs => ?_⟩, Pf_in hW hv hbo c.1 c.2 htr2 f4⟩⟩)
                · rw [sI_at]
                  by_cases e : u = v
                  · rw [if_pos ⟨rfl, e⟩, if_pos e]; rfl
                  · rw [if_neg (fun h => e h.2), if_neg e]; exact f3.1 u hu
                · rw [sI_fn (by decide)]; exact f3.2 s hs
              · rw [f1, Option.bind_some, if_neg (show ¬ false = true by decide)]
                refine Tr.some (Or.inl ⟨(), rfl, fun u => X u || Y u, fun u hu => ?_, fun o2 t2 h1 h2 h3 h4 => ?_⟩)
                · rw [Bool.or_eq_true] at hu
                  rcases hu with hu | hu
                  · obtain ⟨u1, u2, u3⟩ := hX1 u hu
                    exact ⟨u1, u2, fun t2 h1 h2 h3 => ⟨(u3 t2 h1 h2 h3).1, fun o2 h4 => by show (X o2 || Y o2) = true; rw [(u3 t2 h1 h2 h3).2 o2 h4]; rfl⟩⟩
                  · obtain ⟨u1, u2, u3⟩ := hY2 u hu
                    refine ⟨u1, ?_, fun t2 h1 h2 h3 => ⟨(u3 t2 h1 h2 h3).1, fun o2 h4 => by show (X o2 || Y o2) = true; rw [(u3 t2 h1 h2 h3).2 o2 h4, Bool.or_true]⟩⟩
                    rcases u2 with e | e
                    · rw [e, hbo]; exact fun h => by cases h
                    · exact e
                · show (X o2 || Y o2) = true
                  by_cases e : o2 = o
                  · rw [e, hY1, Bool.or_true]
                  · rw [hX2 o2 t2 (by omega) h2 h3 h4]; rfl
            · rw [if_neg (by rw [is t ht]; exact c)]
              refine Tr.some (Or.inl ⟨(), rfl, X, hX1, fun o2 t2 h1 h2 h3 h4 => ?_⟩)
              by_cases e : o2 = o
              · rw [e, hbo] at h2; cases h2; exact absurd ⟨h3, h4⟩ c
              · exact hX2 o2 t2 (by omega) h2 h3 h4
        · show Tr (f_X10_finds_L74 (f_gfinds d) M (nI v) tr (nI (vN m))) _
          unfold f_X10_finds_L74
          rw [if_pos i4, g4, if_pos (by rw [nI_leI (by omega) (by omega)]; omega)]
          exact Tr.some ⟨_, rfl, Or.inr ⟨rfl, hP⟩⟩
      obtain ⟨r, r3, r4⟩ := L74
      rw [r3, Option.bind_some]
      rcases r4 with ⟨N, b2, k2, rfl, f1, f2, f3⟩ | ⟨rfl, X, hX1, hX2⟩
      · exact Or.inl ⟨N, b2, k2, rfl, f1, f2, f3⟩
      · refine Or.inr ⟨rfl, fun u => decide (u = v) || X u, by simp, fun u hu => ?_⟩
        rw [Bool.or_eq_true] at hu
        rcases hu with hu | hu
        · have hu := of_decide_eq_true hu
          subst hu
          refine ⟨hv, Or.inl rfl, fun t ht hG ht2 => ⟨hfull t ht hG ht2, fun o ho => ?_⟩⟩
          show (_ || X o) = true
          rw [hX2 o t (w1 o t ho).1 ho hG ht2, Bool.or_true]
        · obtain ⟨u1, u2, u3⟩ := hX1 u hu
          refine ⟨u1, Or.inr u2, fun t ht hG ht2 => ?_⟩
          by_cases c : bt tr2 t = false
          · exact ⟨(u3 t ht hG c).1, fun o ho => by show (_ || X o) = true; rw [(u3 t ht hG c).2 o ho, Bool.or_true]⟩
          · have hGv : G t v = true := by
              rw [htr2 t, ht2] at c
              simpa [ht] using c
            exact ⟨hfull t ht hGv ht2, fun o ho => by show (_ || X o) = true; rw [hX2 o t (w1 o t ho).1 ho hGv ht2, Bool.or_true]⟩
end FINDS2
