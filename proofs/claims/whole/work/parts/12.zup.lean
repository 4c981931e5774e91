/-! calls out of a larger world into a smaller one: what the callee's world does not hold stays -/
def mixm (v : Nat) (N M : Mm) : Mm := (fun i => if wlo v ≤ i ∧ i < wlo v + wln v then N.1 i else M.1 i, fun i => if wlo v ≤ i ∧ i < wlo v + wln v then N.2.1 i else M.2.1 i, fun i => if wlo v ≤ i ∧ i < wlo v + wln v then N.2.2 i else M.2.2 i)
def subw (v w : Nat) : Prop := wlo w ≤ wlo v ∧ wlo v + wln v ≤ wlo w + wln w
section ZU
variable {X : Cx} {v w : Nat} {M N : Mm} {H H1 : Heap}
theorem WDP_at (h : WDP X w M H) {i : Nat} (h1 : wlo w ≤ i) (h2 : i < wlo w + wln w) : va_at X.1 vwCl (X.2.2 i, cel X M i) H := h _ _ (wd_get h1 h2)
theorem WDP_of (h : ∀ i, wlo w ≤ i → i < wlo w + wln w → va_at X.1 vwCl (X.2.2 i, cel X M i) H) : WDP X w M H := by
  intro k q hq
  rw [wd, List.getElem?_map] at hq
  have hk : k < wln w := by
    rcases Nat.lt_or_ge k (wln w) with h | h
    · exact h
    · rw [List.getElem?_eq_none (by rw [List.length_range]; exact h)] at hq
      cases hq
  rw [List.getElem?_range hk] at hq
  cases hq
  exact h (wlo w + k) (by omega) (by omega)
theorem WDP_down (h : WDP X w M H) (hs : subw v w) : WDP X v M H := WDP_of (fun _ h1 h2 => WDP_at h (Nat.le_trans hs.1 h1) (Nat.lt_of_lt_of_le h2 hs.2))
theorem CXi_down (h : CXi X w) (hs : subw v w) : CXi X v := fun i j a b c d e => h i j (Nat.le_trans hs.1 a) (Nat.lt_of_lt_of_le b hs.2) (Nat.le_trans hs.1 c) (Nat.lt_of_lt_of_le d hs.2) e
theorem AA_down {a b : Nat} (hs : subw v w) (hab : a ≤ b) : ∀ q, AA X v b q → AA X w a q := fun q h => h.elim (fun ⟨i, h1, h2, h3⟩ => Or.inl ⟨i, Nat.le_trans hs.1 h1, Nat.lt_of_lt_of_le h2 hs.2, h3⟩) (fun h => Or.inr (Nat.le_trans hab h))
theorem WDP_mix (h : WDP X w M H) (hX : CXi X w) (hs : subw v w) (hN : WDP X v N H1) (hk : ∀ q : Nat, q < H.size → ¬ AA X v H.size q → H1[q]? = H[q]?) : WDP X w (mixm v N M) H1 := by
  refine WDP_of (fun i h1 h2 => ?_)
  by_cases hi : wlo v ≤ i ∧ i < wlo v + wln v
  · rw [cel_same (M := N) (M1 := mixm v N M) (by simp only [mixm, if_pos hi]) (by simp only [mixm, if_pos hi]) (by simp only [mixm, if_pos hi])]
    exact WDP_at hN hi.1 hi.2
  · rw [cel_same (M := M) (M1 := mixm v N M) (by simp only [mixm, if_neg hi]) (by simp only [mixm, if_neg hi]) (by simp only [mixm, if_neg hi])]
    have h3 := WDP_at h h1 h2
    refine h3.kept (hk _ h3.lt (fun hA => ?_))
    rcases hA with ⟨j, j1, j2, j3⟩ | hA
    · have e := hX i j h1 h2 (Nat.le_trans hs.1 j1) (Nat.lt_of_lt_of_le j2 hs.2) j3
      subst e
      exact hi ⟨j1, j2⟩
    · have := h3.lt
      exact absurd hA (Nat.not_le.mpr this)
variable {p : Program} {l : Launch} {e : Env} {R : Room} {s : State} {m : MethodId} {args : Array Value} {below : List Frame} {meth : Method} {c : Code} {cells slots : Nat} {Q : State → Prop} {n : Nat} {pc : Nat} {lv : List (Nat × Value)} {st : List Value} {cc : ByteArray} {ret : Option FieldType} {own : String}
theorem PW_preU (S : SB X w p s m args meth c cc n ret own) (hs : subw v w) {av : List Value} {locs : List Loc} (h1 : WDP X w M H) (h2 : va_S (AA X w s.heap.size) s.heap H locs) : ∀ U : State, U.heap = H → s.WarmedH U.vm → va_Pc av (PW X v M H.size) av.toArray U := by
  intro U hU hW
  refine ⟨rfl, by rw [hU], by rw [hU]; exact WDP_down h1 hs, CXi_down S.2.2.2.1 hs, ?_⟩
  rw [hU]
  exact ((S.2.2.2.2.kept h2.2.1).narrow (AA_down hs h2.1)).warm hW
theorem z_uVI (S : SB X w p s m args meth c cc n ret own) {index k a : Nat} {y : MethodName} {b : ByteArray} {rt : Option FieldType} {rm : Room} {As rest : List Value} {r : Int32} {C : String} {i k2 : Nat} {q : vw_C} (hs : subw v w) (hc : CV own C index y b k a rt) (hM : KI X v l y (wz y b k rt) rm (.ref (X.2.2 i) :: As) M r N) (hi : OK w i k2) (hk2 : k2 < 30) (hq : vwCl[k2]? = some q) (hqC : q.1 = C) (h0 : rm.cells = 0 ∧ rm.slots = 0) (hR : rm.frames + 1 ≤ R.frames ∧ 8 + (k + 11) + rm.locals ≤ R.locals) (hcs : cells ≤ R.cells ∧ slots ≤ R.slots) (hn : As.length = a) (hst : st = As.reverse ++ .ref (X.2.2 i) :: rest) (hW : (rest.map fun v => v.category).sum ≤ 8) (d : decode cc pc = .ok (.invokevirtual index, 3)) (kk : Z X w p l e R s m args below meth c cells slots Q n (mixm v N M) (pc + 3) lv (.int r :: rest)) : Z X w p l e R s m args below meth c cells slots Q n M pc lv st := by
  intro H locs ls h1 h2 h3
  subst hst
  refine va_calli (va_runV (As := As) (rest := rest) S.1 (hM H.size) (CV.cw S hc h0.1 h0.2 hR) ⟨PW_blind, by have := PW_recv S h1 hi hk2 hq; rw [hqC] at this; exact this, PW_preU S hs h1 h2⟩ rfl hn h3.1 rfl (lv_room hW) d ⟨hcs.1, hcs.2⟩) h2 (fun q _ h => AA_down hs h2.1 q h) (AA_down hs h2.1) (fun vv u t H1 locs1 ht hvm hp hB hz hk hS => ?_)
  obtain ⟨rfl, rfl⟩ := hp
  exact kk H1 locs1 ls (WDP_mix h1 S.2.2.2.1 hs (by subst ht; exact hB) hk) hS h3
theorem z_uVV (S : SB X w p s m args meth c cc n ret own) {index k a : Nat} {y : MethodName} {b : ByteArray} {rt : Option FieldType} {rm : Room} {As rest : List Value} {C : String} {i k2 : Nat} {q : vw_C} (hs : subw v w) (hc : CV own C index y b k a rt) (hM : KV X v l y (wz y b k rt) rm (.ref (X.2.2 i) :: As) M N) (hi : OK w i k2) (hk2 : k2 < 30) (hq : vwCl[k2]? = some q) (hqC : q.1 = C) (h0 : rm.cells = 0 ∧ rm.slots = 0) (hR : rm.frames + 1 ≤ R.frames ∧ 8 + (k + 11) + rm.locals ≤ R.locals) (hcs : cells ≤ R.cells ∧ slots ≤ R.slots) (hn : As.length = a) (hst : st = As.reverse ++ .ref (X.2.2 i) :: rest) (hW : (rest.map fun v => v.category).sum ≤ 8) (d : decode cc pc = .ok (.invokevirtual index, 3)) (kk : Z X w p l e R s m args below meth c cells slots Q n (mixm v N M) (pc + 3) lv (rest)) : Z X w p l e R s m args below meth c cells slots Q n M pc lv st := by
  intro H locs ls h1 h2 h3
  subst hst
  refine va_callv (va_runV (As := As) (rest := rest) S.1 (hM H.size) (CV.cw S hc h0.1 h0.2 hR) ⟨PW_blind, by have := PW_recv S h1 hi hk2 hq; rw [hqC] at this; exact this, PW_preU S hs h1 h2⟩ rfl hn h3.1 rfl (lv_room hW) d ⟨hcs.1, hcs.2⟩) h2 (fun q _ h => AA_down hs h2.1 q h) (AA_down hs h2.1) (fun u t H1 locs1 ht hvm hp hB hz hk hS => ?_)
  subst hp
  exact kk H1 locs1 ls (WDP_mix h1 S.2.2.2.1 hs (by subst ht; exact hB) hk) hS h3
end ZU
