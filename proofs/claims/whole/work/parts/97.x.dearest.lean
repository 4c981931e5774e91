/-! dearest -/
section DRST
variable {LR : Mm → Nat → (Nat → Int32) → Prop} {LK : (Nat → Int32) → Nat → Nat → Int32 → Int32} {T V f n m k i v t j r q B : Nat} {G : Nat → Nat → Bool} {R : Nat → Nat} {l : Nat → Nat → Nat} {b b2 bc : Nat → Option Nat} {U p : Nat → Int} {mu a c : Int} {o : Option Nat} {M N K Mc Mr Nc Nr : Mm} {x y z x1 x2 x3 x4 x5 : Int32} {mm : Nat → Int32}
def dgW (v : Nat) : Int := if v < 10 then dgV v else 0
theorem dgW_s : ∀ v, v < 10 → zJ (dgW v) / 10 = zJ (dgW (v + 1)) := by decide +kernel
theorem toI64 (h : n < 2147483648) : Int32.toInt64 (nI n) = zJ (n : Int) := by
  refine Int64.toInt_inj.mp ?_
  rw [Int32.toInt_toInt64, nI_toInt (by omega), zJ_int (by omega) (by omega)]
theorem zJ_10 : (10000000000 : Int64) = zJ 10000000000 := by decide
theorem zJ_9 : (1000000000 : Int64) = zJ (dgW 0) := by decide
/-- the worths -/
theorem setWC (h1 : T ≤ 9) (h2 : V ≤ 10) (h6 : M.1 90 6 = nI T) (h7 : M.1 90 7 = nI V) (hl : ∀ t v, t < T → v < V → M.1 83 (t * 10 + v) = nI (l t v) ∧ l t v ≤ 1188) (hg : ∀ t, t < T → M.1 84 t = bset (G t) V) : Tr (f_X0_setWorths M) (fun N => Fr [91] M N ∧ ∀ t v, t < T → v < V → N.2.1 91 (t * 10 + v) = zJ (if G t v = true then wC l t v else 0)) := by
  unfold f_X0_setWorths
  refine Tr.bind (Q := fun N => Fr [91] M N ∧ ∀ t v, t < T → v < V → N.2.1 91 (t * 10 + v) = zJ (if G t v = true then wC l t v else 0)) ?_ (fun N hN => Tr.some hN)
  refine lp0 (fun v (K : Mm) => (K, zJ (dgW v), nI v)) V (fun v K => Fr [91] M K ∧ ∀ t u, t < T → u < v → K.2.1 91 (t * 10 + u) = zJ (if G t u = true then wC l t u else 0)) (by omega) M (by rw [zJ_9]; rfl) ⟨Fr.rf, fun t u _ hu => absurd hu (Nat.not_lt_zero _)⟩ (fun v K hv hK => ?_) (fun K hK => ?_)
  · obtain ⟨hF, hK⟩ := hK
    show Tr (f_X0_setWorths_L7 K (zJ (dgW v)) (nI v)) _
    unfold f_X0_setWorths_L7
    rw [show gI K 90 7 = nI V from by show K.1 90 7 = _; rw [(hF 90 (by simp)).1]; exact h7, if_neg (by rw [nI_leI (by omega) (by omega)]; omega), dgW_s v (by omega), show nI v + 1 = nI (v + 1) from by rw [l_1, nI_add]]
    have hdg : dgW v = dgV v := if_pos (by omega)
    refine Tr.bind (Q := fun N => Fr [91] M N ∧ (∀ t u, t < T → u < v → N.2.1 91 (t * 10 + u) = zJ (if G t u = true then wC l t u else 0)) ∧ ∀ t, t < T → N.2.1 91 (t * 10 + v) = zJ (if G t v = true then wC l t v else 0)) ?_ (fun N hN => ?_)
    · refine lp0 (fun t (K : Mm) => (K, nI t)) T (fun t N => Fr [91] M N ∧ (∀ t u, t < T → u < v → N.2.1 91 (t * 10 + u) = zJ (if G t u = true then wC l t u else 0)) ∧ ∀ s, s < t → N.2.1 91 (s * 10 + v) = zJ (if G s v = true then wC l s v else 0)) (by omega) K rfl ⟨hF, hK, fun s hs => absurd hs (Nat.not_lt_zero _)⟩ (fun t N ht hN => ?_) (fun N hN => ?_)
      · obtain ⟨hF2, hN1, hN2⟩ := hN
        show Tr (f_X0_setWorths_L19 N (zJ (dgW v)) (nI v) (nI t)) _
        obtain ⟨l1, l2⟩ := hl t v ht hv
        have d2 := dgV_le v
        have d1 := dgV_pos v
        have lk : f_X6_likes N (nI t) (nI v) = nI (l t v) := by
          unfold f_X6_likes
          rw [l_10, nI_mulI, nI_add, a83 (by omega), (hF2 83 (by simp)).1]; exact l1
        have cl : (f_X6_calls N (nI t) (nI v) = true) = (G t v = true) := by
          unfold f_X6_calls
          rw [a84 (by omega), (hF2 84 (by simp)).1, hg t ht]
          have hb := bt_tst (x := bset (G t) V) (v := v) (by omega)
          rw [bt_bset (by omega) (by omega)] at hb
          by_cases c : G t v = true
          · rw [if_pos (show (bset (G t) V >>> (nI v &&& 31)) &&& 1 = 1 from hb.mpr (by simp [hv, c]))]
            simp [c]
          · rw [if_neg (show ¬ (bset (G t) V >>> (nI v &&& 31)) &&& 1 = 1 from fun h => c (by have := hb.mp h; simpa [hv] using this))]
            simp [c]
        have xv : Int32.toInt64 (nI (l t v)) * 10000000000 - Int32.toInt64 (nI t + 1) * zJ (dgW v) = zJ (wC l t v) := by
          rw [l_1, nI_add, toI64 (by omega), toI64 (by omega), zJ_10, zJ_mul, zJ_mul, zJ_sub, hdg]
          rfl
        have put : ∀ z : Int64, z = zJ (if G t v = true then wC l t v else 0) → Tr (f_X0_setWorths_J19_84 N (zJ (dgW v)) (nI v) (nI t) z ((nI t * 10) + nI v)) (fun x => (∃ s' : Mm, x = .inl (s', nI (t + 1)) ∧ Fr [91] M s' ∧ (∀ t u, t < T → u < v → s'.2.1 91 (t * 10 + u) = zJ (if G t u = true then wC l t u else 0)) ∧ ∀ s, s < t + 1 → s'.2.1 91 (s * 10 + v) = zJ (if G s v = true then wC l s v else 0)) ∨ ∃ r, x = .inr r ∧ Fr [91] M r ∧ (∀ t u, t < T → u < v → r.2.1 91 (t * 10 + u) = zJ (if G t u = true then wC l t u else 0)) ∧ ∀ t, t < T → r.2.1 91 (t * 10 + v) = zJ (if G t v = true then wC l t v else 0)) := fun z hz => by
          unfold f_X0_setWorths_J19_84
          rw [l_10, nI_mulI, nI_add, p91 (by omega), Option.bind_some, l_1, nI_add]
          refine Tr.some (Or.inl ⟨_, rfl, hF2.tr (Fr.sJ (by simp)), fun s u hs hu => ?_, fun s hs => ?_⟩)
          · rw [sJ_at, if_neg (by omega)]; exact hN1 s u hs hu
          · rw [sJ_at]
            by_cases e : s = t
            · subst e; rw [if_pos ⟨rfl, rfl⟩]; exact hz
            · rw [if_neg (by omega)]; exact hN2 s (by omega)
        unfold f_X0_setWorths_L19
        rw [show gI N 90 6 = nI T from by show N.1 90 6 = _; rw [(hF2 90 (by simp)).1]; exact h6, if_neg (by rw [nI_leI (by omega) (by omega)]; omega), lk, xv, Option.bind_some]
        by_cases g : G t v = true
        · rw [if_pos (cl.mpr g)]
          exact put _ (by rw [if_pos g])
        · rw [if_neg (fun h => g (cl.mp h))]
          exact put _ (by rw [if_neg g, zJ_0])
      · show Tr (f_X0_setWorths_L19 N (zJ (dgW v)) (nI v) (nI T)) _
        unfold f_X0_setWorths_L19
        rw [show gI N 90 6 = nI T from by show N.1 90 6 = _; rw [(hN.1 90 (by simp)).1]; exact h6, if_pos (by rw [nI_leI (by omega) (by omega)]; omega)]
        exact Tr.some ⟨_, rfl, hN⟩
    · obtain ⟨g1, g2, g3⟩ := hN
      refine Tr.some (Or.inl ⟨N, rfl, g1, fun t u ht hu => ?_⟩)
      by_cases e : u = v
      · subst e; exact g3 t ht
      · exact g2 t u ht (by omega)
  · show Tr (f_X0_setWorths_L7 K (zJ (dgW V)) (nI V)) _
    unfold f_X0_setWorths_L7
    rw [show gI K 90 7 = nI V from by show K.1 90 7 = _; rw [(hK.1 90 (by simp)).1]; exact h7, if_pos (by rw [nI_leI (by omega) (by omega)]; omega)]
    exact Tr.some ⟨_, rfl, hK⟩
theorem cnA_all : ∀ {n : Nat}, cnA b n = n → ∀ v, v < n → b v ≠ none := by
  intro n
  induction n with
  | zero => intro _ v hv; exact absurd hv (Nat.not_lt_zero _)
  | succ n ih =>
    intro h v hv
    have e : cnA b (n + 1) = cnA b n + (if b n = none then 0 else 1) := rfl
    have := cnA_le (b := b) n
    by_cases c : b n = none
    · rw [e, if_pos c] at h; omega
    · rw [e, if_neg c] at h
      by_cases e2 : v = n
      · subst e2; exact c
      · exact ih (by omega) v (by omega)
/-- all are had: no way is better -/
theorem all_had (hW : Way T V 0 G R b) (hP : PD T V 0 G R (wC l) b U p mu) (h : cnA b V = V) : ∀ b2, Way T V 0 G R b2 → SW (wC l) b2 V ≤ SW (wC l) b V := by
  have hall := cnA_all h
  have hA : ABS T V 0 G (wC l) ZC b 0 0 0 (fun _ _ => 0) (fun _ => ZC) (d0V V 0 ZC b) (fun _ => 0) (fun _ => 0) (fun _ => 0) := abs_0 (by decide)
  refine end_ok hW hP hA.1 ⟨fun v t _ hv _ _ _ hd => absurd ?_ hd, fun v t _ _ hd => absurd rfl hd⟩ (by decide) (fun s _ _ hd => absurd rfl hd)
  exact if_neg (fun h2 => hall v hv h2.2.2)
/-- the exchanges, one after another -/
theorem exchsC (hC : CxC T V G l M) (hBy : ∀ v, v < V → M.1 92 v = -1) (hRl : ∀ t, t < T → M.1 93 t = nI (R t) ∧ R t ≤ 3) : Tr (loop FU (fun a_10 => f_X0_find_L61 a_10.1 a_10.2) (M, 0)) (fun e => ∃ N, (e = .inl N ∨ e = .inr N) ∧ Fr [92, 93, 94, 95, 96] M N ∧ ∃ b, Bst T V G R l b ∧ ∀ v, v < V → N.1 92 v = oI (b v)) := by
  have hC0 := hC
  obtain ⟨h1, h2, h3, h4, h5, h6⟩ := hC
  have hA0 : cnA (fun _ => none) V = 0 := by
    have : ∀ n, cnA (fun _ => none) n = 0 := fun n => by
      induction n with
      | zero => rfl
      | succ n ih => show cnA (fun _ => none) n + (if (none : Option Nat) = none then 0 else 1) = 0; rw [ih, if_pos rfl]
    exact this V
  refine lp0 (fun k (N : Mm) => (N, nI k)) V (fun k N => Fr [92, 93, 94, 95, 96] M N ∧ ∃ b U p mu, Way T V 0 G R b ∧ PD T V 0 G R (wC l) b U p mu ∧ (∀ v, v < V → N.1 92 v = oI (b v)) ∧ RlC T V R b N ∧ cnA b V = k) (by omega) M rfl ⟨Fr.rf, fun _ => none, fun _ => WJ, fun _ => 0, WJ, none_way, none_pd hC0.ws (by decide), hBy, fun t ht => by rw [none_cn, Nat.sub_zero]; exact hRl t ht, hA0⟩ (fun k N hk hN => ?_) (fun N hN => ?_)
  · obtain ⟨hF, b, U, p, mu, hW, hP, hB, hR, hcA⟩ := hN
    show Tr (f_X0_find_L61 N (nI k)) _
    unfold f_X0_find_L61
    rw [show gI N 90 7 = nI V from by show N.1 90 7 = _; rw [(hF 90 (by simp)).1]; exact h4, if_neg (by rw [nI_leI (by omega) (by omega)]; omega)]
    refine Tr.bind (bestEndC (hC0.to hF) hB hR hW hP) (fun e he => ?_)
    obtain ⟨e1, K⟩ := e
    obtain ⟨f2, o, dT, dV, fr, lT, lV, g1, g2, g3, g4, g5⟩ := he
    have f2 : Fr [94, 95, 96] N K := f2
    have g1 : e1 = oI o := g1
    have g2 : CMc T V K dT dV fr := g2
    have hF2 : Fr [92, 93, 94, 95, 96] M K := hF.tr (f2.mono (by simp))
    show Tr (if e1 = (-1) then (some (.inr (.inl K))) else ((f_X0_exchange K e1).bind (fun M9 => some (.inl (M9, (nI k + 1))))) : Option ((Mm × Int32) ⊕ (Mm ⊕ Mm))) _
    rw [g1]
    cases o with
    | none =>
      rw [if_pos (show oI none = -1 from rfl)]
      exact Tr.some (Or.inr ⟨_, rfl, K, Or.inl rfl, hF2, b, ⟨hW, end_ok hW hP g3 g4 (by decide) (fun s hs hc _ => g5.1 rfl s hs hc)⟩, fun v hv => by rw [(f2 92 (by simp)).1]; exact hB v hv⟩)
    | some t =>
      obtain ⟨t1, t2, t3, t4⟩ := g5.2 t rfl
      have hd : dT t ≠ ZC := by
        have hZ : ZC = -1000000000000000000 := rfl
        omega
      obtain ⟨n, hn⟩ := g3.2.2.2 t t1 hd
      obtain ⟨s1, s2, s3, U2, p2, s4⟩ := step_ok hW hP g3 g4 (by decide) t1 t2 hd t3 (fun s hs hc _ => t4 s hs hc) hn
      have s5 := cnA_ex g3 hW n (some t) b hn (fun s hs => by cases hs; exact ⟨t1, hd⟩) (fun v hv => absurd rfl hv)
      rw [if_neg (show ¬ (some t : Option Nat) = none from fun h => nomatch h)] at s5
      obtain ⟨r1, r2⟩ := hR t t1
      have gr : t_X9_at K 93 (nI t) = nI (R t - cn b t V) := by rw [a93 (by omega), (f2 93 (by simp)).1]; exact r1
      rw [if_neg (show ¬ oI (some t) = -1 by rw [oI, nI_ne_m1 (by omega)]; exact not_false), show oI (some t) = nI t from rfl]
      unfold f_X0_exchange
      rw [gr, l_1, nI_subI (by omega), p93 (by omega), Option.bind_some]
      have f3 : Fr [92, 93, 94, 95, 96] K (sI K 93 t (nI (R t - cn b t V - 1))) := Fr.sI (by simp)
      refine Tr.bind (Tr.bind (exC h1 h2 g3 hW (fun s hs hds => by rw [sI_fn (by decide)]; exact g2.2.2 s hs hds) (fun v hv => by rw [sI_fn (by decide), (f2 92 (by simp)).1]; exact hB v hv) t1 hd hn) (fun e he => Tr.some he)) (fun L hL => ?_)
      obtain ⟨q1, q2⟩ := hL
      rw [nI_add]
      refine Tr.some (Or.inl ⟨L, rfl, (hF2.tr f3).tr (q1.mono (by simp)), _, U2, p2, dT t, s3, s4, q2, fun s hs => ?_, by omega⟩)
      rw [(q1 93 (by simp)).1, sI_at, s2]
      by_cases c : s = t
      · subst c
        rw [if_pos ⟨rfl, rfl⟩, if_pos rfl, Nat.sub_sub]; exact ⟨rfl, r2⟩
      · rw [if_neg (fun h => c h.2), if_neg c, Nat.add_zero, (f2 93 (by simp)).1]; exact hR s hs
  · obtain ⟨hF, b, U, p, mu, hW, hP, hB, hR, hcA⟩ := hN
    show Tr (f_X0_find_L61 N (nI V)) _
    unfold f_X0_find_L61
    rw [show gI N 90 7 = nI V from by show N.1 90 7 = _; rw [(hF 90 (by simp)).1]; exact h4, if_pos (by rw [nI_leI (by omega) (by omega)]; omega)]
    exact Tr.some ⟨_, rfl, N, Or.inr rfl, hF, b, ⟨hW, all_had hW hP hcA⟩, hB⟩
/-- the class finds the way -/
theorem findC (hk : kd q = 4) (h : MR M q mm) (hI : Inv mm B) (hl : ∀ t v, t < tN mm → v < vN mm → M.1 83 (t * 10 + v) = nI (l t v) ∧ l t v ≤ 1188) (hg : ∀ t, t < tN mm → M.1 84 t = bset (G t) (vN mm)) (hG : ∀ t v, t < tN mm → v < vN mm → G t v = true → 1 ≤ l t v) : Tr (f_X0_find M q) (fun N => Fr [90, 91, 92, 93, 94, 95, 96] M N ∧ N.1 90 7 = nI (vN mm) ∧ ∃ b, Bst (tN mm) (vN mm) G (rmN mm) l b ∧ ∀ v, v < vN mm → N.1 92 v = oI (b v)) := by
  obtain ⟨e3, hT⟩ := hI.t
  obtain ⟨e4, hV⟩ := hI.v
  have hq := md4 hk
  unfold f_X0_find
  rw [show gI M q 3 = nI (tN mm) from h.2.2.1.trans e3, Option.bind_some, show gI (sI M 90 6 (nI (tN mm))) q 4 = nI (vN mm) from by show (sI M 90 6 (nI (tN mm))).1 q 4 = _; rw [sI_fn (by omega)]; exact h.2.2.2.1.trans e4, Option.bind_some]
  have f2 : Fr [90] M (sI (sI M 90 6 (nI (tN mm))) 90 7 (nI (vN mm))) := (Fr.sI (by simp)).tr (Fr.sI (by simp))
  have u6 : (sI (sI M 90 6 (nI (tN mm))) 90 7 (nI (vN mm))).1 90 6 = nI (tN mm) := by rw [sI_at, if_neg (by omega), sI_at, if_pos ⟨rfl, rfl⟩]
  have u7 : (sI (sI M 90 6 (nI (tN mm))) 90 7 (nI (vN mm))).1 90 7 = nI (vN mm) := by rw [sI_at, if_pos ⟨rfl, rfl⟩]
  generalize sI (sI M 90 6 (nI (tN mm))) 90 7 (nI (vN mm)) = M2 at f2 u6 u7
  have l92 : ln 92 = 10 := by decide
  refine Tr.bind (fillI (by decide)) (fun M3 h3 => ?_)
  obtain ⟨f3, b3⟩ := h3
  rw [l92] at b3
  have A : Tr (loop FU (fun a_5 => f_X0_find_L26 a_5.1 q a_5.2) (M3, 0)) (fun N => Fr [93] M3 N ∧ ∀ t, t < tN mm → N.1 93 t = nI (rmN mm t)) := by
    refine lp0 (fun k (N : Mm) => (N, nI k)) (tN mm) (fun k N => Fr [93] M3 N ∧ ∀ t, t < k → N.1 93 t = nI (rmN mm t)) (by omega) M3 rfl ⟨Fr.rf, fun v hv => absurd hv (Nat.not_lt_zero _)⟩ (fun k K hk2 hK => ?_) (fun K hK => ?_)
    · obtain ⟨hF, hK⟩ := hK
      show Tr (f_X0_find_L26 K q (nI k)) _
      have hMK : MR K q mm := h.fr (fun i g1 g2 => by rw [(hF i (by simp; omega)).1, (f3 i (by simp; omega)).1, (f2 i (by simp; omega)).1])
      have hrm : f_X4_ofThing K q (nI k) 2 = nI (rmN mm k) := (ofT (c := 2) hk hMK (by omega) (by decide)).trans (hI.rm hk2).1
      unfold f_X0_find_L26
      rw [show gI K 90 6 = nI (tN mm) from by show K.1 90 6 = _; rw [(hF 90 (by simp)).1, (f3 90 (by simp)).1]; exact u6, if_neg (by rw [nI_leI (by omega) (by omega)]; omega), hrm, p93 (by omega), Option.bind_some, l_1, nI_add]
      refine Tr.some (Or.inl ⟨_, rfl, hF.tr (Fr.sI (by simp)), fun t ht => ?_⟩)
      rw [sI_at]
      by_cases e : t = k
      · subst e; rw [if_pos ⟨rfl, rfl⟩]
      · rw [if_neg (fun h => e h.2)]; exact hK t (by omega)
    · obtain ⟨hF, hK⟩ := hK
      show Tr (f_X0_find_L26 K q (nI (tN mm))) _
      unfold f_X0_find_L26
      rw [show gI K 90 6 = nI (tN mm) from by show K.1 90 6 = _; rw [(hF 90 (by simp)).1, (f3 90 (by simp)).1]; exact u6, if_pos (by rw [nI_leI (by omega) (by omega)]; omega)]
      exact Tr.some ⟨_, rfl, hF, hK⟩
  refine Tr.bind A (fun M4 h4 => ?_)
  obtain ⟨f4, b4⟩ := h4
  have F4 : Fr [90, 92, 93] M M4 := ((f2.mono (by simp)).tr (f3.mono (by simp))).tr (f4.mono (by simp))
  have w6 : M4.1 90 6 = nI (tN mm) := by rw [(f4 90 (by simp)).1, (f3 90 (by simp)).1]; exact u6
  have w7 : M4.1 90 7 = nI (vN mm) := by rw [(f4 90 (by simp)).1, (f3 90 (by simp)).1]; exact u7
  refine Tr.bind (setWC (G := G) hT hV w6 w7 (fun t v ht hv => by rw [(F4 83 (by simp)).1]; exact hl t v ht hv) (fun t ht => by rw [(F4 84 (by simp)).1]; exact hg t ht)) (fun M5 h5 => ?_)
  obtain ⟨f5, b5⟩ := h5
  have cx : CxC (tN mm) (vN mm) G l M5 := ⟨hT, hV, by rw [(f5 90 (by simp)).1]; exact w6, by rw [(f5 90 (by simp)).1]; exact w7, fun t v ht hv hg2 => ⟨hG t v ht hv hg2, (hl t v ht hv).2⟩, b5⟩
  refine Tr.bind (exchsC (R := rmN mm) cx (fun v hv => by rw [(f5 92 (by simp)).1, (f4 92 (by simp)).1]; exact b3 v (by omega)) (fun t ht => by rw [(f5 93 (by simp)).1]; exact ⟨b4 t ht, (hI.rm ht).2.2⟩)) (fun e he => ?_)
  obtain ⟨N, e1, f6, b, e2, e3⟩ := he
  have fin : Fr [90, 91, 92, 93, 94, 95, 96] M N ∧ N.1 90 7 = nI (vN mm) ∧ ∃ b, Bst (tN mm) (vN mm) G (rmN mm) l b ∧ ∀ v, v < vN mm → N.1 92 v = oI (b v) := ⟨((F4.mono (by simp)).tr (f5.mono (by simp))).tr (f6.mono (by simp)), by rw [(f6 90 (by simp)).1, (f5 90 (by simp)).1]; exact w7, b, e2, e3⟩
  rcases e1 with rfl | rfl
  · exact Tr.some fin
  · exact Tr.some fin
/-- the class's sum -/
theorem sumDC (hV : V ≤ 10) (hT : T ≤ 9) (h7 : M.1 90 7 = nI V) (hB : ∀ v, v < V → M.1 92 v = oI (b v)) (hW : Way T V 0 G R b) (hl : ∀ t v, t < T → v < V → M.1 83 (t * 10 + v) = nI (l t v) ∧ l t v ≤ 1188) : f_X0_sum M = some (zI (SW (wR l) b V)) := by
  unfold f_X0_sum
  have : loop FU (fun a_2 => f_X0_sum_L4 M a_2.1 a_2.2) (0, 0) = some (zI (SW (wR l) b V)) := by
    refine (lp0 (Q := fun r : Int32 => r = zI (SW (wR l) b V)) (fun k (s : Int32) => (s, nI k)) V (fun k s => s = zI (SW (wR l) b k)) (by omega) 0 rfl (by rw [zI_0]; rfl) (fun k s hk hs => ?_) (fun s hs => ?_)).eq
    · show Tr (f_X0_sum_L4 M s (nI k)) _
      unfold f_X0_sum_L4
      have g92 : t_X9_at M 92 (nI k) = oI (b k) := by rw [a92 (by omega)]; exact hB k hk
      have es : SW (wR l) b (k + 1) = SW (wR l) b k + wo (wR l) (b k) k := rfl
      rw [show gI M 90 7 = nI V from h7, if_neg (by rw [nI_leI (by omega) (by omega)]; omega), g92, show nI k + 1 = nI (k + 1) from by rw [l_1, nI_add], hs]
      cases hb : b k with
      | none =>
        rw [if_pos (show oI none = -1 from rfl), Int32.add_zero]
        refine Tr.some (Or.inl ⟨_, rfl, ?_⟩)
        rw [es, hb]
        show _ = zI (SW (wR l) b k + 0)
        rw [Int.add_zero]
      | some t =>
        have ht := (hW.1 k t hk hb).2.1
        have lk : f_X6_likes M (nI t) (nI k) = zI (l t k : Int) := by
          unfold f_X6_likes
          rw [l_10, nI_mulI, nI_add, a83 (by omega), (hl t k ht hk).1, nI_z]
        rw [if_neg (show ¬ oI (some t) = -1 by rw [oI, nI_ne_m1 (by omega)]; exact not_false), show oI (some t) = nI t from rfl, lk, zI_add, Option.bind_some]
        refine Tr.some (Or.inl ⟨_, rfl, ?_⟩)
        rw [es, hb]; rfl
    · show Tr (f_X0_sum_L4 M s (nI V)) _
      unfold f_X0_sum_L4
      rw [show gI M 90 7 = nI V from h7, if_pos (by rw [nI_leI (by omega) (by omega)]; omega)]
      exact Tr.some ⟨_, rfl, hs⟩
  rw [this, Option.bind_some]
/-- LIKING as a number -/
def lkN (LK : (Nat → Int32) → Nat → Nat → Int32 → Int32) (m : Nat → Int32) (t v : Nat) : Nat := (lkv LK m t v).toNatClampNeg
theorem lkN_ok (HL : LSpec LR LK) (hI : Inv mm B) (hv : v < vN mm) : lkv LK mm t v = nI (lkN LK mm t v) ∧ lkN LK mm t v ≤ 1188 := HL.2.2.2.2.2.1 mm t v (mm (57 + 5 * v + 4)) B hI hv
theorem rg_pos (HL : LSpec LR LK) (hI : Inv mm B) (hv : v < vN mm) (hg : rgG LK mm t v = true) : 1 ≤ lkN LK mm t v := by
  obtain ⟨h1, h2⟩ := lkN_ok (t := t) HL hI hv
  unfold rgG rgs at hg
  rw [Bool.and_eq_true, Bool.and_eq_true] at hg
  have h3 := of_decide_eq_true hg.2.1
  rw [h1, nI_leI (by omega) (by omega)] at h3
  omega
/-- both sides, of a visitor, or of none -/
theorem dear_both (HL : LSpec LR LK) (h : RR LR n Mc Mr) (ho : ∀ v, o = some v → v < vN (Mr.1 110)) : ∃ Nc Nr, (∃ rx, ∃ v : Int32, f_X9_dearest_J10 Mc (oI o) = some rx ∧ f_X10_dearest_J18 Mr (oI o) = some (v, Nr) ∧ okI [(2, 1)] rx v (gI Nr 109 0) Nc) ∧ RR LR (n + 1) Nc Nr := by
  obtain ⟨hk, hkL, hM, hI, hR⟩ := h.cur
  obtain ⟨e3, hT⟩ := hI.t
  obtain ⟨e4, hV⟩ := hI.v
  obtain ⟨N, c1, c2, c3, c4, c5, c6, c7⟩ := qwghC HL h
  obtain ⟨K, d1, d2, d3, d4, d5, d6⟩ := looksR HL h 0
  have hl : ∀ t v, t < tN (Mr.1 110) → v < vN (Mr.1 110) → N.1 83 (t * 10 + v) = nI (lkN LK (Mr.1 110) t v) ∧ lkN LK (Mr.1 110) t v ≤ 1188 := fun t v ht hv => by
    obtain ⟨l1, l2⟩ := lkN_ok (t := t) HL hI hv
    exact ⟨(c6 t v ht hv).trans l1, l2⟩
  obtain ⟨F, f2, f1, f3, b, f4, f5⟩ := findC (G := rgG LK (Mr.1 110)) (l := lkN LK (Mr.1 110)) hk c5 hI hl (fun t ht => c7 t ht) (fun t v ht hv hg => rg_pos HL hI hv hg)
  -- the reference's room
  have A : Tr (loop FU (fun a_5 => f_X10_dearest_L37 a_5.1 (oI o) a_5.2) (K, 0)) (fun Q => Fr [122] K Q ∧ ∀ t, t < tN (Mr.1 110) → Q.1 122 t = nI (rmN (Mr.1 110) t)) := by
    have i3 : ibs (3 : Int32) 807 = true := by decide
    refine lp0 (fun k (N : Mm) => (N, nI k)) (tN (Mr.1 110)) (fun k Q => Fr [122] K Q ∧ ∀ t, t < k → Q.1 122 t = nI (rmN (Mr.1 110) t)) (by omega) K rfl ⟨Fr.rf, fun v hv => absurd hv (Nat.not_lt_zero _)⟩ (fun k Q hk2 hQ => ?_) (fun Q hQ => ?_)
    · obtain ⟨hF, hQ⟩ := hQ
      have hQ110 : Q.1 110 = Mr.1 110 := by rw [(hF 110 (by simp)).1]; exact d4
      show Tr (f_X10_dearest_L37 Q (oI o) (nI k)) _
      unfold f_X10_dearest_L37
      rw [if_pos i3, show gA Q 110 3 = nI (tN (Mr.1 110)) from by show Q.1 110 3 = _; rw [hQ110]; exact e3, if_neg (by rw [nI_leI (by omega) (by omega)]; omega), show f_X10_of Q (nI k) 2 = some (Q.1 110 (12 + 5 * k + 2)) from ofR (c := 2) (by omega) (by decide), Option.bind_some, if_pos (ibs_nI (by omega) (by decide)), sA_nI (by omega), Option.bind_some, l_1, nI_add]
      refine Tr.some (Or.inl ⟨_, rfl, hF.tr (Fr.sI (by simp)), fun t ht => ?_⟩)
      rw [sI_at]
      by_cases e : t = k
      · subst e; rw [if_pos ⟨rfl, rfl⟩, hQ110]; exact (hI.rm hk2).1
      · rw [if_neg (fun h => e h.2)]; exact hQ t (by omega)
    · obtain ⟨hF, hQ⟩ := hQ
      have hQ110 : Q.1 110 = Mr.1 110 := by rw [(hF 110 (by simp)).1]; exact d4
      show Tr (f_X10_dearest_L37 Q (oI o) (nI (tN (Mr.1 110)))) _
      unfold f_X10_dearest_L37
      rw [if_pos i3, show gA Q 110 3 = nI (tN (Mr.1 110)) from by show Q.1 110 3 = _; rw [hQ110]; exact e3, if_pos (by rw [nI_leI (by omega) (by omega)]; omega)]
      exact Tr.some ⟨_, rfl, hF, hQ⟩
  obtain ⟨Q, q1, q2, q3⟩ := A
  have cx : CxR (tN (Mr.1 110)) (vN (Mr.1 110)) (rgG LK (Mr.1 110)) (lkN LK (Mr.1 110)) Q := ⟨hT, hV, by rw [(q2 110 (by simp)).1, d4]; exact e3, by rw [(q2 110 (by simp)).1, d4]; exact e4, fun v hv => by rw [(q2 121 (by simp)).1]; exact d6 v hv, fun t v ht hv => by
    obtain ⟨l1, l2⟩ := lkN_ok (t := t) HL hI hv
    rw [(q2 116 (by simp)).1]
    exact ⟨(d5 t v ht hv).trans l1, l2⟩⟩
  obtain ⟨S, s1, s2, s3⟩ := dearR0 cx (fun t ht => ⟨q3 t ht, (hI.rm ht).2.2⟩) f4 ho
  have z0 : gI S.2 109 0 = 0 := by show S.2.1 109 0 = 0; rw [(s3 109 (by simp)).1, (q2 109 (by simp)).1]; exact d3
  have kq : KpR K S.2 := by
    have fr : Fr [119, 120, 122, 123, 124] K S.2 := (q2.mono (by simp)).tr s3
    exact KpR.of2 (FrQ.of fr (by simp)) (fr 110 (by simp)).1 (by simp) (by simp) (by simp)
  have kc : KpC Mc F := fun i h1 h2 h3 h4 h5 => by
    rw [(f1 i (by simp; omega)).1]; exact c2 i h1 h2 h3 h4 h5
  refine ⟨F, S.2, ⟨.inl (dA (lkN LK (Mr.1 110)) b (vN (Mr.1 110)) o, F), dA (lkN LK (Mr.1 110)) b (vN (Mr.1 110)) o, ?_, ?_, Or.inl ⟨rfl, z0⟩⟩, RR_q HL h kc ⟨by rw [(f1 1 (by simp)).2.2]; exact c3, by rw [(f1 3 (by simp)).2.2]; exact c4⟩ (d2.tr kq)⟩
  · unfold f_X9_dearest_J10
    rw [Option.bind_some, show gR Mc 1 3 = Mc.2.2 1 3 from rfl, if_pos hk, Option.bind_some, show gR Mc 1 5 = Mc.2.2 1 5 from rfl, if_pos hkL, c1, Option.bind_some, Option.bind_some, show gR N 1 3 = Mc.2.2 1 3 from by show N.2.2 1 3 = _; rw [c3], if_pos hk, f2, Option.bind_some]
    cases o with
    | none =>
      rw [if_pos (show oI none = -1 from rfl), sumDC hV hT f3 f5 f4.1 (fun t v ht hv => by rw [(f1 83 (by simp)).1]; exact hl t v ht hv), Option.bind_some]
      rfl
    | some v =>
      have hv := ho v rfl
      rw [if_neg (show ¬ oI (some v) = -1 by rw [oI, nI_ne_m1 (by omega)]; exact not_false), show oI (some v) = nI v from rfl, a92 (by omega), f5 v hv]
      rfl
  · unfold f_X10_dearest_J18 f_X10_dearest_J19
    rw [Option.bind_some, t0, if_pos (by decide), d1, Option.bind_some, q1, Option.bind_some, s1, ← s2]
theorem s_18 (HL : LSpec LR LK) (h : RR LR n Mc Mr) : ∃ Nc Nr, so_18 x1 x2 x3 x4 x5 Mc Mr Nc Nr ∧ RR LR (n + 1) Nc Nr := by
  unfold so_18 f_X9_dearest f_X10_dearest
  by_cases c : x1 = -1
  · rw [if_pos c, if_pos c, c]
    exact dear_both (o := none) HL h (fun v hv => nomatch hv)
  · rw [if_neg c, if_neg c]
    rcases needV h x1 with ⟨v, v1, rfl, n1, n2⟩ | ⟨n1, n2⟩
    · rw [n1, n2, Option.bind_some, Option.bind_some, Sum.elim_inl, if_pos rfl]
      exact dear_both (o := some v) HL h (fun u hu => by cases hu; exact v1)
    · rw [n1, n2, Option.bind_some, Option.bind_some, Sum.elim_inr, if_neg (by decide)]
      refine ⟨Mc, sI Mr 109 0 1, ⟨_, 0, rfl, ?_, Or.inr ⟨2, rfl, by rw [t0]; rfl, by rw [t0]; decide⟩⟩, RR_q HL h KpC.rf ⟨rfl, rfl⟩ KpR.t⟩
      unfold f_X10_dearest_J19
      rw [Option.bind_some, t0, if_neg (by decide)]
end DRST
