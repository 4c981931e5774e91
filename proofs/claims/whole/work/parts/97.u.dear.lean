/-! dearest: the reference -/
section DEAR
variable {T V f n m k i v t j xx : Nat} {G : Nat → Nat → Bool} {R rho rho2 : Nat → Nat} {l : Nat → Nat → Nat} {b b2 bc : Nat → Option Nat} {a c : Int} {o : Option Nat} {M N K : Mm} {x y z : Int32}
theorem zI_eqv (h1 : -2147483648 ≤ a) (h2 : a < 2147483648) (h3 : -2147483648 ≤ c) (h4 : c < 2147483648) : (zI a = zI c) = (a = c) := by
  refine propext ⟨fun h => ?_, fun h => by rw [h]⟩
  have := congrArg Int32.toInt h
  rw [zI_int h1 h2, zI_int h3 h4] at this
  exact this
theorem RmR.at (h : RmR T rho M) (ht : t < T) (h2 : ∀ s, s < T → s ≠ t → rho2 s = rho s) (h3 : z = nI (rho2 t)) (h4 : rho2 t ≤ 3) : RmR T rho2 (sI M 122 t z) := fun s hs => by
  rw [sI_at]
  by_cases c : s = t
  · subst c; rw [if_pos ⟨rfl, rfl⟩]; exact ⟨h3, h4⟩
  · rw [if_neg (fun h => c h.2), h2 s hs c]; exact h s hs
theorem RmR.to (h : RmR T rho M) (hF : Fr [119, 120, 123, 124] M N) : RmR T rho N := fun t ht => by rw [(hF 122 (by simp)).1]; exact h t ht
/-- the first thing for v -/
theorem firstR (hC : CxR T V G l M) (hRm : RmR T rho M) (hB : Bst T V G R l b) (hv : v < V) (hr : ∀ t, t < T → rho t + cn b t v = R t) (hb : b v = some xx) : Tr (f_X10_firstFor M (nI v) (zI (SW (wR l) b V - SW (wR l) b v))) (fun r => r.1 = nI xx ∧ Fr [119, 120, 122, 123, 124] M r.2 ∧ RmR T rho r.2) := by
  have hC0 := hC
  obtain ⟨h1, h2, h3, h4, h5, h6⟩ := hC
  obtain ⟨x1, x2, x3⟩ := room_v hB.1 hv hr hb
  have i3 : ibs (3 : Int32) 807 = true := by decide
  have iv : ibs (nI v) 10 = true := ibs_nI (by omega) (by decide)
  have bd1 := SW_bd hC0 hB.1 V (Nat.le_refl _)
  have bd2 := SW_bd hC0 hB.1 v (by omega)
  unfold f_X10_firstFor
  refine Tr.bind (Q := fun r : (Int32 × Mm) ⊕ Mm => ∃ N, r = .inl (nI xx, N) ∧ Fr [119, 120, 122, 123, 124] M N ∧ RmR T rho N) ?_ (fun r hr => ?_)
  · refine lp0 (fun k (N : Mm) => (N, nI k)) T (fun k N => Fr [119, 120, 122, 123, 124] M N ∧ RmR T rho N ∧ k ≤ xx) (by omega) M rfl ⟨Fr.rf, hRm, Nat.zero_le _⟩ (fun k K hk hK => ?_) (fun K hK => ?_)
    · obtain ⟨hF, hRK, hkx⟩ := hK
      show Tr (f_X10_firstFor_L2 K (nI v) (zI (SW (wR l) b V - SW (wR l) b v)) (nI k)) _
      have hCK : CxR T V G l K := hC0.to hF
      have hG := isGR hCK hk hv
      have ik : ibs (nI k) 9 = true := ibs_nI (by omega) (by decide)
      have gk : gA K 122 (nI k) = nI (rho k) := by rw [gA_nI (by omega)]; exact (hRK k hk).1
      have rk3 := (hRK k hk).2
      have hnx : nI k + 1 = nI (k + 1) := by rw [l_1, nI_add]
      unfold f_X10_firstFor_L2
      rw [if_pos i3, show gA K 110 3 = nI T from hCK.2.2.1, if_neg (by rw [nI_leI (by omega) (by omega)]; omega), if_pos iv, hnx]
      by_cases g : G k v = true
      · rw [if_pos (hG.mpr g), if_pos ik, gk]
        by_cases c0 : rho k = 0
        · rw [if_pos (by rw [c0]; rfl)]
          have hne : k ≠ xx := fun e => x3 (by rw [← e]; exact c0)
          exact Tr.some (Or.inl ⟨K, rfl, hF, hRK, by omega⟩)
        · rw [if_neg (show ¬ nI (rho k) = 0 by rw [show (0 : Int32) = nI 0 from rfl, nI_eq (by omega) (by omega)]; exact c0), if_pos ik, if_pos ik, l_1, nI_subI (by omega), sA_nI (by omega), Option.bind_some, nI_add]
          -- one room less
          have hr2 : ∀ s, s < T → (fun s => if s = k then rho s - 1 else rho s) s + (if s = k then 1 else 0) = rho s := fun s _ => by
            show (if s = k then rho s - 1 else rho s) + _ = _
            by_cases e : s = k
            · subst e; rw [if_pos rfl, if_pos rfl]; omega
            · rw [if_neg e, if_neg e]; rfl
          have hRm2 : RmR T (fun s => if s = k then rho s - 1 else rho s) (sI K 122 k (nI (rho k - 1))) := RmR.at hRK hk (fun s _ hne => if_neg hne) (by show _ = nI (if k = k then rho k - 1 else rho k); rw [if_pos rfl]) (by show (if k = k then rho k - 1 else rho k) ≤ 3; rw [if_pos rfl]; omega)
          have f2 : Fr [119, 120, 122, 123, 124] K (sI K 122 k (nI (rho k - 1))) := Fr.sI (by simp)
          generalize sI K 122 k (nI (rho k - 1)) = K2 at hRm2 f2
          refine Tr.bind (dfromR (f := v + 1) (hCK.to f2) hRm2 (by omega)) (fun r hr' => ?_)
          obtain ⟨q, N⟩ := r
          obtain ⟨f3, a, e1, e2, e3, e4⟩ := hr'
          have f3 : Fr [119, 120, 123, 124] K2 N := f3
          have e1 : q = zI a := e1
          have hF3 : Fr [119, 120, 122, 123, 124] M N := (hF.tr f2).tr (f3.mono (by simp))
          have hCN : CxR T V G l N := hC0.to hF3
          have hl := (h6 k v hk hv).2
          have gl : gA N 116 (10 * nI k + nI v) = zI (l k v : Int) := by rw [l_10, nI_mulI, nI_add, gA_nI (by omega), (hCN.2.2.2.2.2 k v hk hv).1, nI_z]
          have il : ibs (10 * nI k + nI v) 90 = true := by rw [l_10, nI_mulI, nI_add]; exact ibs_nI (by omega) (by decide)
          obtain ⟨s1, s2⟩ := at_some h1 h2 hB hv hr hb hk g c0 hr2 e4
          have gK : gA N 122 (nI k) = nI (rho k - 1) := by
            rw [gA_nI (by omega), ((hRm2.to f3) k hk).1]
            show nI (if k = k then rho k - 1 else rho k) = _
            rw [if_pos rfl]
          have hback : RmR T rho (sI N 122 k (nI (rho k - 1 + 1))) := RmR.at (hRm2.to f3) hk (fun s _ hne => (if_neg hne).symm) (by rw [Nat.sub_add_cancel (by omega)]) rk3
          have fb : Fr [119, 120, 122, 123, 124] M (sI N 122 k (nI (rho k - 1 + 1))) := hF3.tr (Fr.sI (by simp))
          show Tr (if ibs (10 * nI k + nI v) 90 = true then (if q + gA N 116 (10 * nI k + nI v) = zI (SW (wR l) b V - SW (wR l) b v) then f_X10_firstFor_J2_75 N (nI v) (zI (SW (wR l) b V - SW (wR l) b v)) (nI k) 1 else f_X10_firstFor_J2_75 N (nI v) (zI (SW (wR l) b V - SW (wR l) b v)) (nI k) 0) else none) _
          rw [if_pos il, gl, e1, zI_add]
          have j75 : ∀ z, f_X10_firstFor_J2_75 N (nI v) (zI (SW (wR l) b V - SW (wR l) b v)) (nI k) z = if z = 0 then some (.inl (sI N 122 k (nI (rho k - 1 + 1)), nI (k + 1))) else some (.inr (.inl (nI k, sI N 122 k (nI (rho k - 1 + 1))))) := fun z => by
            unfold f_X10_firstFor_J2_75
            rw [if_pos ik, if_pos ik, gK, l_1, nI_add, sA_nI (by omega), Option.bind_some, nI_add]
          rw [j75, j75]
          by_cases e : k = xx
          · rw [if_pos (by rw [zI_eqv (by omega) (by omega) (by omega) (by omega)]; exact s2 e), if_neg (show ¬ (1 : Int32) = 0 by decide)]
            exact Tr.some (Or.inr ⟨_, rfl, sI N 122 k (nI (rho k - 1 + 1)), by rw [e], fb, hback⟩)
          · rw [if_neg (by rw [zI_eqv (by omega) (by omega) (by omega) (by omega)]; exact s1 (by omega)), if_pos rfl]
            exact Tr.some (Or.inl ⟨_, rfl, fb, hback, by omega⟩)
      · rw [if_neg (fun h => g (hG.mp h))]
        have hne : k ≠ xx := fun e => g (by rw [e]; exact x2)
        exact Tr.some (Or.inl ⟨K, rfl, hF, hRK, by omega⟩)
    · omega
  · obtain ⟨N, rfl, hN⟩ := hr
    exact Tr.some ⟨rfl, hN⟩
/-- the sum, as the reference finds it -/
theorem opt_best (hT : T ≤ 9) (hV : V ≤ 10) (hB : Bst T V G R l b) (hO : Opt T V 0 G R (wR l) a) : a = SW (wR l) b V := by
  obtain ⟨⟨b2, o1, o2⟩, o3⟩ := hO
  have := best_sum hT hV hB b2 o1
  have := o3 b hB.1
  omega
/-- one visitor more -/
theorem bodyR (hC : CxR T V G l M) (hRm : RmR T rho M) (hB : Bst T V G R l b) (hv : v < V) (hr : ∀ t, t < T → rho t + cn b t v = R t) (hvk : v ≤ k) (hk : k < V) : ∃ N, f_X10_dearest_L80 M (nI k) (zI (SW (wR l) b V - SW (wR l) b v)) (nI v) = f_X10_dearest_J80_107 N (nI k) (zI (SW (wR l) b V - SW (wR l) b v)) (nI v) (oI (b v)) ∧ Fr [119, 120, 122, 123, 124] M N ∧ RmR T rho N := by
  have hC0 := hC
  obtain ⟨h1, h2, h3, h4, h5, h6⟩ := hC
  have bd1 := SW_bd hC0 hB.1 V (Nat.le_refl _)
  have bd2 := SW_bd hC0 hB.1 v (by omega)
  obtain ⟨r, r1, r2, a, a1, a2, a3, a4⟩ := dfromR (f := v + 1) hC0 hRm (by omega)
  have hn := at_none h1 h2 hB hv hr a4
  have hF : Fr [119, 120, 122, 123, 124] M r.2 := r2.mono (by simp)
  have hR2 : RmR T rho r.2 := hRm.to r2
  unfold f_X10_dearest_L80
  rw [if_neg (by rw [nI_ltI (by omega) (by omega)]; omega), show nI v + 1 = nI (v + 1) from by rw [l_1, nI_add], r1, Option.bind_some, a1]
  cases hb : b v with
  | none =>
    rw [if_pos (by rw [hn.mpr hb])]
    exact ⟨r.2, rfl, hF, hR2⟩
  | some x =>
    have hne : a ≠ SW (wR l) b V - SW (wR l) b v := fun e => by rw [hn.mp e] at hb; exact nomatch hb
    obtain ⟨q, q1, q2, q3, q4⟩ := firstR (hC0.to hF) hR2 hB hv hr hb
    rw [if_neg (by rw [zI_eqv (by omega) (by omega) (by omega) (by omega)]; exact hne), q1, Option.bind_some, q2]
    exact ⟨q.2, rfl, hF.tr q3, q4⟩
def dA (l : Nat → Nat → Nat) (b : Nat → Option Nat) (V : Nat) (o : Option Nat) : Int32 := match o with | none => zI (SW (wR l) b V) | some v => oI (b v)
theorem dearR0 (hC : CxR T V G l M) (hRm : RmR T R M) (hB : Bst T V G R l b) (ho : ∀ v, o = some v → v < V) : Tr ((f_X10_dearestFrom M 0).bind (fun rr7 => if oI o = (-1) then (some (rr7.1, rr7.2)) else ((loop FU (fun a_14 => f_X10_dearest_L80 a_14.1 (oI o) a_14.2.1 a_14.2.2) (rr7.2, rr7.1, 0)).bind (Sum.elim (fun v => some v) (fun e_14 => some ((-1), e_14)))))) (fun r => r.1 = dA l b V o ∧ Fr [119, 120, 122, 123, 124] M r.2) := by
  have hC0 := hC
  obtain ⟨h1, h2, h3, h4, h5, h6⟩ := hC
  refine Tr.bind (dfromR (f := 0) hC0 hRm (Nat.zero_le _)) (fun r hr => ?_)
  obtain ⟨q, N⟩ := r
  obtain ⟨f1, a, e1, e2, e3, e4⟩ := hr
  have f1 : Fr [119, 120, 123, 124] M N := f1
  have e1 : q = zI a := e1
  have ea := opt_best h1 h2 hB e4
  rw [ea] at e1
  cases o with
  | none =>
    show Tr (if oI none = -1 then some (q, N) else _) _
    rw [if_pos (show oI none = -1 from rfl)]
    exact Tr.some ⟨e1, f1.mono (by simp)⟩
  | some k =>
    have hk := ho k rfl
    show Tr (if oI (some k) = -1 then some (q, N) else (loop FU (fun a_14 => f_X10_dearest_L80 a_14.1 (oI (some k)) a_14.2.1 a_14.2.2) (N, q, 0)).bind (Sum.elim (fun v => some v) (fun e_14 => some ((-1), e_14)))) _
    rw [if_neg (show ¬ oI (some k) = -1 by rw [oI, nI_ne_m1 (by omega)]; exact not_false), show oI (some k) = nI k from rfl]
    have bdV := SW_bd hC0 hB.1 V (Nat.le_refl _)
    refine Tr.bind (Q := fun r : (Int32 × Mm) ⊕ Mm => ∃ N, r = .inl (oI (b k), N) ∧ Fr [119, 120, 122, 123, 124] M N) ?_ (fun r hr => ?_)
    · refine lp0 (fun v (s : Mm × Int32) => (s.1, s.2, nI v)) k (fun v s => Fr [119, 120, 122, 123, 124] M s.1 ∧ s.2 = zI (SW (wR l) b V - SW (wR l) b v) ∧ ∃ rho, RmR T rho s.1 ∧ ∀ t, t < T → rho t + cn b t v = R t) (by omega) (N, q) rfl ⟨f1.mono (by simp), by rw [e1]; show zI (SW (wR l) b V) = zI (SW (wR l) b V - 0); rw [Int.sub_zero], R, hRm.to f1, fun t ht => rfl⟩ (fun v s hv hs => ?_) (fun s hs => ?_)
      · obtain ⟨K, z⟩ := s
        obtain ⟨s1, s2, rho, s3, s4⟩ := hs
        have s1 : Fr [119, 120, 122, 123, 124] M K := s1
        have s2 : z = zI (SW (wR l) b V - SW (wR l) b v) := s2
        have s3 : RmR T rho K := s3
        have bd2 := SW_bd hC0 hB.1 v (by omega)
        show Tr (f_X10_dearest_L80 K (nI k) z (nI v)) _
        obtain ⟨N2, n1, n2, n3⟩ := bodyR (hC0.to s1) s3 hB (show v < V by omega) s4 (show v ≤ k by omega) hk
        rw [s2, n1]
        unfold f_X10_dearest_J80_107
        rw [if_neg (show ¬ nI v = nI k by rw [nI_eq (by omega) (by omega)]; omega), show nI v + 1 = nI (v + 1) from by rw [l_1, nI_add]]
        have hC2 : CxR T V G l N2 := hC0.to (s1.tr n2)
        cases hb : b v with
        | none =>
          rw [if_pos (show oI none = -1 from rfl)]
          refine Tr.some (Or.inl ⟨(N2, zI (SW (wR l) b V - SW (wR l) b v)), rfl, s1.tr n2, ?_, rho, n3, fun t ht => ?_⟩)
          · show _ = zI (SW (wR l) b V - (SW (wR l) b v + wo (wR l) (b v) v))
            rw [hb]
            show _ = zI (SW (wR l) b V - (SW (wR l) b v + 0))
            rw [Int.add_zero]
          · show rho t + (cn b t v + (if b v = some t then 1 else 0)) = R t
            rw [hb, if_neg (fun h => nomatch h)]; exact s4 t ht
        | some x =>
          obtain ⟨x1, x2, x3⟩ := room_v hB.1 (show v < V by omega) s4 hb
          have hl := (h6 x v x1 (by omega)).2
          have gl : gA N2 116 (10 * nI x + nI v) = zI (l x v : Int) := by rw [l_10, nI_mulI, nI_add, gA_nI (by omega), (hC2.2.2.2.2.2 x v x1 (by omega)).1, nI_z]
          have il : ibs (10 * nI x + nI v) 90 = true := by rw [l_10, nI_mulI, nI_add]; exact ibs_nI (by omega) (by decide)
          have ix : ibs (nI x) 9 = true := ibs_nI (by omega) (by decide)
          have gx : gA N2 122 (nI x) = nI (rho x) := by rw [gA_nI (by omega)]; exact (n3 x x1).1
          have r3 := (n3 x x1).2
          rw [show oI (some x) = nI x from rfl, if_neg (show ¬ nI x = -1 by rw [nI_ne_m1 (by omega)]; exact not_false), if_pos il, gl, zI_sub, Option.bind_some, if_pos ix, if_pos ix, gx, l_1, nI_subI (by omega), sA_nI (by omega), Option.bind_some]
          refine Tr.some (Or.inl ⟨(sI N2 122 x (nI (rho x - 1)), zI (SW (wR l) b V - SW (wR l) b v - (l x v : Int))), rfl, (s1.tr n2).tr (Fr.sI (by simp)), ?_, fun s => if s = x then rho s - 1 else rho s, RmR.at n3 x1 (fun s _ hne => if_neg hne) (by show _ = nI (if x = x then rho x - 1 else rho x); rw [if_pos rfl]) (by show (if x = x then rho x - 1 else rho x) ≤ 3; rw [if_pos rfl]; omega), fun t ht => ?_⟩)
          · show zI (SW (wR l) b V - SW (wR l) b v - (l x v : Int)) = zI (SW (wR l) b V - (SW (wR l) b v + wo (wR l) (b v) v))
            rw [hb]
            show _ = zI (SW (wR l) b V - (SW (wR l) b v + (l x v : Int)))
            congr 1; omega
          · show (if t = x then rho t - 1 else rho t) + (cn b t v + (if b v = some t then 1 else 0)) = R t
            have := s4 t ht
            rw [hb]
            by_cases e : t = x
            · subst e; rw [if_pos rfl, if_pos rfl]; omega
            · rw [if_neg e, if_neg (fun h => e (Option.some.inj h).symm)]; exact this
      · obtain ⟨K, z⟩ := s
        obtain ⟨s1, s2, rho, s3, s4⟩ := hs
        have s1 : Fr [119, 120, 122, 123, 124] M K := s1
        have s2 : z = zI (SW (wR l) b V - SW (wR l) b k) := s2
        have s3 : RmR T rho K := s3
        show Tr (f_X10_dearest_L80 K (nI k) z (nI k)) _
        obtain ⟨N2, n1, n2, n3⟩ := bodyR (hC0.to s1) s3 hB hk s4 (Nat.le_refl _) hk
        rw [s2, n1]
        unfold f_X10_dearest_J80_107
        rw [if_pos rfl]
        exact Tr.some ⟨_, rfl, N2, rfl, s1.tr n2⟩
    · obtain ⟨N2, rfl, hN⟩ := hr
      exact Tr.some ⟨rfl, hN⟩
end DEAR
