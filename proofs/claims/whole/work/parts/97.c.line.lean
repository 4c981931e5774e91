/-! the reference reads the lines of the law -/
section LAWL
variable {tx : Nat → Int32} {e i j k r b N2 f c a cc d n q w lev dd : Nat} {M N K : Mm} {p p2 l2 : List Int32} {x y T o s mk op as wh wt v1 v3 v4 t0 v2 : Int32} {P : Nat → Int32} {u u2 : List (Int32 × Int32 × List Int32)}
def whP (tx : Nat → Int32) (e i : Nat) : Option Int32 := if nm tx e 0 8 i = true then some (vl tx e i) else if wdT tx e i = 311 then some (-1) else none
def coL (u : List (Int32 × Int32 × List Int32)) (wh wt : Int32) (G : GP) : Nat ⊕ (List (Int32 × Int32 × List Int32) × Nat) := match G with | .inl b => .inl b | .inr (p, j) => .inr (u ++ [(wh, wt, p)], j)
def lnQ (tx : Nat → Int32) (e : Nat) (u : List (Int32 × Int32 × List Int32)) (lk : Bool) (wh : Int32) (i : Nat) : Nat ⊕ (List (Int32 × Int32 × List Int32) × Nat) := if nm tx e 0 99 i = true then (if wdT tx e (i + 1) = 312 then coL u wh (if lk = true then vl tx e i else -(vl tx e i)) (coP tx e (i + 2)) else .inr (u ++ [(wh, (if lk = true then vl tx e i else -(vl tx e i)), [])], i + 1)) else .inl i
def lnO (tx : Nat → Int32) (e : Nat) (u : List (Int32 × Int32 × List Int32)) (lk : Bool) (i : Nat) : Nat ⊕ (List (Int32 × Int32 × List Int32) × Nat) := match whP tx e i with | none => .inl i | some wh => lnQ tx e u lk wh (i + 1)
def lnP (tx : Nat → Int32) (e : Nat) (u : List (Int32 × Int32 × List Int32)) (i : Nat) : Nat ⊕ (List (Int32 × Int32 × List Int32) × Nat) := if wdT tx e i = 309 then lnO tx e u true (i + 1) else if wdT tx e i = 310 then lnO tx e u false (i + 1) else .inl i
def wg1 (P : Nat → Int32) (mk as : Int32) (s : Int32) (l : Int32 × Int32 × List Int32) : Int32 := if (l.1 = -1 ∨ l.1 = as) ∧ hdP P mk l.2.2 = true then s + l.2.1 else s
def wgU (P : Nat → Int32) (mk as : Int32) (u : List (Int32 × Int32 × List Int32)) : Int32 := u.foldl (wg1 P mk as) (P 6)
theorem wgU_snoc {l : Int32 × Int32 × List Int32} : wgU P mk as (u ++ [l]) = wg1 P mk as (wgU P mk as u) l := by unfold wgU; rw [List.foldl_append]; rfl
def WL (M N : Mm) : Prop := Fr [109] M N ∧ ∀ c, c ≠ 11 → c ≠ 12 → c ≠ 13 → c ≠ 17 → N.1 109 c = M.1 109 c
theorem WA.l (h : WA M N) : WL M N := ⟨h.1, fun c c1 c2 c3 _ => h.2 c c1 c2 c3⟩
theorem WL.rf : WL M M := WA.rf.l
theorem WL.tr (h : WL M N) (h2 : WL N K) : WL M K := ⟨h.1.tr h2.1, fun c c1 c2 c3 c4 => (h2.2 c c1 c2 c3 c4).trans (h.2 c c1 c2 c3 c4)⟩
theorem WL.s9 (h : c = 11 ∨ c = 12 ∨ c = 13 ∨ c = 17) : WL M (sI M 109 c x) := ⟨Fr.sI (by simp), fun d h1 h2 h3 h4 => by rw [sI_at, if_neg (by omega)]⟩
theorem WL.txr (hF : WL M N) (h : TxR M tx e) : TxR N tx e := h.fr (hF.2 9 (by decide) (by decide) (by decide) (by decide)) (hF.2 10 (by decide) (by decide) (by decide) (by decide)) (hF.1 114 (by simp)).1 (fun k _ => congrFun (hF.1 110 (by simp)).1 k)
theorem WL.ev (hF : WL M N) (h : Evn P mk M) : Evn P mk N := ⟨fun k hk => (congrFun (hF.1 115 (by simp)).1 k).trans (h.1 k hk), (hF.2 16 (by decide) (by decide) (by decide) (by decide)).trans h.2⟩
theorem J91v (hf : N.1 109 12 = -1) (h15 : N.1 109 15 = as) (h17 : N.1 109 17 = wgU P mk as u) (hv : (v2 = 1 ∧ wh = -1) ∨ (v2 = 0 ∧ v3 = wh ∧ wh ≠ -1)) (ht : t0 = bI (hdP P mk p)) (hv1 : (v1 = 1 ∧ wt = v4) ∨ (v1 = 0 ∧ wt = -v4)) : f_X10_lawLine_J91 N v1 v2 v3 v4 t0 = some (sI N 109 17 (wgU P mk as (u ++ [(wh, wt, p)]))) := by
  have g15 : gI N 109 15 = as := h15
  have g17 : gI N 109 17 = wgU P mk as u := h17
  have add : f_X10_lawLine_J119 N v1 v4 = some (sI N 109 17 (wgU P mk as u + wt)) := by
    unfold f_X10_lawLine_J119 f_X10_lawLine_J136
    rcases hv1 with ⟨rfl, rfl⟩ | ⟨rfl, rfl⟩
    · rw [if_neg (by decide), g17, Option.bind_some]
    · rw [if_pos rfl, g17, Option.bind_some]
  have self : some N = some (sI N 109 17 (wgU P mk as u)) := by rw [sI_self h17]
  unfold f_X10_lawLine_J91
  rw [show gI N 109 12 = -1 from hf, if_pos rfl, wgU_snoc, g15]
  unfold wg1
  cases hh : hdP P mk p with
  | false =>
    rw [hh] at ht
    rw [if_pos (show t0 = 0 from ht), if_neg (fun h => nomatch h.2)]
    exact self
  | true =>
    rw [hh] at ht
    rw [if_neg (show ¬ t0 = 0 by rw [ht]; decide)]
    rcases hv with ⟨rfl, rfl⟩ | ⟨rfl, rfl, h3⟩
    · rw [if_neg (by decide), add, if_pos ⟨Or.inl rfl, rfl⟩]
    · rw [if_pos rfl]
      by_cases c : v3 = as
      · rw [if_pos c, add, if_pos ⟨Or.inr c, rfl⟩]
      · rw [if_neg c, if_neg (fun h => h.1.elim h3 c)]
        exact self
def StL (P : Nat → Int32) (mk as : Int32) (u : List (Int32 × Int32 × List Int32)) (N : Mm) : Prop := N.1 109 17 = wgU P mk as u ∧ N.1 109 13 = 0 ∧ Evn P mk N ∧ N.1 109 15 = as
theorem StL.s9 (h : StL P mk as u N) (h1 : c ≠ 17) (h2 : c ≠ 13) (h3 : c ≠ 16) (h4 : c ≠ 15) : StL P mk as u (sI N 109 c x) := ⟨by rw [sI_at, if_neg (by omega)]; exact h.1, by rw [sI_at, if_neg (by omega)]; exact h.2.1, h.2.2.1.s9 h3, by rw [sI_at, if_neg (by omega)]; exact h.2.2.2⟩
theorem StL.at (h : StL P mk as u N) : StL P mk as u (sAt N a) := h.s9 (by decide) (by decide) (by decide) (by decide)
theorem StL.s17 (h : StL P mk as u N) : StL P mk as u2 (sI N 109 17 (wgU P mk as u2)) := ⟨by rw [sI_at, if_pos ⟨rfl, rfl⟩], by rw [sI_at, if_neg (by omega)]; exact h.2.1, h.2.2.1.s9 (by decide), by rw [sI_at, if_neg (by omega)]; exact h.2.2.2⟩
/-- how the reference stands behind a line -/
def LnR (P : Nat → Int32) (mk as : Int32) (tx : Nat → Int32) (e : Nat) (M : Mm) (G : Nat ⊕ (List (Int32 × Int32 × List Int32) × Nat)) (K : Mm) : Prop := WL M K ∧ match G with | .inl b => Fl K e (bg tx e b) | .inr (u2, j) => K.1 109 12 = -1 ∧ StL P mk as u2 K ∧ AtR K tx e j
theorem LnR.wa {G : Nat ⊕ (List (Int32 × Int32 × List Int32) × Nat)} (hw : WL M N) (h : LnR P mk as tx e N G K) : LnR P mk as tx e M G K := ⟨hw.tr h.1, h.2⟩
theorem Flc.fl (h : Flc M e f c) (hc : c ≤ 9) : Fl M e f := by
  obtain ⟨h1, h2, h3, a, h4, h5⟩ := h
  exact ⟨h1, h2, h3, a, by omega, h5⟩
theorem J51R {lk : Bool} (hx : TxR N tx e) (hf : N.1 109 12 = -1) (ha : AtR N tx e i) (hs : StL P mk as u N) (hv : (v2 = 1 ∧ wh = -1) ∨ (v2 = 0 ∧ v3 = wh ∧ wh ≠ -1)) : Tr (f_X10_lawLine_J51 N (bI lk) v2 v3) (LnR P mk as tx e N (lnQ tx e u lk wh i)) := by
  have he := hx.1
  have hb := bg_le (tx := tx) he i
  obtain ⟨k1, k2⟩ := figT (lo := 0) (hi := 99) hx hf ha (by decide)
  unfold f_X10_lawLine_J51 lnQ
  by_cases c : nm tx e 0 99 i = true
  · obtain ⟨a, a1, a2, a3⟩ := k1 (nm_iff.mp c)
    rw [if_pos c, a2, Option.bind_some]
    have fA : (sAt N a).1 109 12 = -1 := (sAt_ne (by decide)).trans hf
    have sA : StL P mk as u (sAt N a) := hs.at
    have wA : WL N (sAt N a) := WA.at.l
    obtain ⟨b, b1, b2, b3, b4⟩ := saysT hx.at a3 (j := 12) (by decide) (iT (k := 21) (by decide)) s_law.2.2.2.1
    rw [sAt_sAt] at b2 b3
    rw [show gI (sAt N a) 109 12 = -1 from fA, if_pos rfl, show f_X10_says (sAt N a) 421 = _ from b2, Option.bind_some]
    have fB : (sAt N b).1 109 12 = -1 := (sAt_ne (by decide)).trans hf
    have sB : StL P mk as u (sAt N b) := hs.at
    have wB : WL N (sAt N b) := WA.at.l
    generalize hwt : (if lk = true then vl tx e i else -(vl tx e i)) = wt
    have hv1 : (bI lk = 1 ∧ wt = vl tx e i) ∨ (bI lk = 0 ∧ wt = -(vl tx e i)) := by
      cases lk with
      | true => rw [if_pos rfl] at hwt; exact Or.inl ⟨rfl, hwt.symm⟩
      | false => rw [if_neg (by decide)] at hwt; exact Or.inr ⟨rfl, hwt.symm⟩
    by_cases d : wdT tx e (i + 1) = 312
    · rw [if_pos (show wdT tx e (i + 1) = 300 + 12 from d)] at b3
      rw [decide_eq_true (show wdT tx e (i + 1) = 300 + 12 from d), if_pos rfl, if_pos d]
      refine Tr.bind (condR he _ _ hx.at fB b3 sB.2.2.1 sB.2.1) (fun z hz => ?_)
      obtain ⟨v, K⟩ := z
      obtain ⟨h1, h2⟩ := hz
      have h1 : WA (sAt N b) K := h1
      generalize hq : coP tx e (i + 1 + 1) = G at h2
      cases G with
      | inl bb =>
        have h2 : Flc K e (bg tx e bb) 6 := h2
        have h3 := h2.fl (by decide)
        have bad : ∀ t, f_X10_lawLine_J91 K (bI lk) v2 v3 (vl tx e i) t = some K := fun t => by
          unfold f_X10_lawLine_J91
          rw [if_neg h3.ne]
        have all : (if v = true then f_X10_lawLine_J86 K (bI lk) v2 v3 (vl tx e i) else f_X10_lawLine_J91 K (bI lk) v2 v3 (vl tx e i) 0) = some K := by
          cases v
          · exact bad 0
          · exact bad 1
        show Tr (if v = true then f_X10_lawLine_J86 K (bI lk) v2 v3 (vl tx e i) else f_X10_lawLine_J91 K (bI lk) v2 v3 (vl tx e i) 0) _
        rw [all]
        exact Tr.some ⟨wB.tr h1.l, h3⟩
      | inr o =>
        obtain ⟨p, j⟩ := o
        obtain ⟨g1, g2, g3, g4⟩ : K.1 109 12 = -1 ∧ K.1 109 13 = (sAt N b).1 109 13 ∧ AtR K tx e j ∧ Ev P mk 0 p v := h2
        have hh := g4.hd.2
        have sK : StL P mk as u K := ⟨(h1.2 17 (by decide) (by decide) (by decide)).trans sB.1, g2.trans sB.2.1, h1.ev sB.2.2.1, (h1.2 15 (by decide) (by decide) (by decide)).trans sB.2.2.2⟩
        have good : ∀ t, t = bI v → f_X10_lawLine_J91 K (bI lk) v2 v3 (vl tx e i) t = some (sI K 109 17 (wgU P mk as (u ++ [(wh, wt, p)]))) := fun t ht => J91v g1 sK.2.2.2 sK.1 hv (by rw [ht, hh]) hv1
        have all : (if v = true then f_X10_lawLine_J86 K (bI lk) v2 v3 (vl tx e i) else f_X10_lawLine_J91 K (bI lk) v2 v3 (vl tx e i) 0) = some (sI K 109 17 (wgU P mk as (u ++ [(wh, wt, p)]))) := by
          cases v
          · exact good 0 rfl
          · exact good 1 rfl
        show Tr (if v = true then f_X10_lawLine_J86 K (bI lk) v2 v3 (vl tx e i) else f_X10_lawLine_J91 K (bI lk) v2 v3 (vl tx e i) 0) _
        rw [all]
        exact Tr.some ⟨(wB.tr h1.l).tr (WL.s9 (by omega)), by rw [sI_at, if_neg (by omega)]; exact g1, sK.s17, g3.s9 (by decide)⟩
    · rw [if_neg (show ¬ wdT tx e (i + 1) = 300 + 12 from d)] at b3
      rw [decide_eq_false (show ¬ wdT tx e (i + 1) = 300 + 12 from d), if_neg (show ¬ false = true by decide), if_neg d]
      show Tr (f_X10_lawLine_J91 (sAt N b) (bI lk) v2 v3 (vl tx e i) 1) _
      rw [J91v (p := []) (t0 := 1) fB sB.2.2.2 sB.1 hv rfl hv1]
      exact Tr.some ⟨wB.tr (WL.s9 (by omega)), by rw [sI_at, if_neg (by omega)]; exact fB, sB.s17, b3.s9 (by decide)⟩
  · obtain ⟨x, a, a1, a2⟩ := k2 (fun h => c (nm_iff.mpr h))
    have hfl := Fl.of (M := N) he a1 hb
    rw [if_neg c, a2, Option.bind_some, if_neg hfl.ne]
    exact Tr.some ⟨WA.at.l.tr (WL.s9 (by omega)), hfl⟩
theorem J29R {lk : Bool} (hx : TxR N tx e) (hf : N.1 109 12 = -1) (ha : AtR N tx e i) (hs : StL P mk as u N) : Tr (f_X10_lawLine_J29 N (bI lk)) (LnR P mk as tx e N (lnO tx e u lk i)) := by
  have he := hx.1
  have hb := bg_le (tx := tx) he i
  obtain ⟨a, a1, a2, a3, a4⟩ := saysT hx ha (j := 11) (by decide) (iT (k := 20) (by decide)) s_law.2.2.1
  unfold f_X10_lawLine_J29
  rw [show f_X10_says N 420 = _ from a2, Option.bind_some]
  have fA : (sAt N a).1 109 12 = -1 := (sAt_ne (by decide)).trans hf
  have wA : WL N (sAt N a) := WA.at.l
  by_cases c : wdT tx e i = 311
  · rw [if_pos (show wdT tx e i = 300 + 11 from c)] at a3
    rw [decide_eq_true (show wdT tx e i = 300 + 11 from c), if_pos rfl]
    have hn : ¬ nm tx e 0 8 i = true := fun h => by
      have := (nm_iff.mp h).1
      omega
    have hl : lnO tx e u lk i = lnQ tx e u lk (-1) (i + 1) := by
      unfold lnO whP
      rw [if_neg hn, if_pos c]
    rw [hl]
    exact Tr.weak (J51R hx.at fA a3 hs.at (Or.inl ⟨rfl, rfl⟩)) (fun z hz => hz.wa wA)
  · rw [if_neg (show ¬ wdT tx e i = 300 + 11 from c)] at a3
    rw [decide_eq_false (show ¬ wdT tx e i = 300 + 11 from c), if_neg (show ¬ false = true by decide)]
    obtain ⟨k1, k2⟩ := figT (lo := 0) (hi := 8) hx.at fA a3 (by decide)
    by_cases d : nm tx e 0 8 i = true
    · obtain ⟨b, b1, b2, b3⟩ := k1 (nm_iff.mp d)
      rw [sAt_sAt] at b2 b3
      rw [b2, Option.bind_some]
      have hl : lnO tx e u lk i = lnQ tx e u lk (vl tx e i) (i + 1) := by
        unfold lnO whP
        rw [if_pos d]
      rw [hl]
      exact Tr.weak (J51R hx.at ((sAt_ne (by decide)).trans hf) b3 hs.at (Or.inr ⟨rfl, rfl, nm_ne1 (l := 0) d (by decide)⟩)) (fun z hz => hz.wa WA.at.l)
    · obtain ⟨x, b, b1, b2⟩ := k2 (fun h => d (nm_iff.mpr h))
      rw [sAt_sAt] at b2
      have hfl := Fl.of (M := N) he b1 hb
      have hl : lnO tx e u lk i = .inl i := by
        unfold lnO whP
        rw [if_neg d, if_neg c]
      rw [b2, Option.bind_some, hl]
      unfold f_X10_lawLine_J51
      rw [figF hfl, Option.bind_some, if_neg hfl.ne]
      exact Tr.some ⟨WA.at.l.tr (WL.s9 (by omega)), hfl⟩
theorem lawLineR (hx : TxR N tx e) (hf : N.1 109 12 = -1) (ha : AtR N tx e i) (hs : StL P mk as u N) : Tr (f_X10_lawLine N) (LnR P mk as tx e N (lnP tx e u i)) := by
  have he := hx.1
  have hb := bg_le (tx := tx) he i
  obtain ⟨a, a1, a2, a3, a4⟩ := saysT hx ha (j := 9) (by decide) (iT (k := 18) (by decide)) s_law.1
  unfold f_X10_lawLine lnP
  rw [show f_X10_says N 418 = _ from a2, Option.bind_some]
  have fA : (sAt N a).1 109 12 = -1 := (sAt_ne (by decide)).trans hf
  by_cases c : wdT tx e i = 309
  · rw [if_pos (show wdT tx e i = 300 + 9 from c)] at a3
    rw [decide_eq_true (show wdT tx e i = 300 + 9 from c), if_pos rfl, if_pos c]
    exact Tr.weak (J29R (lk := true) hx.at fA a3 hs.at) (fun z hz => hz.wa WA.at.l)
  · rw [if_neg (show ¬ wdT tx e i = 300 + 9 from c)] at a3
    rw [decide_eq_false (show ¬ wdT tx e i = 300 + 9 from c), if_neg (show ¬ false = true by decide), if_neg c]
    obtain ⟨b, b1, b2, b3, b4⟩ := saysT hx.at a3 (j := 10) (by decide) (iT (k := 19) (by decide)) s_law.2.1
    rw [sAt_sAt] at b2 b3
    rw [show f_X10_says (sAt N a) 419 = _ from b2, Option.bind_some]
    have fB : (sAt N b).1 109 12 = -1 := (sAt_ne (by decide)).trans hf
    by_cases d : wdT tx e i = 310
    · rw [if_pos (show wdT tx e i = 300 + 10 from d)] at b3
      rw [decide_eq_true (show wdT tx e i = 300 + 10 from d), if_pos rfl, if_pos d]
      exact Tr.weak (J29R (lk := false) hx.at fB b3 hs.at) (fun z hz => hz.wa WA.at.l)
    · have eb := b4 d
      rw [decide_eq_false (show ¬ wdT tx e i = 300 + 10 from d), if_neg (show ¬ false = true by decide), if_neg d, show gI (sAt N b) 109 11 = nI (bg tx e i) from by rw [← eb]; exact at_sAt, wrongR fB, Option.bind_some]
      exact Tr.some ⟨WA.at.l.tr (WL.s9 (by omega)), Fl.of he b1 hb⟩
def txL (tx : Nat → Int32) (e : Nat) : Nat ⊕ (List (Int32 × Int32 × List Int32) × Nat) := gR0 tx e (lnP tx e) 12 []
/-- the law's text, whole: the reference -/
theorem readLR (hx : TxR M tx e) (hf : M.1 109 12 = -1) (ha : AtR M tx e 0) (hs : StL P mk as [] M) : Tr (f_X10_read M 1) (fun r => WL M r.2 ∧ match txL tx e with | .inl b => Fl r.2 e (bg tx e b) | .inr (u2, c) => r.2.1 109 12 = -1 ∧ StL P mk as u2 r.2 ∧ r.1 = nI c) := by
  have key := readT (M := M) (Lm := 12) (v1 := 1) (ln := lnP tx e) (St := StL P mk as) (W := WL) (LF := f_X10_lawLine) (by decide) (fun M => WL.rf) (fun M N K h1 h2 => h1.tr h2) (fun M N h1 h2 => h2.txr h1) (fun M c x h => WL.s9 (by omega)) (fun s N a h => h.at) L23l (fun N s i h1 h2 h3 h4 => Tr.weak (lawLineR h1 h2 h3 h4) (fun z hz => by
    generalize lnP tx e s i = G at hz ⊢
    obtain ⟨z1, z2⟩ := hz
    cases G with
    | inl b => exact ⟨z1, z2⟩
    | inr o => exact ⟨z1, z2⟩)) hx hf ha hs
  refine Tr.weak key (fun r hr => ?_)
  unfold txL
  generalize gR0 tx e (lnP tx e) 12 [] = G at hr ⊢
  cases G with
  | inl b => exact hr
  | inr o => exact hr
end LAWL
