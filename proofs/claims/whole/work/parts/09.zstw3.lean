/-! the rows of class NoSuchElementException in judgement Z -/
def cNX : ByteArray := ⟨#[0x2a, 0x2b, 0xb7, 0x00, 0x0d, 0xb1]⟩
theorem dNX0 : decode cNX 0 = .ok (.aload_n 0, 1) := by decide +kernel
theorem dNX1 : decode cNX 1 = .ok (.aload_n 1, 1) := by decide +kernel
theorem dNX2 : decode cNX 2 = .ok (.invokespecial 13, 3) := by decide +kernel
theorem dNX5 : decode cNX 5 = .ok (.return_, 1) := by decide +kernel
def TXN (own cls text : String) (i ik is ic : Nat) : Prop := Bundle.fit cls = true ∧ Cond.classLink own ik cls ∈ TB ∧ Cond.initialized cls ∈ TB ∧ StrL[i]? = some (own, is, text) ∧ (∀ z ∈ nz_at own ic cls 13 cNX nmsX, z ∈ TB ∨ z ∈ NW) ∧ ∀ z ∈ Cond.classLink own ik cls :: Cond.initialized cls :: nz_at own ic cls 13 cNX nmsX, vx_ot z = true
section ZN
variable {X : Cx} {w : Nat} {p : Program} {l : Launch} {e : Env} {R : Room} {s : State} {m : MethodId} {args : Array Value} {below : List Frame} {meth : Method} {c : Code} {cells slots mc ms : Nat} {Q : State → Prop} {n : Nat} {M : Mm} {pc : Nat} {lv lv' : List (Nat × Value)} {st : List Value} {cc : ByteArray} {ret : Option FieldType} {own : String} {α β : Type} {x0 : β} {XC : String → State → State → Prop} {Qc : Array Value → State → Outcome → State → Prop}
theorem z_throwN (S : SB X w p s m args meth c cc n ret own) (hl : l.stackTraces = false) (T0 : ∀ x ∈ c.exceptionTable.toList, False) {rx : α ⊕ (Nat × Mm)} {cls text : String} {i ik is ic k : Nat} (hf : TXN own cls text i ik is ic) (hk : exName k = cls) (h : .inr (k, M) = rx)
    (d0 : decode cc pc = .ok (.new ik, 3)) (d3 : decode cc (pc + 3) = .ok (.dup, 1)) (d4 : decode cc (pc + 4) = .ok (.ldc is, 2)) (d6 : decode cc (pc + 6) = .ok (.invokespecial ic, 3)) (d9 : decode cc (pc + 9) = .ok (.athrow, 1))
    (hR : 5 < R.frames) (hR2 : (st.map fun v => v.category).sum + 82 ≤ R.locals) (hR3 : cells + 1 ≤ R.cells) (hR4 : slots + 6 ≤ R.slots) (hc : cells + 1 ≤ mc) (hs : slots + 6 ≤ ms) : Z X w p l e R s m args below meth c cells slots (vx_MQ below Qc (XCX X w rx s.heap.size) args s mc ms (AA X w s.heap.size)) n M pc lv st := by
  intro H locs ls h1 h2 h3
  obtain ⟨f1, f2, f3, f4, f5, f6⟩ := hf
  have hat : ∀ z ∈ nz_at own ic cls 13 cNX nmsX, z.before args s = true := fun z hz => (f5 z hz).elim (fun q => S.1.2.2.2.2 _ q) (fun q => NW_use q (S.2.2.2.2.2.1 _ q))
  refine nz_throw S.1.1 S.1.2.1 hl dNX0 dNX1 dNX2 dNX5 S.1.2.2.2.1 f1 nmsX_fit (S.1.2.2.2.2 _ f2) (S.1.2.2.2.2 _ f3) (S.sta.2.2.2.2.1 i _ f4).1 hat f6 S.sta.2.2.2.2.2.2.1 S.sta.2.2.2.2.2.2.2.1 h2 (h3.1.trans S.1.2.2.1.symm) d0 d3 d4 d6 d9 (fun x hx => (T0 x hx).elim) hR hR2 hR3 hR4 S.2.2.1 (fun t hA hz hq => ?_) h2.2.2 hc hs
  exact ⟨(k, M), h.symm, ⟨hk.symm, WDP_grow h1 hq⟩, Nat.le_trans h2.1 hz, fun q hq1 hq2 => by rw [hq q (Nat.lt_of_lt_of_le hq1 h2.1)]; exact h2.2.1 q hq1 hq2⟩
theorem z_throwNW (S : SB X w p s m args meth c cc n ret own) (hl : l.stackTraces = false) (T0 : ∀ x ∈ c.exceptionTable.toList, False) {rx : α ⊕ (Nat × Mm)} {cls text : String} {i ik is ic k : Nat} (hf : TXN own cls text i ik is ic) (hk : exName k = cls) (h : .inr (k, M) = rx)
    (d0 : decode cc pc = .ok (.new ik, 3)) (d3 : decode cc (pc + 3) = .ok (.dup, 1)) (d4 : decode cc (pc + 4) = .ok (.ldc_w is, 3)) (d7 : decode cc (pc + 7) = .ok (.invokespecial ic, 3)) (d10 : decode cc (pc + 10) = .ok (.athrow, 1))
    (hR : 5 < R.frames) (hR2 : (st.map fun v => v.category).sum + 82 ≤ R.locals) (hR3 : cells + 1 ≤ R.cells) (hR4 : slots + 6 ≤ R.slots) (hc : cells + 1 ≤ mc) (hs : slots + 6 ≤ ms) : Z X w p l e R s m args below meth c cells slots (vx_MQ below Qc (XCX X w rx s.heap.size) args s mc ms (AA X w s.heap.size)) n M pc lv st := by
  intro H locs ls h1 h2 h3
  obtain ⟨f1, f2, f3, f4, f5, f6⟩ := hf
  have hat : ∀ z ∈ nz_at own ic cls 13 cNX nmsX, z.before args s = true := fun z hz => (f5 z hz).elim (fun q => S.1.2.2.2.2 _ q) (fun q => NW_use q (S.2.2.2.2.2.1 _ q))
  refine nz_throwW S.1.1 S.1.2.1 hl dNX0 dNX1 dNX2 dNX5 S.1.2.2.2.1 f1 nmsX_fit (S.1.2.2.2.2 _ f2) (S.1.2.2.2.2 _ f3) (S.sta.2.2.2.2.1 i _ f4).1 hat f6 S.sta.2.2.2.2.2.2.1 S.sta.2.2.2.2.2.2.2.1 h2 (h3.1.trans S.1.2.2.1.symm) d0 d3 d4 d7 d10 (fun x hx => (T0 x hx).elim) hR hR2 hR3 hR4 S.2.2.1 (fun t hA hz hq => ?_) h2.2.2 hc hs
  exact ⟨(k, M), h.symm, ⟨hk.symm, WDP_grow h1 hq⟩, Nat.le_trans h2.1 hz, fun q hq1 hq2 => by rw [hq q (Nat.lt_of_lt_of_le hq1 h2.1)]; exact h2.2.1 q hq1 hq2⟩
end ZN
