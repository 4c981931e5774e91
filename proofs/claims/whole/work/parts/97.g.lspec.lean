/-! the law's part gives what the others ask -/
theorem LawOK : LSpec LR LK :=
  ⟨fun _ _ _ _ h hf => LR_1 h hf, fun _ _ _ _ h he => LR_2 h he, fun _ _ _ _ _ he h6 hv h0 h4 => LR_3 he h6 hv h0 h4, fun _ _ _ _ _ _ _ hq hL hM hI hR ht hv => LR_4 hq hL hM hI hR ht hv, fun _ _ _ _ _ _ _ hI hL ht hv => LR_5 hI hL ht hv, fun _ _ _ _ _ hI hv => LR_6 hI hv, fun _ _ _ _ _ h hc _ h6 => LR_7 h hc h6, fun _ _ _ h => h.1⟩
