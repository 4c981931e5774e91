/-! the tables' words of class NoSuchElementException -/
theorem tna_RX9_146 : ∀ z ∈ nz_at RX9 146 "java/util/NoSuchElementException" 13 cNX nmsX, z ∈ TB ∨ z ∈ NW := by decide +kernel
theorem tnb_RX9_146 : ∀ z ∈ Cond.classLink RX9 142 "java/util/NoSuchElementException" :: Cond.initialized "java/util/NoSuchElementException" :: nz_at RX9 146 "java/util/NoSuchElementException" 13 cNX nmsX, vx_ot z = true := by decide +kernel
