def am_nmT : List String := ["java/lang/RuntimeException", "java/lang/Exception"]
/-- the words of a throw, all at hand -/
def am_TW (k ic : Nat) (E : String) : Prop := Bundle.fit E = true ∧ Cond.classLink RX9 k E ∈ sg_T ∧ Cond.initialized E ∈ sg_T ∧ (∀ w ∈ vx_atS RX9 ic E am_nmT, w ∈ lw_tbl ∧ (goodWord w || am_nw w) = true) ∧ ∀ w ∈ Cond.classLink RX9 k E :: Cond.initialized E :: vx_atS RX9 ic E am_nmT, vx_ot w = true
theorem am_TW1 : am_TW 62 66 "java/lang/IndexOutOfBoundsException" := by
  unfold am_TW
  decide +kernel
theorem am_TW2 : am_TW 73 77 "java/lang/IllegalArgumentException" := by
  unfold am_TW
  decide +kernel
theorem am_TW3 : am_TW 291 295 "java/lang/IllegalStateException" := by
  unfold am_TW
  decide +kernel
