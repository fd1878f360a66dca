theorem zd_r1 : ∀ w ∈ wsL_law0_r1, w ∈ lw_tbl := by decide +kernel
theorem zd_r2 : ∀ w ∈ wsL_law0_r2, w ∈ lw_tbl := by decide +kernel
theorem zd_r3 : ∀ w ∈ wsL_law0_r3, w ∈ lw_tbl := by decide +kernel
theorem zd_r4 : ∀ w ∈ wsL_law0_r4, w ∈ lw_tbl := by decide +kernel
theorem zd_r5 : ∀ w ∈ wsL_law0_r5, w ∈ lw_tbl := by decide +kernel
theorem zd_r6 : ∀ w ∈ wsL_law0_r6, w ∈ lw_tbl := by decide +kernel
theorem zd_r7 : ∀ w ∈ wsL_law0_r7, w ∈ lw_tbl := by decide +kernel
theorem zd_r8 : ∀ w ∈ wsL_law0_r8, w ∈ lw_tbl := by decide +kernel
theorem zd_r9 : ∀ w ∈ wsL_law0_r9, w ∈ lw_tbl := by decide +kernel
theorem zd_r10 : ∀ w ∈ wsL_law0_r10, w ∈ lw_tbl := by decide +kernel
theorem zd_r11 : ∀ w ∈ wsL_law0_r11, w ∈ lw_tbl := by decide +kernel
theorem zd_r12 : ∀ w ∈ wsL_law0_r12, w ∈ lw_tbl := by decide +kernel
theorem zd_r13 : ∀ w ∈ wsL_law0_r13, w ∈ lw_tbl := by decide +kernel
theorem zd_r14 : ∀ w ∈ wsL_law0_r14, w ∈ lw_tbl := by decide +kernel
theorem zd_r15 : ∀ w ∈ wsL_law0_r15, w ∈ lw_tbl := by decide +kernel
theorem zd_r16 : ∀ w ∈ wsL_law0_r16, w ∈ lw_tbl := by decide +kernel
theorem zd_r17 : ∀ w ∈ wsL_law0_r17, w ∈ lw_tbl := by decide +kernel
theorem zd_r18 : ∀ w ∈ wsL_law0_r18, w ∈ lw_tbl := by decide +kernel
theorem zd_r19 : ∀ w ∈ wsL_law0_r19, w ∈ lw_tbl := by decide +kernel
theorem zd_r20 : ∀ w ∈ wsL_law0_r20, w ∈ lw_tbl := by decide +kernel
theorem zd_r21 : ∀ w ∈ wsL_law0_r21, w ∈ lw_tbl := by decide +kernel
theorem zd_r22 : ∀ w ∈ wsL_law0_r22, w ∈ lw_tbl := by decide +kernel
theorem zd_r23 : ∀ w ∈ wsL_law0_r23, w ∈ lw_tbl := by decide +kernel
theorem zd_r24 : ∀ w ∈ wsL_law0_r24, w ∈ lw_tbl := by decide +kernel
theorem zd_r25 : ∀ w ∈ wsL_law0_r25, w ∈ lw_tbl := by decide +kernel
theorem zd_r26 : ∀ w ∈ wsL_law0_r26, w ∈ lw_tbl := by decide +kernel
theorem zd_r27 : ∀ w ∈ wsL_law0_r27, w ∈ lw_tbl := by decide +kernel
theorem zd_r28 : ∀ w ∈ wsL_law0_r28, w ∈ lw_tbl := by decide +kernel
theorem zd_r29 : ∀ w ∈ wsL_law0_r29, w ∈ lw_tbl := by decide +kernel
theorem zd_r30 : ∀ w ∈ wsL_law0_r30, w ∈ lw_tbl := by decide +kernel
theorem zd_r31 : ∀ w ∈ wsL_law0_r31, w ∈ lw_tbl := by decide +kernel
theorem zd_r32 : ∀ w ∈ wsL_law0_r32, w ∈ lw_tbl := by decide +kernel
theorem zd_r33 : ∀ w ∈ wsL_law0_r33, w ∈ lw_tbl := by decide +kernel
theorem zd_r34 : ∀ w ∈ wsL_law0_r34, w ∈ lw_tbl := by decide +kernel
theorem zd_x0 : ∀ w, ((vx_atS RX8 112 "java/util/NoSuchElementException" ["java/lang/RuntimeException", "java/lang/Exception"]).filter goodWord)[0]? = some w → w ∈ lw_tbl := by
  have h : (match ((vx_atS RX8 112 "java/util/NoSuchElementException" ["java/lang/RuntimeException", "java/lang/Exception"]).filter goodWord)[0]? with | some w => decide (w ∈ lw_tbl) | none => true) = true := by decide +kernel
  intro w hw
  rw [hw] at h
  simpa using h
theorem zd_x1 : ∀ w, ((vx_atS RX8 112 "java/util/NoSuchElementException" ["java/lang/RuntimeException", "java/lang/Exception"]).filter goodWord)[1]? = some w → w ∈ lw_tbl := by
  have h : (match ((vx_atS RX8 112 "java/util/NoSuchElementException" ["java/lang/RuntimeException", "java/lang/Exception"]).filter goodWord)[1]? with | some w => decide (w ∈ lw_tbl) | none => true) = true := by decide +kernel
  intro w hw
  rw [hw] at h
  simpa using h
theorem zd_x2 : ∀ w, ((vx_atS RX8 112 "java/util/NoSuchElementException" ["java/lang/RuntimeException", "java/lang/Exception"]).filter goodWord)[2]? = some w → w ∈ lw_tbl := by
  have h : (match ((vx_atS RX8 112 "java/util/NoSuchElementException" ["java/lang/RuntimeException", "java/lang/Exception"]).filter goodWord)[2]? with | some w => decide (w ∈ lw_tbl) | none => true) = true := by decide +kernel
  intro w hw
  rw [hw] at h
  simpa using h
theorem zd_x3 : ∀ w, ((vx_atS RX8 112 "java/util/NoSuchElementException" ["java/lang/RuntimeException", "java/lang/Exception"]).filter goodWord)[3]? = some w → w ∈ lw_tbl := by
  have h : (match ((vx_atS RX8 112 "java/util/NoSuchElementException" ["java/lang/RuntimeException", "java/lang/Exception"]).filter goodWord)[3]? with | some w => decide (w ∈ lw_tbl) | none => true) = true := by decide +kernel
  intro w hw
  rw [hw] at h
  simpa using h
theorem zd_x4 : ∀ w, ((vx_atS RX8 112 "java/util/NoSuchElementException" ["java/lang/RuntimeException", "java/lang/Exception"]).filter goodWord)[4]? = some w → w ∈ lw_tbl := by
  have h : (match ((vx_atS RX8 112 "java/util/NoSuchElementException" ["java/lang/RuntimeException", "java/lang/Exception"]).filter goodWord)[4]? with | some w => decide (w ∈ lw_tbl) | none => true) = true := by decide +kernel
  intro w hw
  rw [hw] at h
  simpa using h
theorem zd_x5 : ∀ w, ((vx_atS RX8 112 "java/util/NoSuchElementException" ["java/lang/RuntimeException", "java/lang/Exception"]).filter goodWord)[5]? = some w → w ∈ lw_tbl := by
  have h : (match ((vx_atS RX8 112 "java/util/NoSuchElementException" ["java/lang/RuntimeException", "java/lang/Exception"]).filter goodWord)[5]? with | some w => decide (w ∈ lw_tbl) | none => true) = true := by decide +kernel
  intro w hw
  rw [hw] at h
  simpa using h
theorem zd_x6 : ∀ w, ((vx_atS RX8 112 "java/util/NoSuchElementException" ["java/lang/RuntimeException", "java/lang/Exception"]).filter goodWord)[6]? = some w → w ∈ lw_tbl := by
  have h : (match ((vx_atS RX8 112 "java/util/NoSuchElementException" ["java/lang/RuntimeException", "java/lang/Exception"]).filter goodWord)[6]? with | some w => decide (w ∈ lw_tbl) | none => true) = true := by decide +kernel
  intro w hw
  rw [hw] at h
  simpa using h
theorem zd_x7 : ∀ w, ((vx_atS RX8 112 "java/util/NoSuchElementException" ["java/lang/RuntimeException", "java/lang/Exception"]).filter goodWord)[7]? = some w → w ∈ lw_tbl := by
  have h : (match ((vx_atS RX8 112 "java/util/NoSuchElementException" ["java/lang/RuntimeException", "java/lang/Exception"]).filter goodWord)[7]? with | some w => decide (w ∈ lw_tbl) | none => true) = true := by decide +kernel
  intro w hw
  rw [hw] at h
  simpa using h
theorem zd_x8 : ∀ w, ((vx_atS RX8 112 "java/util/NoSuchElementException" ["java/lang/RuntimeException", "java/lang/Exception"]).filter goodWord)[8]? = some w → w ∈ lw_tbl := by
  have h : (match ((vx_atS RX8 112 "java/util/NoSuchElementException" ["java/lang/RuntimeException", "java/lang/Exception"]).filter goodWord)[8]? with | some w => decide (w ∈ lw_tbl) | none => true) = true := by decide +kernel
  intro w hw
  rw [hw] at h
  simpa using h
theorem zd_x9 : ∀ w, ((vx_atS RX8 112 "java/util/NoSuchElementException" ["java/lang/RuntimeException", "java/lang/Exception"]).filter goodWord)[9]? = some w → w ∈ lw_tbl := by
  have h : (match ((vx_atS RX8 112 "java/util/NoSuchElementException" ["java/lang/RuntimeException", "java/lang/Exception"]).filter goodWord)[9]? with | some w => decide (w ∈ lw_tbl) | none => true) = true := by decide +kernel
  intro w hw
  rw [hw] at h
  simpa using h
theorem zd_x10 : ∀ w, ((vx_atS RX8 112 "java/util/NoSuchElementException" ["java/lang/RuntimeException", "java/lang/Exception"]).filter goodWord)[10]? = some w → w ∈ lw_tbl := by
  have h : (match ((vx_atS RX8 112 "java/util/NoSuchElementException" ["java/lang/RuntimeException", "java/lang/Exception"]).filter goodWord)[10]? with | some w => decide (w ∈ lw_tbl) | none => true) = true := by decide +kernel
  intro w hw
  rw [hw] at h
  simpa using h
theorem zd_x11 : ∀ w, ((vx_atS RX8 112 "java/util/NoSuchElementException" ["java/lang/RuntimeException", "java/lang/Exception"]).filter goodWord)[11]? = some w → w ∈ lw_tbl := by
  have h : (match ((vx_atS RX8 112 "java/util/NoSuchElementException" ["java/lang/RuntimeException", "java/lang/Exception"]).filter goodWord)[11]? with | some w => decide (w ∈ lw_tbl) | none => true) = true := by decide +kernel
  intro w hw
  rw [hw] at h
  simpa using h
theorem zd_x12 : ∀ w, ((vx_atS RX8 112 "java/util/NoSuchElementException" ["java/lang/RuntimeException", "java/lang/Exception"]).filter goodWord)[12]? = some w → w ∈ lw_tbl := by
  have h : (match ((vx_atS RX8 112 "java/util/NoSuchElementException" ["java/lang/RuntimeException", "java/lang/Exception"]).filter goodWord)[12]? with | some w => decide (w ∈ lw_tbl) | none => true) = true := by decide +kernel
  intro w hw
  rw [hw] at h
  simpa using h
theorem zd_x13 : ∀ w, ((vx_atS RX8 112 "java/util/NoSuchElementException" ["java/lang/RuntimeException", "java/lang/Exception"]).filter goodWord)[13]? = some w → w ∈ lw_tbl := by
  have h : (match ((vx_atS RX8 112 "java/util/NoSuchElementException" ["java/lang/RuntimeException", "java/lang/Exception"]).filter goodWord)[13]? with | some w => decide (w ∈ lw_tbl) | none => true) = true := by decide +kernel
  intro w hw
  rw [hw] at h
  simpa using h
theorem zd_x14 : ∀ w, ((vx_atS RX8 112 "java/util/NoSuchElementException" ["java/lang/RuntimeException", "java/lang/Exception"]).filter goodWord)[14]? = some w → w ∈ lw_tbl := by
  have h : (match ((vx_atS RX8 112 "java/util/NoSuchElementException" ["java/lang/RuntimeException", "java/lang/Exception"]).filter goodWord)[14]? with | some w => decide (w ∈ lw_tbl) | none => true) = true := by decide +kernel
  intro w hw
  rw [hw] at h
  simpa using h
theorem zd_x15 : ∀ w, ((vx_atS RX8 112 "java/util/NoSuchElementException" ["java/lang/RuntimeException", "java/lang/Exception"]).filter goodWord)[15]? = some w → w ∈ lw_tbl := by
  have h : (match ((vx_atS RX8 112 "java/util/NoSuchElementException" ["java/lang/RuntimeException", "java/lang/Exception"]).filter goodWord)[15]? with | some w => decide (w ∈ lw_tbl) | none => true) = true := by decide +kernel
  intro w hw
  rw [hw] at h
  simpa using h
theorem zd_x16 : ∀ w, ((vx_atS RX8 112 "java/util/NoSuchElementException" ["java/lang/RuntimeException", "java/lang/Exception"]).filter goodWord)[16]? = some w → w ∈ lw_tbl := by
  have h : (match ((vx_atS RX8 112 "java/util/NoSuchElementException" ["java/lang/RuntimeException", "java/lang/Exception"]).filter goodWord)[16]? with | some w => decide (w ∈ lw_tbl) | none => true) = true := by decide +kernel
  intro w hw
  rw [hw] at h
  simpa using h
theorem zd_x17 : ∀ w, ((vx_atS RX8 112 "java/util/NoSuchElementException" ["java/lang/RuntimeException", "java/lang/Exception"]).filter goodWord)[17]? = some w → w ∈ lw_tbl := by
  have h : (match ((vx_atS RX8 112 "java/util/NoSuchElementException" ["java/lang/RuntimeException", "java/lang/Exception"]).filter goodWord)[17]? with | some w => decide (w ∈ lw_tbl) | none => true) = true := by decide +kernel
  intro w hw
  rw [hw] at h
  simpa using h
theorem zd_x18 : ∀ w, ((vx_atS RX8 112 "java/util/NoSuchElementException" ["java/lang/RuntimeException", "java/lang/Exception"]).filter goodWord)[18]? = some w → w ∈ lw_tbl := by
  have h : (match ((vx_atS RX8 112 "java/util/NoSuchElementException" ["java/lang/RuntimeException", "java/lang/Exception"]).filter goodWord)[18]? with | some w => decide (w ∈ lw_tbl) | none => true) = true := by decide +kernel
  intro w hw
  rw [hw] at h
  simpa using h
theorem zd_x19 : ∀ w, ((vx_atS RX8 112 "java/util/NoSuchElementException" ["java/lang/RuntimeException", "java/lang/Exception"]).filter goodWord)[19]? = some w → w ∈ lw_tbl := by
  have h : (match ((vx_atS RX8 112 "java/util/NoSuchElementException" ["java/lang/RuntimeException", "java/lang/Exception"]).filter goodWord)[19]? with | some w => decide (w ∈ lw_tbl) | none => true) = true := by decide +kernel
  intro w hw
  rw [hw] at h
  simpa using h
theorem zd_x20 : ∀ w, ((vx_atS RX8 112 "java/util/NoSuchElementException" ["java/lang/RuntimeException", "java/lang/Exception"]).filter goodWord)[20]? = some w → w ∈ lw_tbl := by
  have h : (match ((vx_atS RX8 112 "java/util/NoSuchElementException" ["java/lang/RuntimeException", "java/lang/Exception"]).filter goodWord)[20]? with | some w => decide (w ∈ lw_tbl) | none => true) = true := by decide +kernel
  intro w hw
  rw [hw] at h
  simpa using h
theorem zd_x21 : ∀ w, ((vx_atS RX8 112 "java/util/NoSuchElementException" ["java/lang/RuntimeException", "java/lang/Exception"]).filter goodWord)[21]? = some w → w ∈ lw_tbl := by
  have h : (match ((vx_atS RX8 112 "java/util/NoSuchElementException" ["java/lang/RuntimeException", "java/lang/Exception"]).filter goodWord)[21]? with | some w => decide (w ∈ lw_tbl) | none => true) = true := by decide +kernel
  intro w hw
  rw [hw] at h
  simpa using h
theorem zd_x22 : ∀ w, ((vx_atS RX8 112 "java/util/NoSuchElementException" ["java/lang/RuntimeException", "java/lang/Exception"]).filter goodWord)[22]? = some w → w ∈ lw_tbl := by
  have h : (match ((vx_atS RX8 112 "java/util/NoSuchElementException" ["java/lang/RuntimeException", "java/lang/Exception"]).filter goodWord)[22]? with | some w => decide (w ∈ lw_tbl) | none => true) = true := by decide +kernel
  intro w hw
  rw [hw] at h
  simpa using h
theorem zd_x23 : ∀ w, ((vx_atS RX8 112 "java/util/NoSuchElementException" ["java/lang/RuntimeException", "java/lang/Exception"]).filter goodWord)[23]? = some w → w ∈ lw_tbl := by
  have h : (match ((vx_atS RX8 112 "java/util/NoSuchElementException" ["java/lang/RuntimeException", "java/lang/Exception"]).filter goodWord)[23]? with | some w => decide (w ∈ lw_tbl) | none => true) = true := by decide +kernel
  intro w hw
  rw [hw] at h
  simpa using h
theorem zd_x24 : ∀ w, ((vx_atS RX8 112 "java/util/NoSuchElementException" ["java/lang/RuntimeException", "java/lang/Exception"]).filter goodWord)[24]? = some w → w ∈ lw_tbl := by
  have h : (match ((vx_atS RX8 112 "java/util/NoSuchElementException" ["java/lang/RuntimeException", "java/lang/Exception"]).filter goodWord)[24]? with | some w => decide (w ∈ lw_tbl) | none => true) = true := by decide +kernel
  intro w hw
  rw [hw] at h
  simpa using h
theorem zd_x25 : ∀ w, ((vx_atS RX8 112 "java/util/NoSuchElementException" ["java/lang/RuntimeException", "java/lang/Exception"]).filter goodWord)[25]? = some w → w ∈ lw_tbl := by
  have h : (match ((vx_atS RX8 112 "java/util/NoSuchElementException" ["java/lang/RuntimeException", "java/lang/Exception"]).filter goodWord)[25]? with | some w => decide (w ∈ lw_tbl) | none => true) = true := by decide +kernel
  intro w hw
  rw [hw] at h
  simpa using h
theorem zd_x26 : ∀ w, ((vx_atS RX8 112 "java/util/NoSuchElementException" ["java/lang/RuntimeException", "java/lang/Exception"]).filter goodWord)[26]? = some w → w ∈ lw_tbl := by
  have h : (match ((vx_atS RX8 112 "java/util/NoSuchElementException" ["java/lang/RuntimeException", "java/lang/Exception"]).filter goodWord)[26]? with | some w => decide (w ∈ lw_tbl) | none => true) = true := by decide +kernel
  intro w hw
  rw [hw] at h
  simpa using h
theorem zd_x27 : ∀ w, ((vx_atS RX8 112 "java/util/NoSuchElementException" ["java/lang/RuntimeException", "java/lang/Exception"]).filter goodWord)[27]? = some w → w ∈ lw_tbl := by
  have h : (match ((vx_atS RX8 112 "java/util/NoSuchElementException" ["java/lang/RuntimeException", "java/lang/Exception"]).filter goodWord)[27]? with | some w => decide (w ∈ lw_tbl) | none => true) = true := by decide +kernel
  intro w hw
  rw [hw] at h
  simpa using h
theorem zd_x28 : ∀ w, ((vx_atS RX8 112 "java/util/NoSuchElementException" ["java/lang/RuntimeException", "java/lang/Exception"]).filter goodWord)[28]? = some w → w ∈ lw_tbl := by
  have h : (match ((vx_atS RX8 112 "java/util/NoSuchElementException" ["java/lang/RuntimeException", "java/lang/Exception"]).filter goodWord)[28]? with | some w => decide (w ∈ lw_tbl) | none => true) = true := by decide +kernel
  intro w hw
  rw [hw] at h
  simpa using h
theorem zd_x29 : ∀ w, ((vx_atS RX8 112 "java/util/NoSuchElementException" ["java/lang/RuntimeException", "java/lang/Exception"]).filter goodWord)[29]? = some w → w ∈ lw_tbl := by
  have h : (match ((vx_atS RX8 112 "java/util/NoSuchElementException" ["java/lang/RuntimeException", "java/lang/Exception"]).filter goodWord)[29]? with | some w => decide (w ∈ lw_tbl) | none => true) = true := by decide +kernel
  intro w hw
  rw [hw] at h
  simpa using h
theorem zd_x30 : ∀ w, ((vx_atS RX8 112 "java/util/NoSuchElementException" ["java/lang/RuntimeException", "java/lang/Exception"]).filter goodWord)[30]? = some w → w ∈ lw_tbl := by
  have h : (match ((vx_atS RX8 112 "java/util/NoSuchElementException" ["java/lang/RuntimeException", "java/lang/Exception"]).filter goodWord)[30]? with | some w => decide (w ∈ lw_tbl) | none => true) = true := by decide +kernel
  intro w hw
  rw [hw] at h
  simpa using h
theorem zd_x31 : ∀ w, ((vx_atS RX8 112 "java/util/NoSuchElementException" ["java/lang/RuntimeException", "java/lang/Exception"]).filter goodWord)[31]? = some w → w ∈ lw_tbl := by
  have h : (match ((vx_atS RX8 112 "java/util/NoSuchElementException" ["java/lang/RuntimeException", "java/lang/Exception"]).filter goodWord)[31]? with | some w => decide (w ∈ lw_tbl) | none => true) = true := by decide +kernel
  intro w hw
  rw [hw] at h
  simpa using h
theorem zd_x32 : ∀ w, ((vx_atS RX8 112 "java/util/NoSuchElementException" ["java/lang/RuntimeException", "java/lang/Exception"]).filter goodWord)[32]? = some w → w ∈ lw_tbl := by
  have h : (match ((vx_atS RX8 112 "java/util/NoSuchElementException" ["java/lang/RuntimeException", "java/lang/Exception"]).filter goodWord)[32]? with | some w => decide (w ∈ lw_tbl) | none => true) = true := by decide +kernel
  intro w hw
  rw [hw] at h
  simpa using h
theorem zd_x33 : ∀ w, ((vx_atS RX8 112 "java/util/NoSuchElementException" ["java/lang/RuntimeException", "java/lang/Exception"]).filter goodWord)[33]? = some w → w ∈ lw_tbl := by
  have h : (match ((vx_atS RX8 112 "java/util/NoSuchElementException" ["java/lang/RuntimeException", "java/lang/Exception"]).filter goodWord)[33]? with | some w => decide (w ∈ lw_tbl) | none => true) = true := by decide +kernel
  intro w hw
  rw [hw] at h
  simpa using h
theorem zd_x34 : ∀ w, ((vx_atS RX8 112 "java/util/NoSuchElementException" ["java/lang/RuntimeException", "java/lang/Exception"]).filter goodWord)[34]? = some w → w ∈ lw_tbl := by
  have h : (match ((vx_atS RX8 112 "java/util/NoSuchElementException" ["java/lang/RuntimeException", "java/lang/Exception"]).filter goodWord)[34]? with | some w => decide (w ∈ lw_tbl) | none => true) = true := by decide +kernel
  intro w hw
  rw [hw] at h
  simpa using h
theorem zd_x35 : ∀ w, ((vx_atS RX8 112 "java/util/NoSuchElementException" ["java/lang/RuntimeException", "java/lang/Exception"]).filter goodWord)[35]? = some w → w ∈ lw_tbl := by
  have h : (match ((vx_atS RX8 112 "java/util/NoSuchElementException" ["java/lang/RuntimeException", "java/lang/Exception"]).filter goodWord)[35]? with | some w => decide (w ∈ lw_tbl) | none => true) = true := by decide +kernel
  intro w hw
  rw [hw] at h
  simpa using h
theorem zd_x36 : ∀ w, ((vx_atS RX8 112 "java/util/NoSuchElementException" ["java/lang/RuntimeException", "java/lang/Exception"]).filter goodWord)[36]? = some w → w ∈ lw_tbl := by
  have h : (match ((vx_atS RX8 112 "java/util/NoSuchElementException" ["java/lang/RuntimeException", "java/lang/Exception"]).filter goodWord)[36]? with | some w => decide (w ∈ lw_tbl) | none => true) = true := by decide +kernel
  intro w hw
  rw [hw] at h
  simpa using h
theorem zd_x37 : ∀ w, ((vx_atS RX8 112 "java/util/NoSuchElementException" ["java/lang/RuntimeException", "java/lang/Exception"]).filter goodWord)[37]? = some w → w ∈ lw_tbl := by
  have h : (match ((vx_atS RX8 112 "java/util/NoSuchElementException" ["java/lang/RuntimeException", "java/lang/Exception"]).filter goodWord)[37]? with | some w => decide (w ∈ lw_tbl) | none => true) = true := by decide +kernel
  intro w hw
  rw [hw] at h
  simpa using h
theorem zd_x38 : ∀ w, ((vx_atS RX8 112 "java/util/NoSuchElementException" ["java/lang/RuntimeException", "java/lang/Exception"]).filter goodWord)[38]? = some w → w ∈ lw_tbl := by
  have h : (match ((vx_atS RX8 112 "java/util/NoSuchElementException" ["java/lang/RuntimeException", "java/lang/Exception"]).filter goodWord)[38]? with | some w => decide (w ∈ lw_tbl) | none => true) = true := by decide +kernel
  intro w hw
  rw [hw] at h
  simpa using h
theorem zd_x39 : ∀ w, ((vx_atS RX8 112 "java/util/NoSuchElementException" ["java/lang/RuntimeException", "java/lang/Exception"]).filter goodWord)[39]? = some w → w ∈ lw_tbl := by
  have h : (match ((vx_atS RX8 112 "java/util/NoSuchElementException" ["java/lang/RuntimeException", "java/lang/Exception"]).filter goodWord)[39]? with | some w => decide (w ∈ lw_tbl) | none => true) = true := by decide +kernel
  intro w hw
  rw [hw] at h
  simpa using h
theorem zd_x40 : ∀ w, ((vx_atS RX8 112 "java/util/NoSuchElementException" ["java/lang/RuntimeException", "java/lang/Exception"]).filter goodWord)[40]? = some w → w ∈ lw_tbl := by
  have h : (match ((vx_atS RX8 112 "java/util/NoSuchElementException" ["java/lang/RuntimeException", "java/lang/Exception"]).filter goodWord)[40]? with | some w => decide (w ∈ lw_tbl) | none => true) = true := by decide +kernel
  intro w hw
  rw [hw] at h
  simpa using h
theorem zd_x41 : ∀ w, ((vx_atS RX8 112 "java/util/NoSuchElementException" ["java/lang/RuntimeException", "java/lang/Exception"]).filter goodWord)[41]? = some w → w ∈ lw_tbl := by
  have h : (match ((vx_atS RX8 112 "java/util/NoSuchElementException" ["java/lang/RuntimeException", "java/lang/Exception"]).filter goodWord)[41]? with | some w => decide (w ∈ lw_tbl) | none => true) = true := by decide +kernel
  intro w hw
  rw [hw] at h
  simpa using h
theorem zd_x42 : ∀ w, ((vx_atS RX8 112 "java/util/NoSuchElementException" ["java/lang/RuntimeException", "java/lang/Exception"]).filter goodWord)[42]? = some w → w ∈ lw_tbl := by
  have h : (match ((vx_atS RX8 112 "java/util/NoSuchElementException" ["java/lang/RuntimeException", "java/lang/Exception"]).filter goodWord)[42]? with | some w => decide (w ∈ lw_tbl) | none => true) = true := by decide +kernel
  intro w hw
  rw [hw] at h
  simpa using h
theorem zd_x43 : ∀ w, ((vx_atS RX8 112 "java/util/NoSuchElementException" ["java/lang/RuntimeException", "java/lang/Exception"]).filter goodWord)[43]? = some w → w ∈ lw_tbl := by
  have h : (match ((vx_atS RX8 112 "java/util/NoSuchElementException" ["java/lang/RuntimeException", "java/lang/Exception"]).filter goodWord)[43]? with | some w => decide (w ∈ lw_tbl) | none => true) = true := by decide +kernel
  intro w hw
  rw [hw] at h
  simpa using h
theorem zd_x44 : ∀ w, ((vx_atS RX8 112 "java/util/NoSuchElementException" ["java/lang/RuntimeException", "java/lang/Exception"]).filter goodWord)[44]? = some w → w ∈ lw_tbl := by
  have h : (match ((vx_atS RX8 112 "java/util/NoSuchElementException" ["java/lang/RuntimeException", "java/lang/Exception"]).filter goodWord)[44]? with | some w => decide (w ∈ lw_tbl) | none => true) = true := by decide +kernel
  intro w hw
  rw [hw] at h
  simpa using h
theorem zd_x45 : ∀ w, ((vx_atS RX8 112 "java/util/NoSuchElementException" ["java/lang/RuntimeException", "java/lang/Exception"]).filter goodWord)[45]? = some w → w ∈ lw_tbl := by
  have h : (match ((vx_atS RX8 112 "java/util/NoSuchElementException" ["java/lang/RuntimeException", "java/lang/Exception"]).filter goodWord)[45]? with | some w => decide (w ∈ lw_tbl) | none => true) = true := by decide +kernel
  intro w hw
  rw [hw] at h
  simpa using h
theorem zd_x46 : ∀ w, ((vx_atS RX8 112 "java/util/NoSuchElementException" ["java/lang/RuntimeException", "java/lang/Exception"]).filter goodWord)[46]? = some w → w ∈ lw_tbl := by
  have h : (match ((vx_atS RX8 112 "java/util/NoSuchElementException" ["java/lang/RuntimeException", "java/lang/Exception"]).filter goodWord)[46]? with | some w => decide (w ∈ lw_tbl) | none => true) = true := by decide +kernel
  intro w hw
  rw [hw] at h
  simpa using h
theorem zd_x47 : ∀ w, ((vx_atS RX8 112 "java/util/NoSuchElementException" ["java/lang/RuntimeException", "java/lang/Exception"]).filter goodWord)[47]? = some w → w ∈ lw_tbl := by
  have h : (match ((vx_atS RX8 112 "java/util/NoSuchElementException" ["java/lang/RuntimeException", "java/lang/Exception"]).filter goodWord)[47]? with | some w => decide (w ∈ lw_tbl) | none => true) = true := by decide +kernel
  intro w hw
  rw [hw] at h
  simpa using h
theorem zd_x48 : ∀ w, ((vx_atS RX8 112 "java/util/NoSuchElementException" ["java/lang/RuntimeException", "java/lang/Exception"]).filter goodWord)[48]? = some w → w ∈ lw_tbl := by
  have h : (match ((vx_atS RX8 112 "java/util/NoSuchElementException" ["java/lang/RuntimeException", "java/lang/Exception"]).filter goodWord)[48]? with | some w => decide (w ∈ lw_tbl) | none => true) = true := by decide +kernel
  intro w hw
  rw [hw] at h
  simpa using h
theorem zd_x49 : ∀ w, ((vx_atS RX8 112 "java/util/NoSuchElementException" ["java/lang/RuntimeException", "java/lang/Exception"]).filter goodWord)[49]? = some w → w ∈ lw_tbl := by
  have h : (match ((vx_atS RX8 112 "java/util/NoSuchElementException" ["java/lang/RuntimeException", "java/lang/Exception"]).filter goodWord)[49]? with | some w => decide (w ∈ lw_tbl) | none => true) = true := by decide +kernel
  intro w hw
  rw [hw] at h
  simpa using h
theorem zd_x50 : ∀ w, ((vx_atS RX8 112 "java/util/NoSuchElementException" ["java/lang/RuntimeException", "java/lang/Exception"]).filter goodWord)[50]? = some w → w ∈ lw_tbl := by
  have h : (match ((vx_atS RX8 112 "java/util/NoSuchElementException" ["java/lang/RuntimeException", "java/lang/Exception"]).filter goodWord)[50]? with | some w => decide (w ∈ lw_tbl) | none => true) = true := by decide +kernel
  intro w hw
  rw [hw] at h
  simpa using h
theorem zd_x51 : ∀ w, ((vx_atS RX8 112 "java/util/NoSuchElementException" ["java/lang/RuntimeException", "java/lang/Exception"]).filter goodWord)[51]? = some w → w ∈ lw_tbl := by
  have h : (match ((vx_atS RX8 112 "java/util/NoSuchElementException" ["java/lang/RuntimeException", "java/lang/Exception"]).filter goodWord)[51]? with | some w => decide (w ∈ lw_tbl) | none => true) = true := by decide +kernel
  intro w hw
  rw [hw] at h
  simpa using h
theorem zd_x52 : ∀ w, ((vx_atS RX8 112 "java/util/NoSuchElementException" ["java/lang/RuntimeException", "java/lang/Exception"]).filter goodWord)[52]? = some w → w ∈ lw_tbl := by
  have h : (match ((vx_atS RX8 112 "java/util/NoSuchElementException" ["java/lang/RuntimeException", "java/lang/Exception"]).filter goodWord)[52]? with | some w => decide (w ∈ lw_tbl) | none => true) = true := by decide +kernel
  intro w hw
  rw [hw] at h
  simpa using h
theorem zd_x53 : ∀ w, ((vx_atS RX8 112 "java/util/NoSuchElementException" ["java/lang/RuntimeException", "java/lang/Exception"]).filter goodWord)[53]? = some w → w ∈ lw_tbl := by
  have h : (match ((vx_atS RX8 112 "java/util/NoSuchElementException" ["java/lang/RuntimeException", "java/lang/Exception"]).filter goodWord)[53]? with | some w => decide (w ∈ lw_tbl) | none => true) = true := by decide +kernel
  intro w hw
  rw [hw] at h
  simpa using h
theorem zd_x54 : ∀ w, ((vx_atS RX8 112 "java/util/NoSuchElementException" ["java/lang/RuntimeException", "java/lang/Exception"]).filter goodWord)[54]? = some w → w ∈ lw_tbl := by
  have h : (match ((vx_atS RX8 112 "java/util/NoSuchElementException" ["java/lang/RuntimeException", "java/lang/Exception"]).filter goodWord)[54]? with | some w => decide (w ∈ lw_tbl) | none => true) = true := by decide +kernel
  intro w hw
  rw [hw] at h
  simpa using h
theorem zd_x55 : ∀ w, ((vx_atS RX8 112 "java/util/NoSuchElementException" ["java/lang/RuntimeException", "java/lang/Exception"]).filter goodWord)[55]? = some w → w ∈ lw_tbl := by
  have h : (match ((vx_atS RX8 112 "java/util/NoSuchElementException" ["java/lang/RuntimeException", "java/lang/Exception"]).filter goodWord)[55]? with | some w => decide (w ∈ lw_tbl) | none => true) = true := by decide +kernel
  intro w hw
  rw [hw] at h
  simpa using h
theorem zd_x56 : ∀ w, ((vx_atS RX8 112 "java/util/NoSuchElementException" ["java/lang/RuntimeException", "java/lang/Exception"]).filter goodWord)[56]? = some w → w ∈ lw_tbl := by
  have h : (match ((vx_atS RX8 112 "java/util/NoSuchElementException" ["java/lang/RuntimeException", "java/lang/Exception"]).filter goodWord)[56]? with | some w => decide (w ∈ lw_tbl) | none => true) = true := by decide +kernel
  intro w hw
  rw [hw] at h
  simpa using h
theorem zd_x57 : ∀ w, ((vx_atS RX8 112 "java/util/NoSuchElementException" ["java/lang/RuntimeException", "java/lang/Exception"]).filter goodWord)[57]? = some w → w ∈ lw_tbl := by
  have h : (match ((vx_atS RX8 112 "java/util/NoSuchElementException" ["java/lang/RuntimeException", "java/lang/Exception"]).filter goodWord)[57]? with | some w => decide (w ∈ lw_tbl) | none => true) = true := by decide +kernel
  intro w hw
  rw [hw] at h
  simpa using h
theorem zd_x58 : ∀ w, ((vx_atS RX8 112 "java/util/NoSuchElementException" ["java/lang/RuntimeException", "java/lang/Exception"]).filter goodWord)[58]? = some w → w ∈ lw_tbl := by
  have h : (match ((vx_atS RX8 112 "java/util/NoSuchElementException" ["java/lang/RuntimeException", "java/lang/Exception"]).filter goodWord)[58]? with | some w => decide (w ∈ lw_tbl) | none => true) = true := by decide +kernel
  intro w hw
  rw [hw] at h
  simpa using h
theorem zd_x59 : ∀ w, ((vx_atS RX8 112 "java/util/NoSuchElementException" ["java/lang/RuntimeException", "java/lang/Exception"]).filter goodWord)[59]? = some w → w ∈ lw_tbl := by
  have h : (match ((vx_atS RX8 112 "java/util/NoSuchElementException" ["java/lang/RuntimeException", "java/lang/Exception"]).filter goodWord)[59]? with | some w => decide (w ∈ lw_tbl) | none => true) = true := by decide +kernel
  intro w hw
  rw [hw] at h
  simpa using h
