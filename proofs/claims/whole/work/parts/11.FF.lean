theorem d_FF_segmentOf_0 : decode prog_1_method_41_code 0 = .ok (.iload_n 0, 1) := by decide +kernel
theorem d_FF_segmentOf_1 : decode prog_1_method_41_code 1 = .ok (.bipush 69, 2) := by decide +kernel
theorem d_FF_segmentOf_3 : decode prog_1_method_41_code 3 = .ok (.if_icmp .lt 10, 3) := by decide +kernel
theorem d_FF_segmentOf_6 : decode prog_1_method_41_code 6 = .ok (.iload_n 0, 1) := by decide +kernel
theorem d_FF_segmentOf_7 : decode prog_1_method_41_code 7 = .ok (.sipush 2117, 3) := by decide +kernel
theorem d_FF_segmentOf_10 : decode prog_1_method_41_code 10 = .ok (.if_icmp .lt 7, 3) := by decide +kernel
theorem d_FF_segmentOf_13 : decode prog_1_method_41_code 13 = .ok (.iconst (-1), 1) := by decide +kernel
theorem d_FF_segmentOf_14 : decode prog_1_method_41_code 14 = .ok (.goto 10, 3) := by decide +kernel
theorem d_FF_segmentOf_17 : decode prog_1_method_41_code 17 = .ok (.iload_n 0, 1) := by decide +kernel
theorem d_FF_segmentOf_18 : decode prog_1_method_41_code 18 = .ok (.bipush 69, 2) := by decide +kernel
theorem d_FF_segmentOf_20 : decode prog_1_method_41_code 20 = .ok (.isub, 1) := by decide +kernel
theorem d_FF_segmentOf_21 : decode prog_1_method_41_code 21 = .ok (.bipush 16, 2) := by decide +kernel
theorem d_FF_segmentOf_23 : decode prog_1_method_41_code 23 = .ok (.idiv, 1) := by decide +kernel
theorem d_FF_segmentOf_24 : decode prog_1_method_41_code 24 = .ok (.ireturn, 1) := by decide +kernel
set_option maxHeartbeats 4000000 in
set_option maxRecDepth 100000 in
theorem m_FF_segmentOf {l : Launch} {D : va_G} {ad : Nat → Nat} {ca : Nat → ClassId} {FU : Nat} {x0 : Int32} {g : St} {q : Int32} (h : FF_segmentOf FU x0 g = some q) : CI l ⟨"FlashFiles", "segmentOf", "(I)I"⟩ prog_1_method_41_code 1 1 (some .int) D (tyF ca) (wF ad ca g) [.int x0] q (wF ad ca g) := by
  intro sz
  refine Met.fx (Qc := fun A => fxQi D (tyF ca) A (wF ad ca g) q) (by decide) (Nat.le_of_ble_eq_true rfl) ?_
  intro p e s m below meth c A ls X hP hD hl
  have hl : lv_has ls 1 [(0, .int x0)] := hl
  have hS : va_S A s.heap s.heap [] := va_S.rf
  have hx := X.1
  have hb := X.2.1
  unfold FF_segmentOf at h
  refine lv_iload_n hx hb d_FF_segmentOf_0 rfl (lv_at hl 0 rfl) ?_
  refine lv_bipush (v := 69) hx hb d_FF_segmentOf_1 (by decide) ?_
  refine lv_icmp_lt (tgt := 13) hx hb d_FF_segmentOf_3 (by decide) (fun hc => ?_) (fun hc => ?_)
  · have h := if_t hc h
    refine lv_iconst (v := -1) hx hb d_FF_segmentOf_13 (by decide) ?_
    refine lv_goto (tgt := 24) hx hb d_FF_segmentOf_14 (by decide) ?_
    cases h
    exact fx_iret X hP hD hS d_FF_segmentOf_24
  · have h := if_f hc h
    refine lv_iload_n hx hb d_FF_segmentOf_6 rfl (lv_at hl 0 rfl) ?_
    refine lv_sipush (v := 2117) hx hb d_FF_segmentOf_7 (by decide) ?_
    refine lv_icmp_lt (tgt := 17) hx hb d_FF_segmentOf_10 (by decide) (fun hc => ?_) (fun hc => ?_)
    · have h := if_t hc h
      refine lv_iload_n hx hb d_FF_segmentOf_17 rfl (lv_at hl 0 rfl) ?_
      refine lv_bipush (v := 69) hx hb d_FF_segmentOf_18 (by decide) ?_
      refine lv_isub hx hb d_FF_segmentOf_20 ?_
      refine lv_bipush (v := 16) hx hb d_FF_segmentOf_21 (by decide) ?_
      refine lv_idiv hx hb d_FF_segmentOf_23 (by decide) ?_
      cases h
      exact fx_iret X hP hD hS d_FF_segmentOf_24
    · have h := if_f hc h
      refine lv_iconst (v := -1) hx hb d_FF_segmentOf_13 (by decide) ?_
      refine lv_goto (tgt := 24) hx hb d_FF_segmentOf_14 (by decide) ?_
      cases h
      exact fx_iret X hP hD hS d_FF_segmentOf_24
theorem d_FF_firstOf_0 : decode prog_1_method_42_code 0 = .ok (.bipush 69, 2) := by decide +kernel
theorem d_FF_firstOf_2 : decode prog_1_method_42_code 2 = .ok (.iload_n 0, 1) := by decide +kernel
theorem d_FF_firstOf_3 : decode prog_1_method_42_code 3 = .ok (.bipush 16, 2) := by decide +kernel
theorem d_FF_firstOf_5 : decode prog_1_method_42_code 5 = .ok (.imul, 1) := by decide +kernel
theorem d_FF_firstOf_6 : decode prog_1_method_42_code 6 = .ok (.iadd, 1) := by decide +kernel
theorem d_FF_firstOf_7 : decode prog_1_method_42_code 7 = .ok (.ireturn, 1) := by decide +kernel
set_option maxHeartbeats 4000000 in
set_option maxRecDepth 100000 in
theorem m_FF_firstOf {l : Launch} {D : va_G} {ad : Nat → Nat} {ca : Nat → ClassId} {FU : Nat} {x0 : Int32} {g : St} {q : Int32} (h : FF_firstOf FU x0 g = some q) : CI l ⟨"FlashFiles", "firstOf", "(I)I"⟩ prog_1_method_42_code 1 1 (some .int) D (tyF ca) (wF ad ca g) [.int x0] q (wF ad ca g) := by
  intro sz
  refine Met.fx (Qc := fun A => fxQi D (tyF ca) A (wF ad ca g) q) (by decide) (Nat.le_of_ble_eq_true rfl) ?_
  intro p e s m below meth c A ls X hP hD hl
  have hl : lv_has ls 1 [(0, .int x0)] := hl
  have hS : va_S A s.heap s.heap [] := va_S.rf
  have hx := X.1
  have hb := X.2.1
  unfold FF_firstOf at h
  refine lv_bipush (v := 69) hx hb d_FF_firstOf_0 (by decide) ?_
  refine lv_iload_n hx hb d_FF_firstOf_2 rfl (lv_at hl 0 rfl) ?_
  refine lv_bipush (v := 16) hx hb d_FF_firstOf_3 (by decide) ?_
  refine lv_imul hx hb d_FF_firstOf_5 ?_
  refine lv_iadd hx hb d_FF_firstOf_6 ?_
  cases h
  exact fx_iret X hP hD hS d_FF_firstOf_7
theorem d_FF_putByte_0 : decode prog_1_method_49_code 0 = .ok (.bipush 24, 2) := by decide +kernel
theorem d_FF_putByte_2 : decode prog_1_method_49_code 2 = .ok (.bipush 8, 2) := by decide +kernel
theorem d_FF_putByte_4 : decode prog_1_method_49_code 4 = .ok (.iload_n 2, 1) := by decide +kernel
theorem d_FF_putByte_5 : decode prog_1_method_49_code 5 = .ok (.iconst 3, 1) := by decide +kernel
theorem d_FF_putByte_6 : decode prog_1_method_49_code 6 = .ok (.iand, 1) := by decide +kernel
theorem d_FF_putByte_7 : decode prog_1_method_49_code 7 = .ok (.imul, 1) := by decide +kernel
theorem d_FF_putByte_8 : decode prog_1_method_49_code 8 = .ok (.isub, 1) := by decide +kernel
theorem d_FF_putByte_9 : decode prog_1_method_49_code 9 = .ok (.istore 4, 2) := by decide +kernel
theorem d_FF_putByte_11 : decode prog_1_method_49_code 11 = .ok (.iload_n 1, 1) := by decide +kernel
theorem d_FF_putByte_12 : decode prog_1_method_49_code 12 = .ok (.iload_n 2, 1) := by decide +kernel
theorem d_FF_putByte_13 : decode prog_1_method_49_code 13 = .ok (.iconst 2, 1) := by decide +kernel
theorem d_FF_putByte_14 : decode prog_1_method_49_code 14 = .ok (.ishr, 1) := by decide +kernel
theorem d_FF_putByte_15 : decode prog_1_method_49_code 15 = .ok (.iadd, 1) := by decide +kernel
theorem d_FF_putByte_16 : decode prog_1_method_49_code 16 = .ok (.istore 5, 2) := by decide +kernel
theorem d_FF_putByte_18 : decode prog_1_method_49_code 18 = .ok (.aload_n 0, 1) := by decide +kernel
theorem d_FF_putByte_19 : decode prog_1_method_49_code 19 = .ok (.iload 5, 2) := by decide +kernel
theorem d_FF_putByte_21 : decode prog_1_method_49_code 21 = .ok (.aload_n 0, 1) := by decide +kernel
theorem d_FF_putByte_22 : decode prog_1_method_49_code 22 = .ok (.iload 5, 2) := by decide +kernel
theorem d_FF_putByte_24 : decode prog_1_method_49_code 24 = .ok (.iaload, 1) := by decide +kernel
theorem d_FF_putByte_25 : decode prog_1_method_49_code 25 = .ok (.sipush 255, 3) := by decide +kernel
theorem d_FF_putByte_28 : decode prog_1_method_49_code 28 = .ok (.iload 4, 2) := by decide +kernel
theorem d_FF_putByte_30 : decode prog_1_method_49_code 30 = .ok (.ishl, 1) := by decide +kernel
theorem d_FF_putByte_31 : decode prog_1_method_49_code 31 = .ok (.iconst (-1), 1) := by decide +kernel
theorem d_FF_putByte_32 : decode prog_1_method_49_code 32 = .ok (.ixor, 1) := by decide +kernel
theorem d_FF_putByte_33 : decode prog_1_method_49_code 33 = .ok (.iand, 1) := by decide +kernel
theorem d_FF_putByte_34 : decode prog_1_method_49_code 34 = .ok (.iload_n 3, 1) := by decide +kernel
theorem d_FF_putByte_35 : decode prog_1_method_49_code 35 = .ok (.sipush 255, 3) := by decide +kernel
theorem d_FF_putByte_38 : decode prog_1_method_49_code 38 = .ok (.iand, 1) := by decide +kernel
theorem d_FF_putByte_39 : decode prog_1_method_49_code 39 = .ok (.iload 4, 2) := by decide +kernel
theorem d_FF_putByte_41 : decode prog_1_method_49_code 41 = .ok (.ishl, 1) := by decide +kernel
theorem d_FF_putByte_42 : decode prog_1_method_49_code 42 = .ok (.ior, 1) := by decide +kernel
theorem d_FF_putByte_43 : decode prog_1_method_49_code 43 = .ok (.iastore, 1) := by decide +kernel
theorem d_FF_putByte_44 : decode prog_1_method_49_code 44 = .ok (.return_, 1) := by decide +kernel
set_option maxHeartbeats 4000000 in
set_option maxRecDepth 100000 in
theorem m_FF_putByte_13 {l : Launch} {D : va_G} {ad : Nat → Nat} {ca : Nat → ClassId} {FU : Nat} {x1 : Int32} {x2 : Int32} {x3 : Int32} {g : St} {q : St} (h : FF_putByte FU 13 x1 x2 x3 g = some q) : CV l ⟨"FlashFiles", "putByte", "([IIII)V"⟩ prog_1_method_49_code 6 1 D (tyF ca) (wF ad ca g) [.ref (ad 24), .int x1, .int x2, .int x3] (wF ad ca q) := by
  intro sz
  refine Met.fx (Qc := fun A => fxQv D (tyF ca) A (wF ad ca q)) (by decide) (Nat.le_of_ble_eq_true rfl) ?_
  intro p e s m below meth c A ls X hP hD hl
  have hl : lv_has ls 6 [(0, .ref (ad 24)), (1, .int x1), (2, .int x2), (3, .int x3)] := hl
  have hS : va_S A s.heap s.heap [] := va_S.rf
  have hx := X.1
  have hb := X.2.1
  unfold FF_putByte at h
  refine lv_bipush (v := 24) hx hb d_FF_putByte_0 (by decide) ?_
  refine lv_bipush (v := 8) hx hb d_FF_putByte_2 (by decide) ?_
  refine lv_iload_n hx hb d_FF_putByte_4 rfl (lv_at hl 2 rfl) ?_
  refine lv_iconst (v := 3) hx hb d_FF_putByte_5 (by decide) ?_
  refine lv_iand hx hb d_FF_putByte_6 ?_
  refine lv_imul hx hb d_FF_putByte_7 ?_
  refine lv_isub hx hb d_FF_putByte_8 ?_
  refine lv_istore hx hb d_FF_putByte_9 hl (by decide) rfl (fun ls hl => ?_)
  have hl : lv_has ls 6 [(4, .int ((24 : Int32) - ((8 : Int32) * (x2 &&& (3 : Int32))))), (0, .ref (ad 24)), (1, .int x1), (2, .int x2), (3, .int x3)] := hl
  refine lv_iload_n hx hb d_FF_putByte_11 rfl (lv_at hl 2 rfl) ?_
  refine lv_iload_n hx hb d_FF_putByte_12 rfl (lv_at hl 3 rfl) ?_
  refine lv_iconst (v := 2) hx hb d_FF_putByte_13 (by decide) ?_
  refine lv_ishr hx hb d_FF_putByte_14 ?_
  refine lv_iadd hx hb d_FF_putByte_15 ?_
  refine lv_istore hx hb d_FF_putByte_16 hl (by decide) rfl (fun ls hl => ?_)
  have hl : lv_has ls 6 [(5, .int (x1 + (x2 >>> ((2 : Int32) &&& 31)))), (4, .int ((24 : Int32) - ((8 : Int32) * (x2 &&& (3 : Int32))))), (0, .ref (ad 24)), (1, .int x1), (2, .int x2), (3, .int x3)] := hl
  refine lv_aload_n hx hb d_FF_putByte_18 rfl (lv_at hl 2 rfl) ?_
  refine lv_iload hx hb d_FF_putByte_19 (lv_at hl 0 rfl) ?_
  refine lv_aload_n hx hb d_FF_putByte_21 rfl (lv_at hl 2 rfl) ?_
  refine lv_iload hx hb d_FF_putByte_22 (lv_at hl 0 rfl) ?_
  obtain ⟨v1, e1, h⟩ := bd_some h
  refine rF_13 X hP e1 d_FF_putByte_24 ?_
  refine lv_sipush (v := 255) hx hb d_FF_putByte_25 (by decide) ?_
  refine lv_iload hx hb d_FF_putByte_28 (lv_at hl 1 rfl) ?_
  refine lv_ishl hx hb d_FF_putByte_30 ?_
  refine lv_iconst (v := -1) hx hb d_FF_putByte_31 (by decide) ?_
  refine lv_ixor hx hb d_FF_putByte_32 ?_
  refine lv_iand hx hb d_FF_putByte_33 ?_
  refine lv_iload_n hx hb d_FF_putByte_34 rfl (lv_at hl 5 rfl) ?_
  refine lv_sipush (v := 255) hx hb d_FF_putByte_35 (by decide) ?_
  refine lv_iand hx hb d_FF_putByte_38 ?_
  refine lv_iload hx hb d_FF_putByte_39 (lv_at hl 1 rfl) ?_
  refine lv_ishl hx hb d_FF_putByte_41 ?_
  refine lv_ior hx hb d_FF_putByte_42 ?_
  obtain ⟨g2, e1, h⟩ := bd_some h
  refine sF_13 X hP hD hS e1 d_FF_putByte_43 (fun H locs hP hD hS => ?_)
  cases h
  exact fx_vret X hP hD hS d_FF_putByte_44
set_option maxHeartbeats 4000000 in
set_option maxRecDepth 100000 in
theorem m_FF_putByte_16 {l : Launch} {D : va_G} {ad : Nat → Nat} {ca : Nat → ClassId} {FU : Nat} {x1 : Int32} {x2 : Int32} {x3 : Int32} {g : St} {q : St} (h : FF_putByte FU 16 x1 x2 x3 g = some q) : CV l ⟨"FlashFiles", "putByte", "([IIII)V"⟩ prog_1_method_49_code 6 1 D (tyF ca) (wF ad ca g) [.ref (ad 27), .int x1, .int x2, .int x3] (wF ad ca q) := by
  intro sz
  refine Met.fx (Qc := fun A => fxQv D (tyF ca) A (wF ad ca q)) (by decide) (Nat.le_of_ble_eq_true rfl) ?_
  intro p e s m below meth c A ls X hP hD hl
  have hl : lv_has ls 6 [(0, .ref (ad 27)), (1, .int x1), (2, .int x2), (3, .int x3)] := hl
  have hS : va_S A s.heap s.heap [] := va_S.rf
  have hx := X.1
  have hb := X.2.1
  unfold FF_putByte at h
  refine lv_bipush (v := 24) hx hb d_FF_putByte_0 (by decide) ?_
  refine lv_bipush (v := 8) hx hb d_FF_putByte_2 (by decide) ?_
  refine lv_iload_n hx hb d_FF_putByte_4 rfl (lv_at hl 2 rfl) ?_
  refine lv_iconst (v := 3) hx hb d_FF_putByte_5 (by decide) ?_
  refine lv_iand hx hb d_FF_putByte_6 ?_
  refine lv_imul hx hb d_FF_putByte_7 ?_
  refine lv_isub hx hb d_FF_putByte_8 ?_
  refine lv_istore hx hb d_FF_putByte_9 hl (by decide) rfl (fun ls hl => ?_)
  have hl : lv_has ls 6 [(4, .int ((24 : Int32) - ((8 : Int32) * (x2 &&& (3 : Int32))))), (0, .ref (ad 27)), (1, .int x1), (2, .int x2), (3, .int x3)] := hl
  refine lv_iload_n hx hb d_FF_putByte_11 rfl (lv_at hl 2 rfl) ?_
  refine lv_iload_n hx hb d_FF_putByte_12 rfl (lv_at hl 3 rfl) ?_
  refine lv_iconst (v := 2) hx hb d_FF_putByte_13 (by decide) ?_
  refine lv_ishr hx hb d_FF_putByte_14 ?_
  refine lv_iadd hx hb d_FF_putByte_15 ?_
  refine lv_istore hx hb d_FF_putByte_16 hl (by decide) rfl (fun ls hl => ?_)
  have hl : lv_has ls 6 [(5, .int (x1 + (x2 >>> ((2 : Int32) &&& 31)))), (4, .int ((24 : Int32) - ((8 : Int32) * (x2 &&& (3 : Int32))))), (0, .ref (ad 27)), (1, .int x1), (2, .int x2), (3, .int x3)] := hl
  refine lv_aload_n hx hb d_FF_putByte_18 rfl (lv_at hl 2 rfl) ?_
  refine lv_iload hx hb d_FF_putByte_19 (lv_at hl 0 rfl) ?_
  refine lv_aload_n hx hb d_FF_putByte_21 rfl (lv_at hl 2 rfl) ?_
  refine lv_iload hx hb d_FF_putByte_22 (lv_at hl 0 rfl) ?_
  obtain ⟨v1, e1, h⟩ := bd_some h
  refine rF_16 X hP e1 d_FF_putByte_24 ?_
  refine lv_sipush (v := 255) hx hb d_FF_putByte_25 (by decide) ?_
  refine lv_iload hx hb d_FF_putByte_28 (lv_at hl 1 rfl) ?_
  refine lv_ishl hx hb d_FF_putByte_30 ?_
  refine lv_iconst (v := -1) hx hb d_FF_putByte_31 (by decide) ?_
  refine lv_ixor hx hb d_FF_putByte_32 ?_
  refine lv_iand hx hb d_FF_putByte_33 ?_
  refine lv_iload_n hx hb d_FF_putByte_34 rfl (lv_at hl 5 rfl) ?_
  refine lv_sipush (v := 255) hx hb d_FF_putByte_35 (by decide) ?_
  refine lv_iand hx hb d_FF_putByte_38 ?_
  refine lv_iload hx hb d_FF_putByte_39 (lv_at hl 1 rfl) ?_
  refine lv_ishl hx hb d_FF_putByte_41 ?_
  refine lv_ior hx hb d_FF_putByte_42 ?_
  obtain ⟨g2, e1, h⟩ := bd_some h
  refine sF_16 X hP hD hS e1 d_FF_putByte_43 (fun H locs hP hD hS => ?_)
  cases h
  exact fx_vret X hP hD hS d_FF_putByte_44
theorem d_FF_blocksBegun_0 : decode prog_1_method_46_code 0 = .ok (.iload_n 0, 1) := by decide +kernel
theorem d_FF_blocksBegun_1 : decode prog_1_method_46_code 1 = .ok (.sipush 256, 3) := by decide +kernel
theorem d_FF_blocksBegun_4 : decode prog_1_method_46_code 4 = .ok (.iadd, 1) := by decide +kernel
theorem d_FF_blocksBegun_5 : decode prog_1_method_46_code 5 = .ok (.iconst 1, 1) := by decide +kernel
theorem d_FF_blocksBegun_6 : decode prog_1_method_46_code 6 = .ok (.isub, 1) := by decide +kernel
theorem d_FF_blocksBegun_7 : decode prog_1_method_46_code 7 = .ok (.sipush 256, 3) := by decide +kernel
theorem d_FF_blocksBegun_10 : decode prog_1_method_46_code 10 = .ok (.idiv, 1) := by decide +kernel
theorem d_FF_blocksBegun_11 : decode prog_1_method_46_code 11 = .ok (.ireturn, 1) := by decide +kernel
set_option maxHeartbeats 4000000 in
set_option maxRecDepth 100000 in
theorem m_FF_blocksBegun {l : Launch} {D : va_G} {ad : Nat → Nat} {ca : Nat → ClassId} {FU : Nat} {x0 : Int32} {g : St} {q : Int32} (h : FF_blocksBegun FU x0 g = some q) : CI l ⟨"FlashFiles", "blocksBegun", "(I)I"⟩ prog_1_method_46_code 1 1 (some .int) D (tyF ca) (wF ad ca g) [.int x0] q (wF ad ca g) := by
  intro sz
  refine Met.fx (Qc := fun A => fxQi D (tyF ca) A (wF ad ca g) q) (by decide) (Nat.le_of_ble_eq_true rfl) ?_
  intro p e s m below meth c A ls X hP hD hl
  have hl : lv_has ls 1 [(0, .int x0)] := hl
  have hS : va_S A s.heap s.heap [] := va_S.rf
  have hx := X.1
  have hb := X.2.1
  unfold FF_blocksBegun at h
  refine lv_iload_n hx hb d_FF_blocksBegun_0 rfl (lv_at hl 0 rfl) ?_
  refine lv_sipush (v := 256) hx hb d_FF_blocksBegun_1 (by decide) ?_
  refine lv_iadd hx hb d_FF_blocksBegun_4 ?_
  refine lv_iconst (v := 1) hx hb d_FF_blocksBegun_5 (by decide) ?_
  refine lv_isub hx hb d_FF_blocksBegun_6 ?_
  refine lv_sipush (v := 256) hx hb d_FF_blocksBegun_7 (by decide) ?_
  refine lv_idiv hx hb d_FF_blocksBegun_10 (by decide) ?_
  cases h
  exact fx_iret X hP hD hS d_FF_blocksBegun_11
theorem d_FF_pointersFrom_0 : decode prog_1_method_44_code 0 = .ok (.iload_n 0, 1) := by decide +kernel
theorem d_FF_pointersFrom_1 : decode prog_1_method_44_code 1 = .ok (.ifCond .ne 8, 3) := by decide +kernel
theorem d_FF_pointersFrom_4 : decode prog_1_method_44_code 4 = .ok (.bipush 6, 2) := by decide +kernel
theorem d_FF_pointersFrom_6 : decode prog_1_method_44_code 6 = .ok (.goto 4, 3) := by decide +kernel
theorem d_FF_pointersFrom_9 : decode prog_1_method_44_code 9 = .ok (.iconst 0, 1) := by decide +kernel
theorem d_FF_pointersFrom_10 : decode prog_1_method_44_code 10 = .ok (.ireturn, 1) := by decide +kernel
set_option maxHeartbeats 4000000 in
set_option maxRecDepth 100000 in
theorem m_FF_pointersFrom {l : Launch} {D : va_G} {ad : Nat → Nat} {ca : Nat → ClassId} {FU : Nat} {x0 : Int32} {g : St} {q : Int32} (h : FF_pointersFrom FU x0 g = some q) : CI l ⟨"FlashFiles", "pointersFrom", "(I)I"⟩ prog_1_method_44_code 1 1 (some .int) D (tyF ca) (wF ad ca g) [.int x0] q (wF ad ca g) := by
  intro sz
  refine Met.fx (Qc := fun A => fxQi D (tyF ca) A (wF ad ca g) q) (by decide) (Nat.le_of_ble_eq_true rfl) ?_
  intro p e s m below meth c A ls X hP hD hl
  have hl : lv_has ls 1 [(0, .int x0)] := hl
  have hS : va_S A s.heap s.heap [] := va_S.rf
  have hx := X.1
  have hb := X.2.1
  unfold FF_pointersFrom at h
  refine lv_iload_n hx hb d_FF_pointersFrom_0 rfl (lv_at hl 0 rfl) ?_
  refine lv_if_ne (tgt := 9) hx hb d_FF_pointersFrom_1 (by decide) (fun hc => ?_) (fun hc => ?_)
  · have h := if_f hc h
    refine lv_iconst (v := 0) hx hb d_FF_pointersFrom_9 (by decide) ?_
    cases h
    exact fx_iret X hP hD hS d_FF_pointersFrom_10
  · have h := if_t hc h
    refine lv_bipush (v := 6) hx hb d_FF_pointersFrom_4 (by decide) ?_
    refine lv_goto (tgt := 10) hx hb d_FF_pointersFrom_6 (by decide) ?_
    cases h
    exact fx_iret X hP hD hS d_FF_pointersFrom_10
theorem d_FF_pointersIn_0 : decode prog_1_method_45_code 0 = .ok (.iload_n 0, 1) := by decide +kernel
theorem d_FF_pointersIn_1 : decode prog_1_method_45_code 1 = .ok (.ifCond .ne 16, 3) := by decide +kernel
theorem d_FF_pointersIn_4 : decode prog_1_method_45_code 4 = .ok (.iload_n 1, 1) := by decide +kernel
theorem d_FF_pointersIn_5 : decode prog_1_method_45_code 5 = .ok (.iconst 2, 1) := by decide +kernel
theorem d_FF_pointersIn_6 : decode prog_1_method_45_code 6 = .ok (.if_icmp .ne 8, 3) := by decide +kernel
theorem d_FF_pointersIn_9 : decode prog_1_method_45_code 9 = .ok (.bipush 48, 2) := by decide +kernel
theorem d_FF_pointersIn_11 : decode prog_1_method_45_code 11 = .ok (.goto 5, 3) := by decide +kernel
theorem d_FF_pointersIn_14 : decode prog_1_method_45_code 14 = .ok (.bipush 20, 2) := by decide +kernel
theorem d_FF_pointersIn_16 : decode prog_1_method_45_code 16 = .ok (.ireturn, 1) := by decide +kernel
theorem d_FF_pointersIn_17 : decode prog_1_method_45_code 17 = .ok (.iload_n 0, 1) := by decide +kernel
theorem d_FF_pointersIn_18 : decode prog_1_method_45_code 18 = .ok (.iconst 1, 1) := by decide +kernel
theorem d_FF_pointersIn_19 : decode prog_1_method_45_code 19 = .ok (.if_icmp .ne 8, 3) := by decide +kernel
theorem d_FF_pointersIn_22 : decode prog_1_method_45_code 22 = .ok (.bipush 56, 2) := by decide +kernel
theorem d_FF_pointersIn_24 : decode prog_1_method_45_code 24 = .ok (.goto 4, 3) := by decide +kernel
theorem d_FF_pointersIn_27 : decode prog_1_method_45_code 27 = .ok (.iconst 0, 1) := by decide +kernel
theorem d_FF_pointersIn_28 : decode prog_1_method_45_code 28 = .ok (.ireturn, 1) := by decide +kernel
set_option maxHeartbeats 4000000 in
set_option maxRecDepth 100000 in
theorem m_FF_pointersIn {l : Launch} {D : va_G} {ad : Nat → Nat} {ca : Nat → ClassId} {FU : Nat} {x0 : Int32} {x1 : Int32} {g : St} {q : Int32} (h : FF_pointersIn FU x0 x1 g = some q) : CI l ⟨"FlashFiles", "pointersIn", "(II)I"⟩ prog_1_method_45_code 2 1 (some .int) D (tyF ca) (wF ad ca g) [.int x0, .int x1] q (wF ad ca g) := by
  intro sz
  refine Met.fx (Qc := fun A => fxQi D (tyF ca) A (wF ad ca g) q) (by decide) (Nat.le_of_ble_eq_true rfl) ?_
  intro p e s m below meth c A ls X hP hD hl
  have hl : lv_has ls 2 [(0, .int x0), (1, .int x1)] := hl
  have hS : va_S A s.heap s.heap [] := va_S.rf
  have hx := X.1
  have hb := X.2.1
  unfold FF_pointersIn at h
  refine lv_iload_n hx hb d_FF_pointersIn_0 rfl (lv_at hl 0 rfl) ?_
  refine lv_if_ne (tgt := 17) hx hb d_FF_pointersIn_1 (by decide) (fun hc => ?_) (fun hc => ?_)
  · have h := if_f hc h
    refine lv_iload_n hx hb d_FF_pointersIn_17 rfl (lv_at hl 0 rfl) ?_
    refine lv_iconst (v := 1) hx hb d_FF_pointersIn_18 (by decide) ?_
    refine lv_icmp_ne (tgt := 27) hx hb d_FF_pointersIn_19 (by decide) (fun hc => ?_) (fun hc => ?_)
    · have h := if_f hc h
      refine lv_iconst (v := 0) hx hb d_FF_pointersIn_27 (by decide) ?_
      cases h
      exact fx_iret X hP hD hS d_FF_pointersIn_28
    · have h := if_t hc h
      refine lv_bipush (v := 56) hx hb d_FF_pointersIn_22 (by decide) ?_
      refine lv_goto (tgt := 28) hx hb d_FF_pointersIn_24 (by decide) ?_
      cases h
      exact fx_iret X hP hD hS d_FF_pointersIn_28
  · have h := if_t hc h
    refine lv_iload_n hx hb d_FF_pointersIn_4 rfl (lv_at hl 1 rfl) ?_
    refine lv_iconst (v := 2) hx hb d_FF_pointersIn_5 (by decide) ?_
    refine lv_icmp_ne (tgt := 14) hx hb d_FF_pointersIn_6 (by decide) (fun hc => ?_) (fun hc => ?_)
    · have h := if_f hc h
      refine lv_bipush (v := 20) hx hb d_FF_pointersIn_14 (by decide) ?_
      cases h
      exact fx_iret X hP hD hS d_FF_pointersIn_16
    · have h := if_t hc h
      refine lv_bipush (v := 48) hx hb d_FF_pointersIn_9 (by decide) ?_
      refine lv_goto (tgt := 16) hx hb d_FF_pointersIn_11 (by decide) ?_
      cases h
      exact fx_iret X hP hD hS d_FF_pointersIn_16
theorem d_FF_beginOfPack_0 : decode prog_1_method_43_code 0 = .ok (.iconst 1, 1) := by decide +kernel
theorem d_FF_beginOfPack_1 : decode prog_1_method_43_code 1 = .ok (.iload_n 0, 1) := by decide +kernel
theorem d_FF_beginOfPack_2 : decode prog_1_method_43_code 2 = .ok (.iconst 1, 1) := by decide +kernel
theorem d_FF_beginOfPack_3 : decode prog_1_method_43_code 3 = .ok (.iand, 1) := by decide +kernel
theorem d_FF_beginOfPack_4 : decode prog_1_method_43_code 4 = .ok (.bipush 34, 2) := by decide +kernel
theorem d_FF_beginOfPack_6 : decode prog_1_method_43_code 6 = .ok (.imul, 1) := by decide +kernel
theorem d_FF_beginOfPack_7 : decode prog_1_method_43_code 7 = .ok (.iadd, 1) := by decide +kernel
theorem d_FF_beginOfPack_8 : decode prog_1_method_43_code 8 = .ok (.ireturn, 1) := by decide +kernel
set_option maxHeartbeats 4000000 in
set_option maxRecDepth 100000 in
theorem m_FF_beginOfPack {l : Launch} {D : va_G} {ad : Nat → Nat} {ca : Nat → ClassId} {FU : Nat} {x0 : Int32} {g : St} {q : Int32} (h : FF_beginOfPack FU x0 g = some q) : CI l ⟨"FlashFiles", "beginOfPack", "(I)I"⟩ prog_1_method_43_code 1 1 (some .int) D (tyF ca) (wF ad ca g) [.int x0] q (wF ad ca g) := by
  intro sz
  refine Met.fx (Qc := fun A => fxQi D (tyF ca) A (wF ad ca g) q) (by decide) (Nat.le_of_ble_eq_true rfl) ?_
  intro p e s m below meth c A ls X hP hD hl
  have hl : lv_has ls 1 [(0, .int x0)] := hl
  have hS : va_S A s.heap s.heap [] := va_S.rf
  have hx := X.1
  have hb := X.2.1
  unfold FF_beginOfPack at h
  refine lv_iconst (v := 1) hx hb d_FF_beginOfPack_0 (by decide) ?_
  refine lv_iload_n hx hb d_FF_beginOfPack_1 rfl (lv_at hl 0 rfl) ?_
  refine lv_iconst (v := 1) hx hb d_FF_beginOfPack_2 (by decide) ?_
  refine lv_iand hx hb d_FF_beginOfPack_3 ?_
  refine lv_bipush (v := 34) hx hb d_FF_beginOfPack_4 (by decide) ?_
  refine lv_imul hx hb d_FF_beginOfPack_6 ?_
  refine lv_iadd hx hb d_FF_beginOfPack_7 ?_
  cases h
  exact fx_iret X hP hD hS d_FF_beginOfPack_8
theorem d_FF_hashOf_0 : decode prog_1_method_47_code 0 = .ok (.bipush 17, 2) := by decide +kernel
theorem d_FF_hashOf_2 : decode prog_1_method_47_code 2 = .ok (.istore_n 2, 1) := by decide +kernel
theorem d_FF_hashOf_3 : decode prog_1_method_47_code 3 = .ok (.iconst 0, 1) := by decide +kernel
theorem d_FF_hashOf_4 : decode prog_1_method_47_code 4 = .ok (.istore_n 3, 1) := by decide +kernel
theorem d_FF_hashOf_5 : decode prog_1_method_47_code 5 = .ok (.iload_n 3, 1) := by decide +kernel
theorem d_FF_hashOf_6 : decode prog_1_method_47_code 6 = .ok (.iconst 5, 1) := by decide +kernel
theorem d_FF_hashOf_7 : decode prog_1_method_47_code 7 = .ok (.if_icmp .ge 28, 3) := by decide +kernel
theorem d_FF_hashOf_10 : decode prog_1_method_47_code 10 = .ok (.iload_n 2, 1) := by decide +kernel
theorem d_FF_hashOf_11 : decode prog_1_method_47_code 11 = .ok (.aload_n 0, 1) := by decide +kernel
theorem d_FF_hashOf_12 : decode prog_1_method_47_code 12 = .ok (.iload_n 1, 1) := by decide +kernel
theorem d_FF_hashOf_13 : decode prog_1_method_47_code 13 = .ok (.iload_n 3, 1) := by decide +kernel
theorem d_FF_hashOf_14 : decode prog_1_method_47_code 14 = .ok (.iadd, 1) := by decide +kernel
theorem d_FF_hashOf_15 : decode prog_1_method_47_code 15 = .ok (.iaload, 1) := by decide +kernel
theorem d_FF_hashOf_16 : decode prog_1_method_47_code 16 = .ok (.ixor, 1) := by decide +kernel
theorem d_FF_hashOf_17 : decode prog_1_method_47_code 17 = .ok (.ldc_w 336, 3) := by decide +kernel
theorem d_FF_hashOf_20 : decode prog_1_method_47_code 20 = .ok (.imul, 1) := by decide +kernel
theorem d_FF_hashOf_21 : decode prog_1_method_47_code 21 = .ok (.istore_n 2, 1) := by decide +kernel
theorem d_FF_hashOf_22 : decode prog_1_method_47_code 22 = .ok (.iload_n 2, 1) := by decide +kernel
theorem d_FF_hashOf_23 : decode prog_1_method_47_code 23 = .ok (.iload_n 2, 1) := by decide +kernel
theorem d_FF_hashOf_24 : decode prog_1_method_47_code 24 = .ok (.bipush 15, 2) := by decide +kernel
theorem d_FF_hashOf_26 : decode prog_1_method_47_code 26 = .ok (.iushr, 1) := by decide +kernel
theorem d_FF_hashOf_27 : decode prog_1_method_47_code 27 = .ok (.ixor, 1) := by decide +kernel
theorem d_FF_hashOf_28 : decode prog_1_method_47_code 28 = .ok (.istore_n 2, 1) := by decide +kernel
theorem d_FF_hashOf_29 : decode prog_1_method_47_code 29 = .ok (.iinc 3 1, 3) := by decide +kernel
theorem d_FF_hashOf_32 : decode prog_1_method_47_code 32 = .ok (.goto (-27), 3) := by decide +kernel
theorem d_FF_hashOf_35 : decode prog_1_method_47_code 35 = .ok (.iload_n 2, 1) := by decide +kernel
theorem d_FF_hashOf_36 : decode prog_1_method_47_code 36 = .ok (.bipush 12, 2) := by decide +kernel
theorem d_FF_hashOf_38 : decode prog_1_method_47_code 38 = .ok (.iushr, 1) := by decide +kernel
theorem d_FF_hashOf_39 : decode prog_1_method_47_code 39 = .ok (.ireturn, 1) := by decide +kernel
set_option maxHeartbeats 4000000 in
set_option maxRecDepth 100000 in
theorem v_FF_hashOf_5_26 {p : Program} {l : Launch} {e : Env} {s : State} {m : MethodId} {args : Array Value} {below : List Frame} {meth : Method} {c : Code} {D : va_G} {ad : Nat → Nat} {ca : Nat → ClassId} {A : Nat → Prop} {FU : Nat} {q : Int32} {g : St} (X : FX p s m meth c prog_1_method_47_code 4 (some .int) "FlashFiles" D (tyF ca) A) : ∀ (n : Nat), ∀ (y1 y2 y3 : Int32) (H : Heap) (locs : List Loc) (ls : Array Slot), va_P D cls (wF ad ca g) H → va_D A (wF ad ca g) → va_S A s.heap H locs → lv_has ls 4 [(0, .ref (ad 37)), (1, .int y1), (2, .int y2), (3, .int y3)] → FF_hashOf_b5 FU 26 n y1 y2 y3 g = some q → W p l e (rmN 1) s m args below meth c H locs 0 0 (MQ below (fxQi D (tyF ca) A (wF ad ca g) q) args s 0 0 A) (F0 m 5 ls []) := by
  have hx := X.1
  have hb := X.2.1
  intro n
  induction n with
  | zero =>
    intro y1 y2 y3 H locs ls hP hD hS hl h
    cases h
  | succ n ih =>
    intro y1 y2 y3 H locs ls hP hD hS hl h
    have h := h
    rw [FF_hashOf_b5.eq_2] at h
    refine lv_iload_n hx hb d_FF_hashOf_5 rfl (lv_at hl 3 rfl) ?_
    refine lv_iconst (v := 5) hx hb d_FF_hashOf_6 (by decide) ?_
    refine lv_icmp_ge (tgt := 35) hx hb d_FF_hashOf_7 (by decide) (fun hc => ?_) (fun hc => ?_)
    · have h := if_t hc h
      refine lv_iload_n hx hb d_FF_hashOf_35 rfl (lv_at hl 2 rfl) ?_
      refine lv_bipush (v := 12) hx hb d_FF_hashOf_36 (by decide) ?_
      refine lv_iushr (v := ush y2 (12 : Int32)) hx hb d_FF_hashOf_38 rfl ?_
      cases h
      exact fx_iret X hP hD hS d_FF_hashOf_39
    · have h := if_f hc h
      refine lv_iload_n hx hb d_FF_hashOf_10 rfl (lv_at hl 2 rfl) ?_
      refine lv_aload_n hx hb d_FF_hashOf_11 rfl (lv_at hl 0 rfl) ?_
      refine lv_iload_n hx hb d_FF_hashOf_12 rfl (lv_at hl 1 rfl) ?_
      refine lv_iload_n hx hb d_FF_hashOf_13 rfl (lv_at hl 3 rfl) ?_
      refine lv_iadd hx hb d_FF_hashOf_14 ?_
      obtain ⟨v1, e1, h⟩ := bd_some h
      refine rF_26 X hP e1 d_FF_hashOf_15 ?_
      refine lv_ixor hx hb d_FF_hashOf_16 ?_
      refine lv_ldcw (v := -1640531535) hx hb X.2.2.2.2.2.1 (X.2.2.2.2.2.2.1.use q5_30) d_FF_hashOf_17 ?_
      refine lv_imul hx hb d_FF_hashOf_20 ?_
      refine lv_istore_n hx hb d_FF_hashOf_21 rfl hl (by decide) rfl (fun ls hl => ?_)
      have hl : lv_has ls 4 [(2, .int ((y2 ^^^ v1) * (-1640531535 : Int32))), (0, .ref (ad 37)), (1, .int y1), (3, .int y3)] := hl
      refine lv_iload_n hx hb d_FF_hashOf_22 rfl (lv_at hl 0 rfl) ?_
      refine lv_iload_n hx hb d_FF_hashOf_23 rfl (lv_at hl 0 rfl) ?_
      refine lv_bipush (v := 15) hx hb d_FF_hashOf_24 (by decide) ?_
      refine lv_iushr (v := ush ((y2 ^^^ v1) * (-1640531535 : Int32)) (15 : Int32)) hx hb d_FF_hashOf_26 rfl ?_
      refine lv_ixor hx hb d_FF_hashOf_27 ?_
      refine lv_istore_n hx hb d_FF_hashOf_28 rfl hl (by decide) rfl (fun ls hl => ?_)
      have hl : lv_has ls 4 [(2, .int (((y2 ^^^ v1) * (-1640531535 : Int32)) ^^^ (ush ((y2 ^^^ v1) * (-1640531535 : Int32)) (15 : Int32)))), (0, .ref (ad 37)), (1, .int y1), (3, .int y3)] := hl
      refine lv_iinc (k := 3) (v := (y3 + (1 : Int32))) hx hb d_FF_hashOf_29 hl rfl (oi_1 _) (by decide) rfl (fun ls hl => ?_)
      have hl : lv_has ls 4 [(3, .int (y3 + (1 : Int32))), (2, .int (((y2 ^^^ v1) * (-1640531535 : Int32)) ^^^ (ush ((y2 ^^^ v1) * (-1640531535 : Int32)) (15 : Int32)))), (0, .ref (ad 37)), (1, .int y1)] := hl
      refine lv_goto (tgt := 5) hx hb d_FF_hashOf_32 (by decide) ?_
      exact ih _ _ _ _ _ _ hP hD hS (lv_sub hl [2, 3, 1, 0] rfl) h
set_option maxHeartbeats 4000000 in
set_option maxRecDepth 100000 in
theorem m_FF_hashOf_26 {l : Launch} {D : va_G} {ad : Nat → Nat} {ca : Nat → ClassId} {FU : Nat} {x1 : Int32} {g : St} {q : Int32} (h : FF_hashOf FU 26 x1 g = some q) : CI l ⟨"FlashFiles", "hashOf", "([II)I"⟩ prog_1_method_47_code 4 1 (some .int) D (tyF ca) (wF ad ca g) [.ref (ad 37), .int x1] q (wF ad ca g) := by
  intro sz
  refine Met.fx (Qc := fun A => fxQi D (tyF ca) A (wF ad ca g) q) (by decide) (Nat.le_of_ble_eq_true rfl) ?_
  intro p e s m below meth c A ls X hP hD hl
  have hl : lv_has ls 4 [(0, .ref (ad 37)), (1, .int x1)] := hl
  have hS : va_S A s.heap s.heap [] := va_S.rf
  have hx := X.1
  have hb := X.2.1
  unfold FF_hashOf at h
  refine lv_bipush (v := 17) hx hb d_FF_hashOf_0 (by decide) ?_
  refine lv_istore_n hx hb d_FF_hashOf_2 rfl hl (by decide) rfl (fun ls hl => ?_)
  have hl : lv_has ls 4 [(2, .int (17 : Int32)), (0, .ref (ad 37)), (1, .int x1)] := hl
  refine lv_iconst (v := 0) hx hb d_FF_hashOf_3 (by decide) ?_
  refine lv_istore_n hx hb d_FF_hashOf_4 rfl hl (by decide) rfl (fun ls hl => ?_)
  have hl : lv_has ls 4 [(3, .int (0 : Int32)), (2, .int (17 : Int32)), (0, .ref (ad 37)), (1, .int x1)] := hl
  exact v_FF_hashOf_5_26 X  _ _ _ _ _ _ _ hP hD hS (lv_sub hl [2, 3, 1, 0] rfl) h
set_option maxHeartbeats 4000000 in
set_option maxRecDepth 100000 in
theorem m_FF_putByte_2 {l : Launch} {D : va_G} {ad : Nat → Nat} {ca : Nat → ClassId} {FU : Nat} {x1 : Int32} {x2 : Int32} {x3 : Int32} {g : St} {q : St} (h : FF_putByte FU 2 x1 x2 x3 g = some q) : CV l ⟨"FlashFiles", "putByte", "([IIII)V"⟩ prog_1_method_49_code 6 1 D (tyF ca) (wF ad ca g) [.ref (ad 13), .int x1, .int x2, .int x3] (wF ad ca q) := by
  intro sz
  refine Met.fx (Qc := fun A => fxQv D (tyF ca) A (wF ad ca q)) (by decide) (Nat.le_of_ble_eq_true rfl) ?_
  intro p e s m below meth c A ls X hP hD hl
  have hl : lv_has ls 6 [(0, .ref (ad 13)), (1, .int x1), (2, .int x2), (3, .int x3)] := hl
  have hS : va_S A s.heap s.heap [] := va_S.rf
  have hx := X.1
  have hb := X.2.1
  unfold FF_putByte at h
  refine lv_bipush (v := 24) hx hb d_FF_putByte_0 (by decide) ?_
  refine lv_bipush (v := 8) hx hb d_FF_putByte_2 (by decide) ?_
  refine lv_iload_n hx hb d_FF_putByte_4 rfl (lv_at hl 2 rfl) ?_
  refine lv_iconst (v := 3) hx hb d_FF_putByte_5 (by decide) ?_
  refine lv_iand hx hb d_FF_putByte_6 ?_
  refine lv_imul hx hb d_FF_putByte_7 ?_
  refine lv_isub hx hb d_FF_putByte_8 ?_
  refine lv_istore hx hb d_FF_putByte_9 hl (by decide) rfl (fun ls hl => ?_)
  have hl : lv_has ls 6 [(4, .int ((24 : Int32) - ((8 : Int32) * (x2 &&& (3 : Int32))))), (0, .ref (ad 13)), (1, .int x1), (2, .int x2), (3, .int x3)] := hl
  refine lv_iload_n hx hb d_FF_putByte_11 rfl (lv_at hl 2 rfl) ?_
  refine lv_iload_n hx hb d_FF_putByte_12 rfl (lv_at hl 3 rfl) ?_
  refine lv_iconst (v := 2) hx hb d_FF_putByte_13 (by decide) ?_
  refine lv_ishr hx hb d_FF_putByte_14 ?_
  refine lv_iadd hx hb d_FF_putByte_15 ?_
  refine lv_istore hx hb d_FF_putByte_16 hl (by decide) rfl (fun ls hl => ?_)
  have hl : lv_has ls 6 [(5, .int (x1 + (x2 >>> ((2 : Int32) &&& 31)))), (4, .int ((24 : Int32) - ((8 : Int32) * (x2 &&& (3 : Int32))))), (0, .ref (ad 13)), (1, .int x1), (2, .int x2), (3, .int x3)] := hl
  refine lv_aload_n hx hb d_FF_putByte_18 rfl (lv_at hl 2 rfl) ?_
  refine lv_iload hx hb d_FF_putByte_19 (lv_at hl 0 rfl) ?_
  refine lv_aload_n hx hb d_FF_putByte_21 rfl (lv_at hl 2 rfl) ?_
  refine lv_iload hx hb d_FF_putByte_22 (lv_at hl 0 rfl) ?_
  obtain ⟨v1, e1, h⟩ := bd_some h
  refine rF_2 X hP e1 d_FF_putByte_24 ?_
  refine lv_sipush (v := 255) hx hb d_FF_putByte_25 (by decide) ?_
  refine lv_iload hx hb d_FF_putByte_28 (lv_at hl 1 rfl) ?_
  refine lv_ishl hx hb d_FF_putByte_30 ?_
  refine lv_iconst (v := -1) hx hb d_FF_putByte_31 (by decide) ?_
  refine lv_ixor hx hb d_FF_putByte_32 ?_
  refine lv_iand hx hb d_FF_putByte_33 ?_
  refine lv_iload_n hx hb d_FF_putByte_34 rfl (lv_at hl 5 rfl) ?_
  refine lv_sipush (v := 255) hx hb d_FF_putByte_35 (by decide) ?_
  refine lv_iand hx hb d_FF_putByte_38 ?_
  refine lv_iload hx hb d_FF_putByte_39 (lv_at hl 1 rfl) ?_
  refine lv_ishl hx hb d_FF_putByte_41 ?_
  refine lv_ior hx hb d_FF_putByte_42 ?_
  obtain ⟨g2, e1, h⟩ := bd_some h
  refine sF_2 X hP hD hS e1 d_FF_putByte_43 (fun H locs hP hD hS => ?_)
  cases h
  exact fx_vret X hP hD hS d_FF_putByte_44
set_option maxHeartbeats 4000000 in
set_option maxRecDepth 100000 in
theorem m_FF_putByte_3 {l : Launch} {D : va_G} {ad : Nat → Nat} {ca : Nat → ClassId} {FU : Nat} {x1 : Int32} {x2 : Int32} {x3 : Int32} {g : St} {q : St} (h : FF_putByte FU 3 x1 x2 x3 g = some q) : CV l ⟨"FlashFiles", "putByte", "([IIII)V"⟩ prog_1_method_49_code 6 1 D (tyF ca) (wF ad ca g) [.ref (ad 14), .int x1, .int x2, .int x3] (wF ad ca q) := by
  intro sz
  refine Met.fx (Qc := fun A => fxQv D (tyF ca) A (wF ad ca q)) (by decide) (Nat.le_of_ble_eq_true rfl) ?_
  intro p e s m below meth c A ls X hP hD hl
  have hl : lv_has ls 6 [(0, .ref (ad 14)), (1, .int x1), (2, .int x2), (3, .int x3)] := hl
  have hS : va_S A s.heap s.heap [] := va_S.rf
  have hx := X.1
  have hb := X.2.1
  unfold FF_putByte at h
  refine lv_bipush (v := 24) hx hb d_FF_putByte_0 (by decide) ?_
  refine lv_bipush (v := 8) hx hb d_FF_putByte_2 (by decide) ?_
  refine lv_iload_n hx hb d_FF_putByte_4 rfl (lv_at hl 2 rfl) ?_
  refine lv_iconst (v := 3) hx hb d_FF_putByte_5 (by decide) ?_
  refine lv_iand hx hb d_FF_putByte_6 ?_
  refine lv_imul hx hb d_FF_putByte_7 ?_
  refine lv_isub hx hb d_FF_putByte_8 ?_
  refine lv_istore hx hb d_FF_putByte_9 hl (by decide) rfl (fun ls hl => ?_)
  have hl : lv_has ls 6 [(4, .int ((24 : Int32) - ((8 : Int32) * (x2 &&& (3 : Int32))))), (0, .ref (ad 14)), (1, .int x1), (2, .int x2), (3, .int x3)] := hl
  refine lv_iload_n hx hb d_FF_putByte_11 rfl (lv_at hl 2 rfl) ?_
  refine lv_iload_n hx hb d_FF_putByte_12 rfl (lv_at hl 3 rfl) ?_
  refine lv_iconst (v := 2) hx hb d_FF_putByte_13 (by decide) ?_
  refine lv_ishr hx hb d_FF_putByte_14 ?_
  refine lv_iadd hx hb d_FF_putByte_15 ?_
  refine lv_istore hx hb d_FF_putByte_16 hl (by decide) rfl (fun ls hl => ?_)
  have hl : lv_has ls 6 [(5, .int (x1 + (x2 >>> ((2 : Int32) &&& 31)))), (4, .int ((24 : Int32) - ((8 : Int32) * (x2 &&& (3 : Int32))))), (0, .ref (ad 14)), (1, .int x1), (2, .int x2), (3, .int x3)] := hl
  refine lv_aload_n hx hb d_FF_putByte_18 rfl (lv_at hl 2 rfl) ?_
  refine lv_iload hx hb d_FF_putByte_19 (lv_at hl 0 rfl) ?_
  refine lv_aload_n hx hb d_FF_putByte_21 rfl (lv_at hl 2 rfl) ?_
  refine lv_iload hx hb d_FF_putByte_22 (lv_at hl 0 rfl) ?_
  obtain ⟨v1, e1, h⟩ := bd_some h
  refine rF_3 X hP e1 d_FF_putByte_24 ?_
  refine lv_sipush (v := 255) hx hb d_FF_putByte_25 (by decide) ?_
  refine lv_iload hx hb d_FF_putByte_28 (lv_at hl 1 rfl) ?_
  refine lv_ishl hx hb d_FF_putByte_30 ?_
  refine lv_iconst (v := -1) hx hb d_FF_putByte_31 (by decide) ?_
  refine lv_ixor hx hb d_FF_putByte_32 ?_
  refine lv_iand hx hb d_FF_putByte_33 ?_
  refine lv_iload_n hx hb d_FF_putByte_34 rfl (lv_at hl 5 rfl) ?_
  refine lv_sipush (v := 255) hx hb d_FF_putByte_35 (by decide) ?_
  refine lv_iand hx hb d_FF_putByte_38 ?_
  refine lv_iload hx hb d_FF_putByte_39 (lv_at hl 1 rfl) ?_
  refine lv_ishl hx hb d_FF_putByte_41 ?_
  refine lv_ior hx hb d_FF_putByte_42 ?_
  obtain ⟨g2, e1, h⟩ := bd_some h
  refine sF_3 X hP hD hS e1 d_FF_putByte_43 (fun H locs hP hD hS => ?_)
  cases h
  exact fx_vret X hP hD hS d_FF_putByte_44
theorem d_FF_getByte_0 : decode prog_1_method_48_code 0 = .ok (.aload_n 0, 1) := by decide +kernel
theorem d_FF_getByte_1 : decode prog_1_method_48_code 1 = .ok (.iload_n 1, 1) := by decide +kernel
theorem d_FF_getByte_2 : decode prog_1_method_48_code 2 = .ok (.iload_n 2, 1) := by decide +kernel
theorem d_FF_getByte_3 : decode prog_1_method_48_code 3 = .ok (.iconst 2, 1) := by decide +kernel
theorem d_FF_getByte_4 : decode prog_1_method_48_code 4 = .ok (.ishr, 1) := by decide +kernel
theorem d_FF_getByte_5 : decode prog_1_method_48_code 5 = .ok (.iadd, 1) := by decide +kernel
theorem d_FF_getByte_6 : decode prog_1_method_48_code 6 = .ok (.iaload, 1) := by decide +kernel
theorem d_FF_getByte_7 : decode prog_1_method_48_code 7 = .ok (.bipush 24, 2) := by decide +kernel
theorem d_FF_getByte_9 : decode prog_1_method_48_code 9 = .ok (.bipush 8, 2) := by decide +kernel
theorem d_FF_getByte_11 : decode prog_1_method_48_code 11 = .ok (.iload_n 2, 1) := by decide +kernel
theorem d_FF_getByte_12 : decode prog_1_method_48_code 12 = .ok (.iconst 3, 1) := by decide +kernel
theorem d_FF_getByte_13 : decode prog_1_method_48_code 13 = .ok (.iand, 1) := by decide +kernel
theorem d_FF_getByte_14 : decode prog_1_method_48_code 14 = .ok (.imul, 1) := by decide +kernel
theorem d_FF_getByte_15 : decode prog_1_method_48_code 15 = .ok (.isub, 1) := by decide +kernel
theorem d_FF_getByte_16 : decode prog_1_method_48_code 16 = .ok (.iushr, 1) := by decide +kernel
theorem d_FF_getByte_17 : decode prog_1_method_48_code 17 = .ok (.sipush 255, 3) := by decide +kernel
theorem d_FF_getByte_20 : decode prog_1_method_48_code 20 = .ok (.iand, 1) := by decide +kernel
theorem d_FF_getByte_21 : decode prog_1_method_48_code 21 = .ok (.ireturn, 1) := by decide +kernel
set_option maxHeartbeats 4000000 in
set_option maxRecDepth 100000 in
theorem m_FF_getByte_13 {l : Launch} {D : va_G} {ad : Nat → Nat} {ca : Nat → ClassId} {FU : Nat} {x1 : Int32} {x2 : Int32} {g : St} {q : Int32} (h : FF_getByte FU 13 x1 x2 g = some q) : CI l ⟨"FlashFiles", "getByte", "([III)I"⟩ prog_1_method_48_code 3 1 (some .int) D (tyF ca) (wF ad ca g) [.ref (ad 24), .int x1, .int x2] q (wF ad ca g) := by
  intro sz
  refine Met.fx (Qc := fun A => fxQi D (tyF ca) A (wF ad ca g) q) (by decide) (Nat.le_of_ble_eq_true rfl) ?_
  intro p e s m below meth c A ls X hP hD hl
  have hl : lv_has ls 3 [(0, .ref (ad 24)), (1, .int x1), (2, .int x2)] := hl
  have hS : va_S A s.heap s.heap [] := va_S.rf
  have hx := X.1
  have hb := X.2.1
  unfold FF_getByte at h
  refine lv_aload_n hx hb d_FF_getByte_0 rfl (lv_at hl 0 rfl) ?_
  refine lv_iload_n hx hb d_FF_getByte_1 rfl (lv_at hl 1 rfl) ?_
  refine lv_iload_n hx hb d_FF_getByte_2 rfl (lv_at hl 2 rfl) ?_
  refine lv_iconst (v := 2) hx hb d_FF_getByte_3 (by decide) ?_
  refine lv_ishr hx hb d_FF_getByte_4 ?_
  refine lv_iadd hx hb d_FF_getByte_5 ?_
  obtain ⟨v1, e1, h⟩ := bd_some h
  refine rF_13 X hP e1 d_FF_getByte_6 ?_
  refine lv_bipush (v := 24) hx hb d_FF_getByte_7 (by decide) ?_
  refine lv_bipush (v := 8) hx hb d_FF_getByte_9 (by decide) ?_
  refine lv_iload_n hx hb d_FF_getByte_11 rfl (lv_at hl 2 rfl) ?_
  refine lv_iconst (v := 3) hx hb d_FF_getByte_12 (by decide) ?_
  refine lv_iand hx hb d_FF_getByte_13 ?_
  refine lv_imul hx hb d_FF_getByte_14 ?_
  refine lv_isub hx hb d_FF_getByte_15 ?_
  refine lv_iushr (v := ush v1 ((24 : Int32) - ((8 : Int32) * (x2 &&& (3 : Int32))))) hx hb d_FF_getByte_16 rfl ?_
  refine lv_sipush (v := 255) hx hb d_FF_getByte_17 (by decide) ?_
  refine lv_iand hx hb d_FF_getByte_20 ?_
  cases h
  exact fx_iret X hP hD hS d_FF_getByte_21
set_option maxHeartbeats 4000000 in
set_option maxRecDepth 100000 in
theorem m_FF_getByte_16 {l : Launch} {D : va_G} {ad : Nat → Nat} {ca : Nat → ClassId} {FU : Nat} {x1 : Int32} {x2 : Int32} {g : St} {q : Int32} (h : FF_getByte FU 16 x1 x2 g = some q) : CI l ⟨"FlashFiles", "getByte", "([III)I"⟩ prog_1_method_48_code 3 1 (some .int) D (tyF ca) (wF ad ca g) [.ref (ad 27), .int x1, .int x2] q (wF ad ca g) := by
  intro sz
  refine Met.fx (Qc := fun A => fxQi D (tyF ca) A (wF ad ca g) q) (by decide) (Nat.le_of_ble_eq_true rfl) ?_
  intro p e s m below meth c A ls X hP hD hl
  have hl : lv_has ls 3 [(0, .ref (ad 27)), (1, .int x1), (2, .int x2)] := hl
  have hS : va_S A s.heap s.heap [] := va_S.rf
  have hx := X.1
  have hb := X.2.1
  unfold FF_getByte at h
  refine lv_aload_n hx hb d_FF_getByte_0 rfl (lv_at hl 0 rfl) ?_
  refine lv_iload_n hx hb d_FF_getByte_1 rfl (lv_at hl 1 rfl) ?_
  refine lv_iload_n hx hb d_FF_getByte_2 rfl (lv_at hl 2 rfl) ?_
  refine lv_iconst (v := 2) hx hb d_FF_getByte_3 (by decide) ?_
  refine lv_ishr hx hb d_FF_getByte_4 ?_
  refine lv_iadd hx hb d_FF_getByte_5 ?_
  obtain ⟨v1, e1, h⟩ := bd_some h
  refine rF_16 X hP e1 d_FF_getByte_6 ?_
  refine lv_bipush (v := 24) hx hb d_FF_getByte_7 (by decide) ?_
  refine lv_bipush (v := 8) hx hb d_FF_getByte_9 (by decide) ?_
  refine lv_iload_n hx hb d_FF_getByte_11 rfl (lv_at hl 2 rfl) ?_
  refine lv_iconst (v := 3) hx hb d_FF_getByte_12 (by decide) ?_
  refine lv_iand hx hb d_FF_getByte_13 ?_
  refine lv_imul hx hb d_FF_getByte_14 ?_
  refine lv_isub hx hb d_FF_getByte_15 ?_
  refine lv_iushr (v := ush v1 ((24 : Int32) - ((8 : Int32) * (x2 &&& (3 : Int32))))) hx hb d_FF_getByte_16 rfl ?_
  refine lv_sipush (v := 255) hx hb d_FF_getByte_17 (by decide) ?_
  refine lv_iand hx hb d_FF_getByte_20 ?_
  cases h
  exact fx_iret X hP hD hS d_FF_getByte_21
set_option maxHeartbeats 4000000 in
set_option maxRecDepth 100000 in
theorem v_FF_hashOf_5_2 {p : Program} {l : Launch} {e : Env} {s : State} {m : MethodId} {args : Array Value} {below : List Frame} {meth : Method} {c : Code} {D : va_G} {ad : Nat → Nat} {ca : Nat → ClassId} {A : Nat → Prop} {FU : Nat} {q : Int32} {g : St} (X : FX p s m meth c prog_1_method_47_code 4 (some .int) "FlashFiles" D (tyF ca) A) : ∀ (n : Nat), ∀ (y1 y2 y3 : Int32) (H : Heap) (locs : List Loc) (ls : Array Slot), va_P D cls (wF ad ca g) H → va_D A (wF ad ca g) → va_S A s.heap H locs → lv_has ls 4 [(0, .ref (ad 13)), (1, .int y1), (2, .int y2), (3, .int y3)] → FF_hashOf_b5 FU 2 n y1 y2 y3 g = some q → W p l e (rmN 1) s m args below meth c H locs 0 0 (MQ below (fxQi D (tyF ca) A (wF ad ca g) q) args s 0 0 A) (F0 m 5 ls []) := by
  have hx := X.1
  have hb := X.2.1
  intro n
  induction n with
  | zero =>
    intro y1 y2 y3 H locs ls hP hD hS hl h
    cases h
  | succ n ih =>
    intro y1 y2 y3 H locs ls hP hD hS hl h
    have h := h
    rw [FF_hashOf_b5.eq_2] at h
    refine lv_iload_n hx hb d_FF_hashOf_5 rfl (lv_at hl 3 rfl) ?_
    refine lv_iconst (v := 5) hx hb d_FF_hashOf_6 (by decide) ?_
    refine lv_icmp_ge (tgt := 35) hx hb d_FF_hashOf_7 (by decide) (fun hc => ?_) (fun hc => ?_)
    · have h := if_t hc h
      refine lv_iload_n hx hb d_FF_hashOf_35 rfl (lv_at hl 2 rfl) ?_
      refine lv_bipush (v := 12) hx hb d_FF_hashOf_36 (by decide) ?_
      refine lv_iushr (v := ush y2 (12 : Int32)) hx hb d_FF_hashOf_38 rfl ?_
      cases h
      exact fx_iret X hP hD hS d_FF_hashOf_39
    · have h := if_f hc h
      refine lv_iload_n hx hb d_FF_hashOf_10 rfl (lv_at hl 2 rfl) ?_
      refine lv_aload_n hx hb d_FF_hashOf_11 rfl (lv_at hl 0 rfl) ?_
      refine lv_iload_n hx hb d_FF_hashOf_12 rfl (lv_at hl 1 rfl) ?_
      refine lv_iload_n hx hb d_FF_hashOf_13 rfl (lv_at hl 3 rfl) ?_
      refine lv_iadd hx hb d_FF_hashOf_14 ?_
      obtain ⟨v1, e1, h⟩ := bd_some h
      refine rF_2 X hP e1 d_FF_hashOf_15 ?_
      refine lv_ixor hx hb d_FF_hashOf_16 ?_
      refine lv_ldcw (v := -1640531535) hx hb X.2.2.2.2.2.1 (X.2.2.2.2.2.2.1.use q5_30) d_FF_hashOf_17 ?_
      refine lv_imul hx hb d_FF_hashOf_20 ?_
      refine lv_istore_n hx hb d_FF_hashOf_21 rfl hl (by decide) rfl (fun ls hl => ?_)
      have hl : lv_has ls 4 [(2, .int ((y2 ^^^ v1) * (-1640531535 : Int32))), (0, .ref (ad 13)), (1, .int y1), (3, .int y3)] := hl
      refine lv_iload_n hx hb d_FF_hashOf_22 rfl (lv_at hl 0 rfl) ?_
      refine lv_iload_n hx hb d_FF_hashOf_23 rfl (lv_at hl 0 rfl) ?_
      refine lv_bipush (v := 15) hx hb d_FF_hashOf_24 (by decide) ?_
      refine lv_iushr (v := ush ((y2 ^^^ v1) * (-1640531535 : Int32)) (15 : Int32)) hx hb d_FF_hashOf_26 rfl ?_
      refine lv_ixor hx hb d_FF_hashOf_27 ?_
      refine lv_istore_n hx hb d_FF_hashOf_28 rfl hl (by decide) rfl (fun ls hl => ?_)
      have hl : lv_has ls 4 [(2, .int (((y2 ^^^ v1) * (-1640531535 : Int32)) ^^^ (ush ((y2 ^^^ v1) * (-1640531535 : Int32)) (15 : Int32)))), (0, .ref (ad 13)), (1, .int y1), (3, .int y3)] := hl
      refine lv_iinc (k := 3) (v := (y3 + (1 : Int32))) hx hb d_FF_hashOf_29 hl rfl (oi_1 _) (by decide) rfl (fun ls hl => ?_)
      have hl : lv_has ls 4 [(3, .int (y3 + (1 : Int32))), (2, .int (((y2 ^^^ v1) * (-1640531535 : Int32)) ^^^ (ush ((y2 ^^^ v1) * (-1640531535 : Int32)) (15 : Int32)))), (0, .ref (ad 13)), (1, .int y1)] := hl
      refine lv_goto (tgt := 5) hx hb d_FF_hashOf_32 (by decide) ?_
      exact ih _ _ _ _ _ _ hP hD hS (lv_sub hl [2, 3, 1, 0] rfl) h
set_option maxHeartbeats 4000000 in
set_option maxRecDepth 100000 in
theorem m_FF_hashOf_2 {l : Launch} {D : va_G} {ad : Nat → Nat} {ca : Nat → ClassId} {FU : Nat} {x1 : Int32} {g : St} {q : Int32} (h : FF_hashOf FU 2 x1 g = some q) : CI l ⟨"FlashFiles", "hashOf", "([II)I"⟩ prog_1_method_47_code 4 1 (some .int) D (tyF ca) (wF ad ca g) [.ref (ad 13), .int x1] q (wF ad ca g) := by
  intro sz
  refine Met.fx (Qc := fun A => fxQi D (tyF ca) A (wF ad ca g) q) (by decide) (Nat.le_of_ble_eq_true rfl) ?_
  intro p e s m below meth c A ls X hP hD hl
  have hl : lv_has ls 4 [(0, .ref (ad 13)), (1, .int x1)] := hl
  have hS : va_S A s.heap s.heap [] := va_S.rf
  have hx := X.1
  have hb := X.2.1
  unfold FF_hashOf at h
  refine lv_bipush (v := 17) hx hb d_FF_hashOf_0 (by decide) ?_
  refine lv_istore_n hx hb d_FF_hashOf_2 rfl hl (by decide) rfl (fun ls hl => ?_)
  have hl : lv_has ls 4 [(2, .int (17 : Int32)), (0, .ref (ad 13)), (1, .int x1)] := hl
  refine lv_iconst (v := 0) hx hb d_FF_hashOf_3 (by decide) ?_
  refine lv_istore_n hx hb d_FF_hashOf_4 rfl hl (by decide) rfl (fun ls hl => ?_)
  have hl : lv_has ls 4 [(3, .int (0 : Int32)), (2, .int (17 : Int32)), (0, .ref (ad 13)), (1, .int x1)] := hl
  exact v_FF_hashOf_5_2 X  _ _ _ _ _ _ _ hP hD hS (lv_sub hl [2, 3, 1, 0] rfl) h
set_option maxHeartbeats 4000000 in
set_option maxRecDepth 100000 in
theorem v_FF_hashOf_5_3 {p : Program} {l : Launch} {e : Env} {s : State} {m : MethodId} {args : Array Value} {below : List Frame} {meth : Method} {c : Code} {D : va_G} {ad : Nat → Nat} {ca : Nat → ClassId} {A : Nat → Prop} {FU : Nat} {q : Int32} {g : St} (X : FX p s m meth c prog_1_method_47_code 4 (some .int) "FlashFiles" D (tyF ca) A) : ∀ (n : Nat), ∀ (y1 y2 y3 : Int32) (H : Heap) (locs : List Loc) (ls : Array Slot), va_P D cls (wF ad ca g) H → va_D A (wF ad ca g) → va_S A s.heap H locs → lv_has ls 4 [(0, .ref (ad 14)), (1, .int y1), (2, .int y2), (3, .int y3)] → FF_hashOf_b5 FU 3 n y1 y2 y3 g = some q → W p l e (rmN 1) s m args below meth c H locs 0 0 (MQ below (fxQi D (tyF ca) A (wF ad ca g) q) args s 0 0 A) (F0 m 5 ls []) := by
  have hx := X.1
  have hb := X.2.1
  intro n
  induction n with
  | zero =>
    intro y1 y2 y3 H locs ls hP hD hS hl h
    cases h
  | succ n ih =>
    intro y1 y2 y3 H locs ls hP hD hS hl h
    have h := h
    rw [FF_hashOf_b5.eq_2] at h
    refine lv_iload_n hx hb d_FF_hashOf_5 rfl (lv_at hl 3 rfl) ?_
    refine lv_iconst (v := 5) hx hb d_FF_hashOf_6 (by decide) ?_
    refine lv_icmp_ge (tgt := 35) hx hb d_FF_hashOf_7 (by decide) (fun hc => ?_) (fun hc => ?_)
    · have h := if_t hc h
      refine lv_iload_n hx hb d_FF_hashOf_35 rfl (lv_at hl 2 rfl) ?_
      refine lv_bipush (v := 12) hx hb d_FF_hashOf_36 (by decide) ?_
      refine lv_iushr (v := ush y2 (12 : Int32)) hx hb d_FF_hashOf_38 rfl ?_
      cases h
      exact fx_iret X hP hD hS d_FF_hashOf_39
    · have h := if_f hc h
      refine lv_iload_n hx hb d_FF_hashOf_10 rfl (lv_at hl 2 rfl) ?_
      refine lv_aload_n hx hb d_FF_hashOf_11 rfl (lv_at hl 0 rfl) ?_
      refine lv_iload_n hx hb d_FF_hashOf_12 rfl (lv_at hl 1 rfl) ?_
      refine lv_iload_n hx hb d_FF_hashOf_13 rfl (lv_at hl 3 rfl) ?_
      refine lv_iadd hx hb d_FF_hashOf_14 ?_
      obtain ⟨v1, e1, h⟩ := bd_some h
      refine rF_3 X hP e1 d_FF_hashOf_15 ?_
      refine lv_ixor hx hb d_FF_hashOf_16 ?_
      refine lv_ldcw (v := -1640531535) hx hb X.2.2.2.2.2.1 (X.2.2.2.2.2.2.1.use q5_30) d_FF_hashOf_17 ?_
      refine lv_imul hx hb d_FF_hashOf_20 ?_
      refine lv_istore_n hx hb d_FF_hashOf_21 rfl hl (by decide) rfl (fun ls hl => ?_)
      have hl : lv_has ls 4 [(2, .int ((y2 ^^^ v1) * (-1640531535 : Int32))), (0, .ref (ad 14)), (1, .int y1), (3, .int y3)] := hl
      refine lv_iload_n hx hb d_FF_hashOf_22 rfl (lv_at hl 0 rfl) ?_
      refine lv_iload_n hx hb d_FF_hashOf_23 rfl (lv_at hl 0 rfl) ?_
      refine lv_bipush (v := 15) hx hb d_FF_hashOf_24 (by decide) ?_
      refine lv_iushr (v := ush ((y2 ^^^ v1) * (-1640531535 : Int32)) (15 : Int32)) hx hb d_FF_hashOf_26 rfl ?_
      refine lv_ixor hx hb d_FF_hashOf_27 ?_
      refine lv_istore_n hx hb d_FF_hashOf_28 rfl hl (by decide) rfl (fun ls hl => ?_)
      have hl : lv_has ls 4 [(2, .int (((y2 ^^^ v1) * (-1640531535 : Int32)) ^^^ (ush ((y2 ^^^ v1) * (-1640531535 : Int32)) (15 : Int32)))), (0, .ref (ad 14)), (1, .int y1), (3, .int y3)] := hl
      refine lv_iinc (k := 3) (v := (y3 + (1 : Int32))) hx hb d_FF_hashOf_29 hl rfl (oi_1 _) (by decide) rfl (fun ls hl => ?_)
      have hl : lv_has ls 4 [(3, .int (y3 + (1 : Int32))), (2, .int (((y2 ^^^ v1) * (-1640531535 : Int32)) ^^^ (ush ((y2 ^^^ v1) * (-1640531535 : Int32)) (15 : Int32)))), (0, .ref (ad 14)), (1, .int y1)] := hl
      refine lv_goto (tgt := 5) hx hb d_FF_hashOf_32 (by decide) ?_
      exact ih _ _ _ _ _ _ hP hD hS (lv_sub hl [2, 3, 1, 0] rfl) h
set_option maxHeartbeats 4000000 in
set_option maxRecDepth 100000 in
theorem m_FF_hashOf_3 {l : Launch} {D : va_G} {ad : Nat → Nat} {ca : Nat → ClassId} {FU : Nat} {x1 : Int32} {g : St} {q : Int32} (h : FF_hashOf FU 3 x1 g = some q) : CI l ⟨"FlashFiles", "hashOf", "([II)I"⟩ prog_1_method_47_code 4 1 (some .int) D (tyF ca) (wF ad ca g) [.ref (ad 14), .int x1] q (wF ad ca g) := by
  intro sz
  refine Met.fx (Qc := fun A => fxQi D (tyF ca) A (wF ad ca g) q) (by decide) (Nat.le_of_ble_eq_true rfl) ?_
  intro p e s m below meth c A ls X hP hD hl
  have hl : lv_has ls 4 [(0, .ref (ad 14)), (1, .int x1)] := hl
  have hS : va_S A s.heap s.heap [] := va_S.rf
  have hx := X.1
  have hb := X.2.1
  unfold FF_hashOf at h
  refine lv_bipush (v := 17) hx hb d_FF_hashOf_0 (by decide) ?_
  refine lv_istore_n hx hb d_FF_hashOf_2 rfl hl (by decide) rfl (fun ls hl => ?_)
  have hl : lv_has ls 4 [(2, .int (17 : Int32)), (0, .ref (ad 14)), (1, .int x1)] := hl
  refine lv_iconst (v := 0) hx hb d_FF_hashOf_3 (by decide) ?_
  refine lv_istore_n hx hb d_FF_hashOf_4 rfl hl (by decide) rfl (fun ls hl => ?_)
  have hl : lv_has ls 4 [(3, .int (0 : Int32)), (2, .int (17 : Int32)), (0, .ref (ad 14)), (1, .int x1)] := hl
  exact v_FF_hashOf_5_3 X  _ _ _ _ _ _ _ hP hD hS (lv_sub hl [2, 3, 1, 0] rfl) h
set_option maxHeartbeats 4000000 in
set_option maxRecDepth 100000 in
theorem m_FF_getByte_18 {l : Launch} {D : va_G} {ad : Nat → Nat} {ca : Nat → ClassId} {FU : Nat} {x1 : Int32} {x2 : Int32} {g : St} {q : Int32} (h : FF_getByte FU 18 x1 x2 g = some q) : CI l ⟨"FlashFiles", "getByte", "([III)I"⟩ prog_1_method_48_code 3 1 (some .int) D (tyF ca) (wF ad ca g) [.ref (ad 29), .int x1, .int x2] q (wF ad ca g) := by
  intro sz
  refine Met.fx (Qc := fun A => fxQi D (tyF ca) A (wF ad ca g) q) (by decide) (Nat.le_of_ble_eq_true rfl) ?_
  intro p e s m below meth c A ls X hP hD hl
  have hl : lv_has ls 3 [(0, .ref (ad 29)), (1, .int x1), (2, .int x2)] := hl
  have hS : va_S A s.heap s.heap [] := va_S.rf
  have hx := X.1
  have hb := X.2.1
  unfold FF_getByte at h
  refine lv_aload_n hx hb d_FF_getByte_0 rfl (lv_at hl 0 rfl) ?_
  refine lv_iload_n hx hb d_FF_getByte_1 rfl (lv_at hl 1 rfl) ?_
  refine lv_iload_n hx hb d_FF_getByte_2 rfl (lv_at hl 2 rfl) ?_
  refine lv_iconst (v := 2) hx hb d_FF_getByte_3 (by decide) ?_
  refine lv_ishr hx hb d_FF_getByte_4 ?_
  refine lv_iadd hx hb d_FF_getByte_5 ?_
  obtain ⟨v1, e1, h⟩ := bd_some h
  refine rF_18 X hP e1 d_FF_getByte_6 ?_
  refine lv_bipush (v := 24) hx hb d_FF_getByte_7 (by decide) ?_
  refine lv_bipush (v := 8) hx hb d_FF_getByte_9 (by decide) ?_
  refine lv_iload_n hx hb d_FF_getByte_11 rfl (lv_at hl 2 rfl) ?_
  refine lv_iconst (v := 3) hx hb d_FF_getByte_12 (by decide) ?_
  refine lv_iand hx hb d_FF_getByte_13 ?_
  refine lv_imul hx hb d_FF_getByte_14 ?_
  refine lv_isub hx hb d_FF_getByte_15 ?_
  refine lv_iushr (v := ush v1 ((24 : Int32) - ((8 : Int32) * (x2 &&& (3 : Int32))))) hx hb d_FF_getByte_16 rfl ?_
  refine lv_sipush (v := 255) hx hb d_FF_getByte_17 (by decide) ?_
  refine lv_iand hx hb d_FF_getByte_20 ?_
  cases h
  exact fx_iret X hP hD hS d_FF_getByte_21
