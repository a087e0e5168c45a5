theorem d_Tre_wordOf_0 : decode prog_10_method_2_code 0 = .ok (.iload_n 1, 1) := by decide +kernel
theorem d_Tre_wordOf_1 : decode prog_10_method_2_code 1 = .ok (.iconst 1, 1) := by decide +kernel
theorem d_Tre_wordOf_2 : decode prog_10_method_2_code 2 = .ok (.if_icmp .lt 21, 3) := by decide +kernel
theorem d_Tre_wordOf_5 : decode prog_10_method_2_code 5 = .ok (.iload_n 1, 1) := by decide +kernel
theorem d_Tre_wordOf_6 : decode prog_10_method_2_code 6 = .ok (.sipush 250, 3) := by decide +kernel
theorem d_Tre_wordOf_9 : decode prog_10_method_2_code 9 = .ok (.if_icmp .gt 14, 3) := by decide +kernel
theorem d_Tre_wordOf_12 : decode prog_10_method_2_code 12 = .ok (.aload_n 0, 1) := by decide +kernel
theorem d_Tre_wordOf_13 : decode prog_10_method_2_code 13 = .ok (.getfield 15, 3) := by decide +kernel
theorem d_Tre_wordOf_16 : decode prog_10_method_2_code 16 = .ok (.iload_n 1, 1) := by decide +kernel
theorem d_Tre_wordOf_17 : decode prog_10_method_2_code 17 = .ok (.invokevirtual 30, 3) := by decide +kernel
theorem d_Tre_wordOf_20 : decode prog_10_method_2_code 20 = .ok (.ifCond .ne 7, 3) := by decide +kernel
theorem d_Tre_wordOf_23 : decode prog_10_method_2_code 23 = .ok (.iconst 0, 1) := by decide +kernel
theorem d_Tre_wordOf_24 : decode prog_10_method_2_code 24 = .ok (.goto 19, 3) := by decide +kernel
theorem d_Tre_wordOf_27 : decode prog_10_method_2_code 27 = .ok (.aload_n 0, 1) := by decide +kernel
theorem d_Tre_wordOf_28 : decode prog_10_method_2_code 28 = .ok (.getfield 9, 3) := by decide +kernel
theorem d_Tre_wordOf_31 : decode prog_10_method_2_code 31 = .ok (.aload_n 0, 1) := by decide +kernel
theorem d_Tre_wordOf_32 : decode prog_10_method_2_code 32 = .ok (.getfield 15, 3) := by decide +kernel
theorem d_Tre_wordOf_35 : decode prog_10_method_2_code 35 = .ok (.iload_n 1, 1) := by decide +kernel
theorem d_Tre_wordOf_36 : decode prog_10_method_2_code 36 = .ok (.invokevirtual 30, 3) := by decide +kernel
theorem d_Tre_wordOf_39 : decode prog_10_method_2_code 39 = .ok (.iload_n 2, 1) := by decide +kernel
theorem d_Tre_wordOf_40 : decode prog_10_method_2_code 40 = .ok (.invokevirtual 36, 3) := by decide +kernel
theorem d_Tre_wordOf_43 : decode prog_10_method_2_code 43 = .ok (.ireturn, 1) := by decide +kernel
set_option maxHeartbeats 4000000 in
set_option maxRecDepth 100000 in
theorem m_Tre_wordOf {l : Launch} {D : va_G} {ad : Nat → Nat} {ca : Nat → ClassId} {FU : Nat} {x1 : Int32} {x2 : Int32} {g : St} {q : Int32} (h : Tre_wordOf FU x1 x2 g = some q) : CI l ⟨"FlashFiles$Tree", "wordOf", "(II)I"⟩ prog_10_method_2_code 3 2 (some .int) D (tyF ca) (wF ad ca g) [.ref (ad 7), .int x1, .int x2] q (wF ad ca g) := by
  intro sz
  refine Met.fx (Qc := fun A => fxQi D (tyF ca) A (wF ad ca g) q) (by decide) (Nat.le_of_ble_eq_true rfl) ?_
  intro p e s m below meth c A ls X hP hD hl
  have hl : lv_has ls 3 [(0, .ref (ad 7)), (1, .int x1), (2, .int x2)] := hl
  have hS : va_S A s.heap s.heap [] := va_S.rf
  have hx := X.1
  have hb := X.2.1
  unfold Tre_wordOf at h
  refine lv_iload_n hx hb d_Tre_wordOf_0 rfl (lv_at hl 1 rfl) ?_
  refine lv_iconst (v := 1) hx hb d_Tre_wordOf_1 (by decide) ?_
  refine lv_icmp_lt (tgt := 23) hx hb d_Tre_wordOf_2 (by decide) (fun hc => ?_) (fun hc => ?_)
  · have h := if_t hc h
    refine lv_iconst (v := 0) hx hb d_Tre_wordOf_23 (by decide) ?_
    refine lv_goto (tgt := 43) hx hb d_Tre_wordOf_24 (by decide) ?_
    cases h
    exact fx_iret X hP hD hS d_Tre_wordOf_43
  · have h := if_f hc h
    refine lv_iload_n hx hb d_Tre_wordOf_5 rfl (lv_at hl 1 rfl) ?_
    refine lv_sipush (v := 250) hx hb d_Tre_wordOf_6 (by decide) ?_
    refine lv_icmp_gt (tgt := 23) hx hb d_Tre_wordOf_9 (by decide) (fun hc => ?_) (fun hc => ?_)
    · have h := if_t hc h
      refine lv_iconst (v := 0) hx hb d_Tre_wordOf_23 (by decide) ?_
      refine lv_goto (tgt := 43) hx hb d_Tre_wordOf_24 (by decide) ?_
      cases h
      exact fx_iret X hP hD hS d_Tre_wordOf_43
    · have h := if_f hc h
      refine lv_aload_n hx hb d_Tre_wordOf_12 rfl (lv_at hl 0 rfl) ?_
      refine gF_tre_table X hP d_Tre_wordOf_13 ?_
      refine lv_iload_n hx hb d_Tre_wordOf_16 rfl (lv_at hl 1 rfl) ?_
      obtain ⟨v1, e1, h⟩ := bd_some h
      refine fx_i X (fx_runV (As := [.int x1]) X (m_Tab_placeOf e1 _) hP hD kv_Tre_30 ⟨Nat.le_of_ble_eq_true rfl, Nat.le_of_ble_eq_true rfl⟩ 4 rfl rfl rfl hl.1 rfl (Nat.le_of_ble_eq_true rfl) d_Tre_wordOf_17) hD hS (fun H locs hP hD hS => ?_)
      refine lv_if_ne (tgt := 27) hx hb d_Tre_wordOf_20 (by decide) (fun hc => ?_) (fun hc => ?_)
      · have h := if_f hc h
        refine lv_aload_n hx hb d_Tre_wordOf_27 rfl (lv_at hl 0 rfl) ?_
        refine gF_tre_device X hP d_Tre_wordOf_28 ?_
        refine lv_aload_n hx hb d_Tre_wordOf_31 rfl (lv_at hl 0 rfl) ?_
        refine gF_tre_table X hP d_Tre_wordOf_32 ?_
        refine lv_iload_n hx hb d_Tre_wordOf_35 rfl (lv_at hl 1 rfl) ?_
        obtain ⟨v2, e1, h⟩ := bd_some h
        refine fx_i X (fx_runV (As := [.int x1]) X (m_Tab_placeOf e1 _) hP hD kv_Tre_30 ⟨Nat.le_of_ble_eq_true rfl, Nat.le_of_ble_eq_true rfl⟩ 4 rfl rfl rfl hl.1 rfl (Nat.le_of_ble_eq_true rfl) d_Tre_wordOf_36) hD hS (fun H locs hP hD hS => ?_)
        refine lv_iload_n hx hb d_Tre_wordOf_39 rfl (lv_at hl 2 rfl) ?_
        obtain ⟨v3, e1, h⟩ := bd_some h
        refine fx_i X (fx_runV (As := [.int v2, .int x2]) X (m_Dev_word e1 _) hP hD kv_Tre_36 ⟨Nat.le_of_ble_eq_true rfl, Nat.le_of_ble_eq_true rfl⟩ 3 rfl rfl rfl hl.1 rfl (Nat.le_of_ble_eq_true rfl) d_Tre_wordOf_40) hD hS (fun H locs hP hD hS => ?_)
        cases h
        exact fx_iret X hP hD hS d_Tre_wordOf_43
      · have h := if_t hc h
        refine lv_iconst (v := 0) hx hb d_Tre_wordOf_23 (by decide) ?_
        refine lv_goto (tgt := 43) hx hb d_Tre_wordOf_24 (by decide) ?_
        cases h
        exact fx_iret X hP hD hS d_Tre_wordOf_43
theorem d_Tre_kindOf_0 : decode prog_10_method_3_code 0 = .ok (.aload_n 0, 1) := by decide +kernel
theorem d_Tre_kindOf_1 : decode prog_10_method_3_code 1 = .ok (.iload_n 1, 1) := by decide +kernel
theorem d_Tre_kindOf_2 : decode prog_10_method_3_code 2 = .ok (.iconst 0, 1) := by decide +kernel
theorem d_Tre_kindOf_3 : decode prog_10_method_3_code 3 = .ok (.invokevirtual 42, 3) := by decide +kernel
theorem d_Tre_kindOf_6 : decode prog_10_method_3_code 6 = .ok (.ireturn, 1) := by decide +kernel
set_option maxHeartbeats 4000000 in
set_option maxRecDepth 100000 in
theorem m_Tre_kindOf {l : Launch} {D : va_G} {ad : Nat → Nat} {ca : Nat → ClassId} {FU : Nat} {x1 : Int32} {g : St} {q : Int32} (h : Tre_kindOf FU x1 g = some q) : CI l ⟨"FlashFiles$Tree", "kindOf", "(I)I"⟩ prog_10_method_3_code 2 3 (some .int) D (tyF ca) (wF ad ca g) [.ref (ad 7), .int x1] q (wF ad ca g) := by
  intro sz
  refine Met.fx (Qc := fun A => fxQi D (tyF ca) A (wF ad ca g) q) (by decide) (Nat.le_of_ble_eq_true rfl) ?_
  intro p e s m below meth c A ls X hP hD hl
  have hl : lv_has ls 2 [(0, .ref (ad 7)), (1, .int x1)] := hl
  have hS : va_S A s.heap s.heap [] := va_S.rf
  have hx := X.1
  have hb := X.2.1
  unfold Tre_kindOf at h
  refine lv_aload_n hx hb d_Tre_kindOf_0 rfl (lv_at hl 0 rfl) ?_
  refine lv_iload_n hx hb d_Tre_kindOf_1 rfl (lv_at hl 1 rfl) ?_
  refine lv_iconst (v := 0) hx hb d_Tre_kindOf_2 (by decide) ?_
  obtain ⟨v1, e1, h⟩ := bd_some h
  refine fx_i X (fx_runV (As := [.int x1, .int (0 : Int32)]) X (m_Tre_wordOf e1 _) hP hD kv_Tre_42 ⟨Nat.le_of_ble_eq_true rfl, Nat.le_of_ble_eq_true rfl⟩ 7 rfl rfl rfl hl.1 rfl (Nat.le_of_ble_eq_true rfl) d_Tre_kindOf_3) hD hS (fun H locs hP hD hS => ?_)
  cases h
  exact fx_iret X hP hD hS d_Tre_kindOf_6
theorem d_Tre_nodesFor_0 : decode prog_10_method_5_code 0 = .ok (.iload_n 1, 1) := by decide +kernel
theorem d_Tre_nodesFor_1 : decode prog_10_method_5_code 1 = .ok (.bipush 20, 2) := by decide +kernel
theorem d_Tre_nodesFor_3 : decode prog_10_method_5_code 3 = .ok (.if_icmp .gt 5, 3) := by decide +kernel
theorem d_Tre_nodesFor_6 : decode prog_10_method_5_code 6 = .ok (.iconst 0, 1) := by decide +kernel
theorem d_Tre_nodesFor_7 : decode prog_10_method_5_code 7 = .ok (.ireturn, 1) := by decide +kernel
theorem d_Tre_nodesFor_8 : decode prog_10_method_5_code 8 = .ok (.iload_n 1, 1) := by decide +kernel
theorem d_Tre_nodesFor_9 : decode prog_10_method_5_code 9 = .ok (.bipush 20, 2) := by decide +kernel
theorem d_Tre_nodesFor_11 : decode prog_10_method_5_code 11 = .ok (.isub, 1) := by decide +kernel
theorem d_Tre_nodesFor_12 : decode prog_10_method_5_code 12 = .ok (.bipush 56, 2) := by decide +kernel
theorem d_Tre_nodesFor_14 : decode prog_10_method_5_code 14 = .ok (.iadd, 1) := by decide +kernel
theorem d_Tre_nodesFor_15 : decode prog_10_method_5_code 15 = .ok (.iconst 1, 1) := by decide +kernel
theorem d_Tre_nodesFor_16 : decode prog_10_method_5_code 16 = .ok (.isub, 1) := by decide +kernel
theorem d_Tre_nodesFor_17 : decode prog_10_method_5_code 17 = .ok (.bipush 56, 2) := by decide +kernel
theorem d_Tre_nodesFor_19 : decode prog_10_method_5_code 19 = .ok (.idiv, 1) := by decide +kernel
theorem d_Tre_nodesFor_20 : decode prog_10_method_5_code 20 = .ok (.istore_n 2, 1) := by decide +kernel
theorem d_Tre_nodesFor_21 : decode prog_10_method_5_code 21 = .ok (.iload_n 2, 1) := by decide +kernel
theorem d_Tre_nodesFor_22 : decode prog_10_method_5_code 22 = .ok (.iconst 2, 1) := by decide +kernel
theorem d_Tre_nodesFor_23 : decode prog_10_method_5_code 23 = .ok (.if_icmp .gt 7, 3) := by decide +kernel
theorem d_Tre_nodesFor_26 : decode prog_10_method_5_code 26 = .ok (.iload_n 2, 1) := by decide +kernel
theorem d_Tre_nodesFor_27 : decode prog_10_method_5_code 27 = .ok (.goto 6, 3) := by decide +kernel
theorem d_Tre_nodesFor_30 : decode prog_10_method_5_code 30 = .ok (.iload_n 2, 1) := by decide +kernel
theorem d_Tre_nodesFor_31 : decode prog_10_method_5_code 31 = .ok (.iconst 1, 1) := by decide +kernel
theorem d_Tre_nodesFor_32 : decode prog_10_method_5_code 32 = .ok (.iadd, 1) := by decide +kernel
theorem d_Tre_nodesFor_33 : decode prog_10_method_5_code 33 = .ok (.ireturn, 1) := by decide +kernel
set_option maxHeartbeats 4000000 in
set_option maxRecDepth 100000 in
theorem m_Tre_nodesFor {l : Launch} {D : va_G} {ad : Nat → Nat} {ca : Nat → ClassId} {FU : Nat} {x1 : Int32} {g : St} {q : Int32} (h : Tre_nodesFor FU x1 g = some q) : CI l ⟨"FlashFiles$Tree", "nodesFor", "(I)I"⟩ prog_10_method_5_code 3 1 (some .int) D (tyF ca) (wF ad ca g) [.ref (ad 7), .int x1] q (wF ad ca g) := by
  intro sz
  refine Met.fx (Qc := fun A => fxQi D (tyF ca) A (wF ad ca g) q) (by decide) (Nat.le_of_ble_eq_true rfl) ?_
  intro p e s m below meth c A ls X hP hD hl
  have hl : lv_has ls 3 [(0, .ref (ad 7)), (1, .int x1)] := hl
  have hS : va_S A s.heap s.heap [] := va_S.rf
  have hx := X.1
  have hb := X.2.1
  unfold Tre_nodesFor at h
  refine lv_iload_n hx hb d_Tre_nodesFor_0 rfl (lv_at hl 1 rfl) ?_
  refine lv_bipush (v := 20) hx hb d_Tre_nodesFor_1 (by decide) ?_
  refine lv_icmp_gt (tgt := 8) hx hb d_Tre_nodesFor_3 (by decide) (fun hc => ?_) (fun hc => ?_)
  · have h := if_t hc h
    refine lv_iload_n hx hb d_Tre_nodesFor_8 rfl (lv_at hl 1 rfl) ?_
    refine lv_bipush (v := 20) hx hb d_Tre_nodesFor_9 (by decide) ?_
    refine lv_isub hx hb d_Tre_nodesFor_11 ?_
    refine lv_bipush (v := 56) hx hb d_Tre_nodesFor_12 (by decide) ?_
    refine lv_iadd hx hb d_Tre_nodesFor_14 ?_
    refine lv_iconst (v := 1) hx hb d_Tre_nodesFor_15 (by decide) ?_
    refine lv_isub hx hb d_Tre_nodesFor_16 ?_
    refine lv_bipush (v := 56) hx hb d_Tre_nodesFor_17 (by decide) ?_
    refine lv_idiv hx hb d_Tre_nodesFor_19 (by decide) ?_
    refine lv_istore_n hx hb d_Tre_nodesFor_20 rfl hl (by decide) rfl (fun ls hl => ?_)
    have hl : lv_has ls 3 [(2, .int ((((x1 - (20 : Int32)) + (56 : Int32)) - (1 : Int32)) / (56 : Int32))), (0, .ref (ad 7)), (1, .int x1)] := hl
    refine lv_iload_n hx hb d_Tre_nodesFor_21 rfl (lv_at hl 0 rfl) ?_
    refine lv_iconst (v := 2) hx hb d_Tre_nodesFor_22 (by decide) ?_
    refine lv_icmp_gt (tgt := 30) hx hb d_Tre_nodesFor_23 (by decide) (fun hc => ?_) (fun hc => ?_)
    · have h := if_t hc h
      refine lv_iload_n hx hb d_Tre_nodesFor_30 rfl (lv_at hl 0 rfl) ?_
      refine lv_iconst (v := 1) hx hb d_Tre_nodesFor_31 (by decide) ?_
      refine lv_iadd hx hb d_Tre_nodesFor_32 ?_
      cases h
      exact fx_iret X hP hD hS d_Tre_nodesFor_33
    · have h := if_f hc h
      refine lv_iload_n hx hb d_Tre_nodesFor_26 rfl (lv_at hl 0 rfl) ?_
      refine lv_goto (tgt := 33) hx hb d_Tre_nodesFor_27 (by decide) ?_
      cases h
      exact fx_iret X hP hD hS d_Tre_nodesFor_33
  · have h := if_f hc h
    refine lv_iconst (v := 0) hx hb d_Tre_nodesFor_6 (by decide) ?_
    cases h
    exact fx_iret X hP hD hS d_Tre_nodesFor_7
theorem d_Tre_blocksOf_0 : decode prog_10_method_4_code 0 = .ok (.aload_n 0, 1) := by decide +kernel
theorem d_Tre_blocksOf_1 : decode prog_10_method_4_code 1 = .ok (.iload_n 1, 1) := by decide +kernel
theorem d_Tre_blocksOf_2 : decode prog_10_method_4_code 2 = .ok (.invokevirtual 45, 3) := by decide +kernel
theorem d_Tre_blocksOf_5 : decode prog_10_method_4_code 5 = .ok (.istore_n 2, 1) := by decide +kernel
theorem d_Tre_blocksOf_6 : decode prog_10_method_4_code 6 = .ok (.iload_n 2, 1) := by decide +kernel
theorem d_Tre_blocksOf_7 : decode prog_10_method_4_code 7 = .ok (.iconst 2, 1) := by decide +kernel
theorem d_Tre_blocksOf_8 : decode prog_10_method_4_code 8 = .ok (.if_icmp .ne 12, 3) := by decide +kernel
theorem d_Tre_blocksOf_11 : decode prog_10_method_4_code 11 = .ok (.iconst 1, 1) := by decide +kernel
theorem d_Tre_blocksOf_12 : decode prog_10_method_4_code 12 = .ok (.aload_n 0, 1) := by decide +kernel
theorem d_Tre_blocksOf_13 : decode prog_10_method_4_code 13 = .ok (.iload_n 1, 1) := by decide +kernel
theorem d_Tre_blocksOf_14 : decode prog_10_method_4_code 14 = .ok (.iconst 1, 1) := by decide +kernel
theorem d_Tre_blocksOf_15 : decode prog_10_method_4_code 15 = .ok (.invokevirtual 42, 3) := by decide +kernel
theorem d_Tre_blocksOf_18 : decode prog_10_method_4_code 18 = .ok (.iadd, 1) := by decide +kernel
theorem d_Tre_blocksOf_19 : decode prog_10_method_4_code 19 = .ok (.ireturn, 1) := by decide +kernel
theorem d_Tre_blocksOf_20 : decode prog_10_method_4_code 20 = .ok (.iload_n 2, 1) := by decide +kernel
theorem d_Tre_blocksOf_21 : decode prog_10_method_4_code 21 = .ok (.ifCond .eq 13, 3) := by decide +kernel
theorem d_Tre_blocksOf_24 : decode prog_10_method_4_code 24 = .ok (.aload_n 0, 1) := by decide +kernel
theorem d_Tre_blocksOf_25 : decode prog_10_method_4_code 25 = .ok (.iload_n 1, 1) := by decide +kernel
theorem d_Tre_blocksOf_26 : decode prog_10_method_4_code 26 = .ok (.iconst 3, 1) := by decide +kernel
theorem d_Tre_blocksOf_27 : decode prog_10_method_4_code 27 = .ok (.invokevirtual 42, 3) := by decide +kernel
theorem d_Tre_blocksOf_30 : decode prog_10_method_4_code 30 = .ok (.iconst 1, 1) := by decide +kernel
theorem d_Tre_blocksOf_31 : decode prog_10_method_4_code 31 = .ok (.if_icmp .ne 5, 3) := by decide +kernel
theorem d_Tre_blocksOf_34 : decode prog_10_method_4_code 34 = .ok (.iload_n 2, 1) := by decide +kernel
theorem d_Tre_blocksOf_35 : decode prog_10_method_4_code 35 = .ok (.ireturn, 1) := by decide +kernel
theorem d_Tre_blocksOf_36 : decode prog_10_method_4_code 36 = .ok (.iconst 1, 1) := by decide +kernel
theorem d_Tre_blocksOf_37 : decode prog_10_method_4_code 37 = .ok (.aload_n 0, 1) := by decide +kernel
theorem d_Tre_blocksOf_38 : decode prog_10_method_4_code 38 = .ok (.iload_n 1, 1) := by decide +kernel
theorem d_Tre_blocksOf_39 : decode prog_10_method_4_code 39 = .ok (.iconst 4, 1) := by decide +kernel
theorem d_Tre_blocksOf_40 : decode prog_10_method_4_code 40 = .ok (.invokevirtual 42, 3) := by decide +kernel
theorem d_Tre_blocksOf_43 : decode prog_10_method_4_code 43 = .ok (.iadd, 1) := by decide +kernel
theorem d_Tre_blocksOf_44 : decode prog_10_method_4_code 44 = .ok (.aload_n 0, 1) := by decide +kernel
theorem d_Tre_blocksOf_45 : decode prog_10_method_4_code 45 = .ok (.aload_n 0, 1) := by decide +kernel
theorem d_Tre_blocksOf_46 : decode prog_10_method_4_code 46 = .ok (.iload_n 1, 1) := by decide +kernel
theorem d_Tre_blocksOf_47 : decode prog_10_method_4_code 47 = .ok (.iconst 1, 1) := by decide +kernel
theorem d_Tre_blocksOf_48 : decode prog_10_method_4_code 48 = .ok (.invokevirtual 42, 3) := by decide +kernel
theorem d_Tre_blocksOf_51 : decode prog_10_method_4_code 51 = .ok (.invokestatic 48, 3) := by decide +kernel
theorem d_Tre_blocksOf_54 : decode prog_10_method_4_code 54 = .ok (.invokevirtual 51, 3) := by decide +kernel
theorem d_Tre_blocksOf_57 : decode prog_10_method_4_code 57 = .ok (.iadd, 1) := by decide +kernel
theorem d_Tre_blocksOf_58 : decode prog_10_method_4_code 58 = .ok (.ireturn, 1) := by decide +kernel
set_option maxHeartbeats 4000000 in
set_option maxRecDepth 100000 in
theorem m_Tre_blocksOf {l : Launch} {D : va_G} {ad : Nat → Nat} {ca : Nat → ClassId} {FU : Nat} {x1 : Int32} {g : St} {q : Int32} (h : Tre_blocksOf FU x1 g = some q) : CI l ⟨"FlashFiles$Tree", "blocksOf", "(I)I"⟩ prog_10_method_4_code 3 4 (some .int) D (tyF ca) (wF ad ca g) [.ref (ad 7), .int x1] q (wF ad ca g) := by
  intro sz
  refine Met.fx (Qc := fun A => fxQi D (tyF ca) A (wF ad ca g) q) (by decide) (Nat.le_of_ble_eq_true rfl) ?_
  intro p e s m below meth c A ls X hP hD hl
  have hl : lv_has ls 3 [(0, .ref (ad 7)), (1, .int x1)] := hl
  have hS : va_S A s.heap s.heap [] := va_S.rf
  have hx := X.1
  have hb := X.2.1
  unfold Tre_blocksOf at h
  refine lv_aload_n hx hb d_Tre_blocksOf_0 rfl (lv_at hl 0 rfl) ?_
  refine lv_iload_n hx hb d_Tre_blocksOf_1 rfl (lv_at hl 1 rfl) ?_
  obtain ⟨v1, e1, h⟩ := bd_some h
  refine fx_i X (fx_runV (As := [.int x1]) X (m_Tre_kindOf e1 _) hP hD kv_Tre_45 ⟨Nat.le_of_ble_eq_true rfl, Nat.le_of_ble_eq_true rfl⟩ 7 rfl rfl rfl hl.1 rfl (Nat.le_of_ble_eq_true rfl) d_Tre_blocksOf_2) hD hS (fun H locs hP hD hS => ?_)
  refine lv_istore_n hx hb d_Tre_blocksOf_5 rfl hl (by decide) rfl (fun ls hl => ?_)
  have hl : lv_has ls 3 [(2, .int v1), (0, .ref (ad 7)), (1, .int x1)] := hl
  refine lv_iload_n hx hb d_Tre_blocksOf_6 rfl (lv_at hl 0 rfl) ?_
  refine lv_iconst (v := 2) hx hb d_Tre_blocksOf_7 (by decide) ?_
  refine lv_icmp_ne (tgt := 20) hx hb d_Tre_blocksOf_8 (by decide) (fun hc => ?_) (fun hc => ?_)
  · have h := if_f hc h
    refine lv_iload_n hx hb d_Tre_blocksOf_20 rfl (lv_at hl 0 rfl) ?_
    refine lv_if_eq (tgt := 34) hx hb d_Tre_blocksOf_21 (by decide) (fun hc => ?_) (fun hc => ?_)
    · have h := if_t hc h
      refine lv_iload_n hx hb d_Tre_blocksOf_34 rfl (lv_at hl 0 rfl) ?_
      cases h
      exact fx_iret X hP hD hS d_Tre_blocksOf_35
    · have h := if_f hc h
      refine lv_aload_n hx hb d_Tre_blocksOf_24 rfl (lv_at hl 1 rfl) ?_
      refine lv_iload_n hx hb d_Tre_blocksOf_25 rfl (lv_at hl 2 rfl) ?_
      refine lv_iconst (v := 3) hx hb d_Tre_blocksOf_26 (by decide) ?_
      obtain ⟨v2, e1, h⟩ := bd_some h
      refine fx_i X (fx_runV (As := [.int x1, .int (3 : Int32)]) X (m_Tre_wordOf e1 _) hP hD kv_Tre_42 ⟨Nat.le_of_ble_eq_true rfl, Nat.le_of_ble_eq_true rfl⟩ 7 rfl rfl rfl hl.1 rfl (Nat.le_of_ble_eq_true rfl) d_Tre_blocksOf_27) hD hS (fun H locs hP hD hS => ?_)
      refine lv_iconst (v := 1) hx hb d_Tre_blocksOf_30 (by decide) ?_
      refine lv_icmp_ne (tgt := 36) hx hb d_Tre_blocksOf_31 (by decide) (fun hc => ?_) (fun hc => ?_)
      · have h := if_f hc h
        refine lv_iconst (v := 1) hx hb d_Tre_blocksOf_36 (by decide) ?_
        refine lv_aload_n hx hb d_Tre_blocksOf_37 rfl (lv_at hl 1 rfl) ?_
        refine lv_iload_n hx hb d_Tre_blocksOf_38 rfl (lv_at hl 2 rfl) ?_
        refine lv_iconst (v := 4) hx hb d_Tre_blocksOf_39 (by decide) ?_
        obtain ⟨v3, e1, h⟩ := bd_some h
        refine fx_i X (fx_runV (As := [.int x1, .int (4 : Int32)]) X (m_Tre_wordOf e1 _) hP hD kv_Tre_42 ⟨Nat.le_of_ble_eq_true rfl, Nat.le_of_ble_eq_true rfl⟩ 7 rfl rfl rfl hl.1 rfl (Nat.le_of_ble_eq_true rfl) d_Tre_blocksOf_40) hD hS (fun H locs hP hD hS => ?_)
        refine lv_iadd hx hb d_Tre_blocksOf_43 ?_
        refine lv_aload_n hx hb d_Tre_blocksOf_44 rfl (lv_at hl 1 rfl) ?_
        refine lv_aload_n hx hb d_Tre_blocksOf_45 rfl (lv_at hl 1 rfl) ?_
        refine lv_iload_n hx hb d_Tre_blocksOf_46 rfl (lv_at hl 2 rfl) ?_
        refine lv_iconst (v := 1) hx hb d_Tre_blocksOf_47 (by decide) ?_
        obtain ⟨v4, e1, h⟩ := bd_some h
        refine fx_i X (fx_runV (As := [.int x1, .int (1 : Int32)]) X (m_Tre_wordOf e1 _) hP hD kv_Tre_42 ⟨Nat.le_of_ble_eq_true rfl, Nat.le_of_ble_eq_true rfl⟩ 7 rfl rfl rfl hl.1 rfl (Nat.le_of_ble_eq_true rfl) d_Tre_blocksOf_48) hD hS (fun H locs hP hD hS => ?_)
        obtain ⟨v5, e1, h⟩ := bd_some h
        refine fx_i X (fx_runN X (m_FF_blocksBegun e1 _) (As := [.int v4]) hP hD kn_Tre_48 ⟨Nat.le_of_ble_eq_true rfl, Nat.le_of_ble_eq_true rfl⟩ rfl hl.1 rfl (Nat.le_of_ble_eq_true rfl) d_Tre_blocksOf_51) hD hS (fun H locs hP hD hS => ?_)
        obtain ⟨v6, e1, h⟩ := bd_some h
        refine fx_i X (fx_runV (As := [.int v5]) X (m_Tre_nodesFor e1 _) hP hD kv_Tre_51 ⟨Nat.le_of_ble_eq_true rfl, Nat.le_of_ble_eq_true rfl⟩ 7 rfl rfl rfl hl.1 rfl (Nat.le_of_ble_eq_true rfl) d_Tre_blocksOf_54) hD hS (fun H locs hP hD hS => ?_)
        refine lv_iadd hx hb d_Tre_blocksOf_57 ?_
        cases h
        exact fx_iret X hP hD hS d_Tre_blocksOf_58
      · have h := if_t hc h
        refine lv_iload_n hx hb d_Tre_blocksOf_34 rfl (lv_at hl 0 rfl) ?_
        cases h
        exact fx_iret X hP hD hS d_Tre_blocksOf_35
  · have h := if_t hc h
    refine lv_iconst (v := 1) hx hb d_Tre_blocksOf_11 (by decide) ?_
    refine lv_aload_n hx hb d_Tre_blocksOf_12 rfl (lv_at hl 1 rfl) ?_
    refine lv_iload_n hx hb d_Tre_blocksOf_13 rfl (lv_at hl 2 rfl) ?_
    refine lv_iconst (v := 1) hx hb d_Tre_blocksOf_14 (by decide) ?_
    obtain ⟨v7, e1, h⟩ := bd_some h
    refine fx_i X (fx_runV (As := [.int x1, .int (1 : Int32)]) X (m_Tre_wordOf e1 _) hP hD kv_Tre_42 ⟨Nat.le_of_ble_eq_true rfl, Nat.le_of_ble_eq_true rfl⟩ 7 rfl rfl rfl hl.1 rfl (Nat.le_of_ble_eq_true rfl) d_Tre_blocksOf_15) hD hS (fun H locs hP hD hS => ?_)
    refine lv_iadd hx hb d_Tre_blocksOf_18 ?_
    cases h
    exact fx_iret X hP hD hS d_Tre_blocksOf_19
theorem d_Tre_blocksInUse_0 : decode prog_10_method_6_code 0 = .ok (.iconst 0, 1) := by decide +kernel
theorem d_Tre_blocksInUse_1 : decode prog_10_method_6_code 1 = .ok (.istore_n 1, 1) := by decide +kernel
theorem d_Tre_blocksInUse_2 : decode prog_10_method_6_code 2 = .ok (.iconst 1, 1) := by decide +kernel
theorem d_Tre_blocksInUse_3 : decode prog_10_method_6_code 3 = .ok (.istore_n 2, 1) := by decide +kernel
theorem d_Tre_blocksInUse_4 : decode prog_10_method_6_code 4 = .ok (.iload_n 2, 1) := by decide +kernel
theorem d_Tre_blocksInUse_5 : decode prog_10_method_6_code 5 = .ok (.sipush 250, 3) := by decide +kernel
theorem d_Tre_blocksInUse_8 : decode prog_10_method_6_code 8 = .ok (.if_icmp .gt 17, 3) := by decide +kernel
theorem d_Tre_blocksInUse_11 : decode prog_10_method_6_code 11 = .ok (.iload_n 1, 1) := by decide +kernel
theorem d_Tre_blocksInUse_12 : decode prog_10_method_6_code 12 = .ok (.aload_n 0, 1) := by decide +kernel
theorem d_Tre_blocksInUse_13 : decode prog_10_method_6_code 13 = .ok (.iload_n 2, 1) := by decide +kernel
theorem d_Tre_blocksInUse_14 : decode prog_10_method_6_code 14 = .ok (.invokevirtual 54, 3) := by decide +kernel
theorem d_Tre_blocksInUse_17 : decode prog_10_method_6_code 17 = .ok (.iadd, 1) := by decide +kernel
theorem d_Tre_blocksInUse_18 : decode prog_10_method_6_code 18 = .ok (.istore_n 1, 1) := by decide +kernel
theorem d_Tre_blocksInUse_19 : decode prog_10_method_6_code 19 = .ok (.iinc 2 1, 3) := by decide +kernel
theorem d_Tre_blocksInUse_22 : decode prog_10_method_6_code 22 = .ok (.goto (-18), 3) := by decide +kernel
theorem d_Tre_blocksInUse_25 : decode prog_10_method_6_code 25 = .ok (.iload_n 1, 1) := by decide +kernel
theorem d_Tre_blocksInUse_26 : decode prog_10_method_6_code 26 = .ok (.ireturn, 1) := by decide +kernel
set_option maxHeartbeats 4000000 in
set_option maxRecDepth 100000 in
theorem v_Tre_blocksInUse_4 {p : Program} {l : Launch} {e : Env} {s : State} {m : MethodId} {args : Array Value} {below : List Frame} {meth : Method} {c : Code} {D : va_G} {ad : Nat → Nat} {ca : Nat → ClassId} {A : Nat → Prop} {FU : Nat} {q : Int32} {g : St} (X : FX p s m meth c prog_10_method_6_code 3 (some .int) "FlashFiles$Tree" D (tyF ca) A) : ∀ (n : Nat), ∀ (y1 y2 : Int32) (H : Heap) (locs : List Loc) (ls : Array Slot), va_P D cls (wF ad ca g) H → va_D A (wF ad ca g) → va_S A s.heap H locs → lv_has ls 3 [(0, .ref (ad 7)), (1, .int y1), (2, .int y2)] → Tre_blocksInUse_b4 FU n y1 y2 g = some q → W p l e (rmN 5) s m args below meth c H locs 0 0 (MQ below (fxQi D (tyF ca) A (wF ad ca g) q) args s 0 0 A) (F0 m 4 ls []) := by
  have hx := X.1
  have hb := X.2.1
  intro n
  induction n with
  | zero =>
    intro y1 y2 H locs ls hP hD hS hl h
    cases h
  | succ n ih =>
    intro y1 y2 H locs ls hP hD hS hl h
    have h := h
    rw [Tre_blocksInUse_b4.eq_2] at h
    refine lv_iload_n hx hb d_Tre_blocksInUse_4 rfl (lv_at hl 2 rfl) ?_
    refine lv_sipush (v := 250) hx hb d_Tre_blocksInUse_5 (by decide) ?_
    refine lv_icmp_gt (tgt := 25) hx hb d_Tre_blocksInUse_8 (by decide) (fun hc => ?_) (fun hc => ?_)
    · have h := if_t hc h
      refine lv_iload_n hx hb d_Tre_blocksInUse_25 rfl (lv_at hl 1 rfl) ?_
      cases h
      exact fx_iret X hP hD hS d_Tre_blocksInUse_26
    · have h := if_f hc h
      refine lv_iload_n hx hb d_Tre_blocksInUse_11 rfl (lv_at hl 1 rfl) ?_
      refine lv_aload_n hx hb d_Tre_blocksInUse_12 rfl (lv_at hl 0 rfl) ?_
      refine lv_iload_n hx hb d_Tre_blocksInUse_13 rfl (lv_at hl 2 rfl) ?_
      obtain ⟨v1, e1, h⟩ := bd_some h
      refine fx_i X (fx_runV (As := [.int y2]) X (m_Tre_blocksOf e1 _) hP hD kv_Tre_54 ⟨Nat.le_of_ble_eq_true rfl, Nat.le_of_ble_eq_true rfl⟩ 7 rfl rfl rfl hl.1 rfl (Nat.le_of_ble_eq_true rfl) d_Tre_blocksInUse_14) hD hS (fun H locs hP hD hS => ?_)
      refine lv_iadd hx hb d_Tre_blocksInUse_17 ?_
      refine lv_istore_n hx hb d_Tre_blocksInUse_18 rfl hl (by decide) rfl (fun ls hl => ?_)
      have hl : lv_has ls 3 [(1, .int (y1 + v1)), (0, .ref (ad 7)), (2, .int y2)] := hl
      refine lv_iinc (k := 2) (v := (y2 + (1 : Int32))) hx hb d_Tre_blocksInUse_19 hl rfl (oi_1 _) (by decide) rfl (fun ls hl => ?_)
      have hl : lv_has ls 3 [(2, .int (y2 + (1 : Int32))), (1, .int (y1 + v1)), (0, .ref (ad 7))] := hl
      refine lv_goto (tgt := 4) hx hb d_Tre_blocksInUse_22 (by decide) ?_
      exact ih _ _ _ _ _ hP hD hS (lv_sub hl [2, 1, 0] rfl) h
set_option maxHeartbeats 4000000 in
set_option maxRecDepth 100000 in
theorem m_Tre_blocksInUse {l : Launch} {D : va_G} {ad : Nat → Nat} {ca : Nat → ClassId} {FU : Nat} {g : St} {q : Int32} (h : Tre_blocksInUse FU  g = some q) : CI l ⟨"FlashFiles$Tree", "blocksInUse", "()I"⟩ prog_10_method_6_code 3 5 (some .int) D (tyF ca) (wF ad ca g) [.ref (ad 7)] q (wF ad ca g) := by
  intro sz
  refine Met.fx (Qc := fun A => fxQi D (tyF ca) A (wF ad ca g) q) (by decide) (Nat.le_of_ble_eq_true rfl) ?_
  intro p e s m below meth c A ls X hP hD hl
  have hl : lv_has ls 3 [(0, .ref (ad 7))] := hl
  have hS : va_S A s.heap s.heap [] := va_S.rf
  have hx := X.1
  have hb := X.2.1
  unfold Tre_blocksInUse at h
  refine lv_iconst (v := 0) hx hb d_Tre_blocksInUse_0 (by decide) ?_
  refine lv_istore_n hx hb d_Tre_blocksInUse_1 rfl hl (by decide) rfl (fun ls hl => ?_)
  have hl : lv_has ls 3 [(1, .int (0 : Int32)), (0, .ref (ad 7))] := hl
  refine lv_iconst (v := 1) hx hb d_Tre_blocksInUse_2 (by decide) ?_
  refine lv_istore_n hx hb d_Tre_blocksInUse_3 rfl hl (by decide) rfl (fun ls hl => ?_)
  have hl : lv_has ls 3 [(2, .int (1 : Int32)), (1, .int (0 : Int32)), (0, .ref (ad 7))] := hl
  exact v_Tre_blocksInUse_4 X  _ _ _ _ _ _ hP hD hS (lv_sub hl [2, 1, 0] rfl) h
theorem d_Tre_putNew_0 : decode prog_10_method_9_code 0 = .ok (.aload_n 0, 1) := by decide +kernel
theorem d_Tre_putNew_1 : decode prog_10_method_9_code 1 = .ok (.getfield 23, 3) := by decide +kernel
theorem d_Tre_putNew_4 : decode prog_10_method_9_code 4 = .ok (.iconst 0, 1) := by decide +kernel
theorem d_Tre_putNew_5 : decode prog_10_method_9_code 5 = .ok (.invokestatic 73, 3) := by decide +kernel
theorem d_Tre_putNew_8 : decode prog_10_method_9_code 8 = .ok (.aload_n 0, 1) := by decide +kernel
theorem d_Tre_putNew_9 : decode prog_10_method_9_code 9 = .ok (.getfield 23, 3) := by decide +kernel
theorem d_Tre_putNew_12 : decode prog_10_method_9_code 12 = .ok (.iconst 0, 1) := by decide +kernel
theorem d_Tre_putNew_13 : decode prog_10_method_9_code 13 = .ok (.iload_n 2, 1) := by decide +kernel
theorem d_Tre_putNew_14 : decode prog_10_method_9_code 14 = .ok (.iastore, 1) := by decide +kernel
theorem d_Tre_putNew_15 : decode prog_10_method_9_code 15 = .ok (.aload_n 0, 1) := by decide +kernel
theorem d_Tre_putNew_16 : decode prog_10_method_9_code 16 = .ok (.getfield 23, 3) := by decide +kernel
theorem d_Tre_putNew_19 : decode prog_10_method_9_code 19 = .ok (.iconst 2, 1) := by decide +kernel
theorem d_Tre_putNew_20 : decode prog_10_method_9_code 20 = .ok (.iload_n 3, 1) := by decide +kernel
theorem d_Tre_putNew_21 : decode prog_10_method_9_code 21 = .ok (.iastore, 1) := by decide +kernel
theorem d_Tre_putNew_22 : decode prog_10_method_9_code 22 = .ok (.aload_n 0, 1) := by decide +kernel
theorem d_Tre_putNew_23 : decode prog_10_method_9_code 23 = .ok (.getfield 23, 3) := by decide +kernel
theorem d_Tre_putNew_26 : decode prog_10_method_9_code 26 = .ok (.iconst 3, 1) := by decide +kernel
theorem d_Tre_putNew_27 : decode prog_10_method_9_code 27 = .ok (.iload_n 2, 1) := by decide +kernel
theorem d_Tre_putNew_28 : decode prog_10_method_9_code 28 = .ok (.iconst 1, 1) := by decide +kernel
theorem d_Tre_putNew_29 : decode prog_10_method_9_code 29 = .ok (.if_icmp .ne 7, 3) := by decide +kernel
theorem d_Tre_putNew_32 : decode prog_10_method_9_code 32 = .ok (.iconst 1, 1) := by decide +kernel
theorem d_Tre_putNew_33 : decode prog_10_method_9_code 33 = .ok (.goto 4, 3) := by decide +kernel
theorem d_Tre_putNew_36 : decode prog_10_method_9_code 36 = .ok (.iconst 0, 1) := by decide +kernel
theorem d_Tre_putNew_37 : decode prog_10_method_9_code 37 = .ok (.iastore, 1) := by decide +kernel
theorem d_Tre_putNew_38 : decode prog_10_method_9_code 38 = .ok (.aload_n 0, 1) := by decide +kernel
theorem d_Tre_putNew_39 : decode prog_10_method_9_code 39 = .ok (.getfield 23, 3) := by decide +kernel
theorem d_Tre_putNew_42 : decode prog_10_method_9_code 42 = .ok (.bipush 61, 2) := by decide +kernel
theorem d_Tre_putNew_44 : decode prog_10_method_9_code 44 = .ok (.iload_n 1, 1) := by decide +kernel
theorem d_Tre_putNew_45 : decode prog_10_method_9_code 45 = .ok (.iastore, 1) := by decide +kernel
theorem d_Tre_putNew_46 : decode prog_10_method_9_code 46 = .ok (.aload_n 0, 1) := by decide +kernel
theorem d_Tre_putNew_47 : decode prog_10_method_9_code 47 = .ok (.getfield 19, 3) := by decide +kernel
theorem d_Tre_putNew_50 : decode prog_10_method_9_code 50 = .ok (.iload_n 1, 1) := by decide +kernel
theorem d_Tre_putNew_51 : decode prog_10_method_9_code 51 = .ok (.aload_n 0, 1) := by decide +kernel
theorem d_Tre_putNew_52 : decode prog_10_method_9_code 52 = .ok (.getfield 23, 3) := by decide +kernel
theorem d_Tre_putNew_55 : decode prog_10_method_9_code 55 = .ok (.iconst 0, 1) := by decide +kernel
theorem d_Tre_putNew_56 : decode prog_10_method_9_code 56 = .ok (.invokevirtual 79, 3) := by decide +kernel
theorem d_Tre_putNew_59 : decode prog_10_method_9_code 59 = .ok (.return_, 1) := by decide +kernel
set_option maxHeartbeats 4000000 in
set_option maxRecDepth 100000 in
theorem v_Tre_putNew_37 {p : Program} {l : Launch} {e : Env} {s : State} {m : MethodId} {args : Array Value} {below : List Frame} {meth : Method} {c : Code} {D : va_G} {ad : Nat → Nat} {ca : Nat → ClassId} {A : Nat → Prop} {FU : Nat} {q : St} (X : FX p s m meth c prog_10_method_9_code 4 none "FlashFiles$Tree" D (tyF ca) A) {y1 : Int32} {z0 : Int32} {z1 : Int32} {g : St} {H : Heap} {locs : List Loc} {ls : Array Slot} (hP : va_P D cls (wF ad ca g) H) (hD : va_D A (wF ad ca g)) (hS : va_S A s.heap H locs) (hl : lv_has ls 4 [(0, .ref (ad 7)), (1, .int y1)]) (h : Tre_putNew_b37 FU y1 z0 z1 g = some q) : W p l e (rmN 4) s m args below meth c H locs 0 0 (MQ below (fxQv D (tyF ca) A (wF ad ca q)) args s 0 0 A) (F0 m 37 ls [.int z0, .int z1, .ref (ad 28)]) := by
  have hx := X.1
  have hb := X.2.1
  unfold Tre_putNew_b37 at h
  obtain ⟨g1, e1, h⟩ := bd_some h
  refine sF_17 X hP hD hS e1 d_Tre_putNew_37 (fun H locs hP hD hS => ?_)
  refine lv_aload_n hx hb d_Tre_putNew_38 rfl (lv_at hl 0 rfl) ?_
  refine gF_tre_inode X hP d_Tre_putNew_39 ?_
  refine lv_bipush (v := 61) hx hb d_Tre_putNew_42 (by decide) ?_
  refine lv_iload_n hx hb d_Tre_putNew_44 rfl (lv_at hl 1 rfl) ?_
  obtain ⟨g2, e1, h⟩ := bd_some h
  refine sF_17 X hP hD hS e1 d_Tre_putNew_45 (fun H locs hP hD hS => ?_)
  refine lv_aload_n hx hb d_Tre_putNew_46 rfl (lv_at hl 0 rfl) ?_
  refine gF_tre_log X hP d_Tre_putNew_47 ?_
  refine lv_iload_n hx hb d_Tre_putNew_50 rfl (lv_at hl 1 rfl) ?_
  refine lv_aload_n hx hb d_Tre_putNew_51 rfl (lv_at hl 0 rfl) ?_
  refine gF_tre_inode X hP d_Tre_putNew_52 ?_
  refine lv_iconst (v := 0) hx hb d_Tre_putNew_55 (by decide) ?_
  obtain ⟨p3, e1, h⟩ := bd_some h
  refine fx_v X (fx_runV (As := [.int y1, .ref (ad 28), .int (0 : Int32)]) X (m_Log_putNode_17 e1 _) hP hD kv_Tre_79 ⟨Nat.le_of_ble_eq_true rfl, Nat.le_of_ble_eq_true rfl⟩ 5 rfl rfl rfl hl.1 rfl (Nat.le_of_ble_eq_true rfl) d_Tre_putNew_56) hD hS (fun H locs hP hD hS => ?_)
  cases h
  exact fx_vret X hP hD hS d_Tre_putNew_59
set_option maxHeartbeats 4000000 in
set_option maxRecDepth 100000 in
theorem m_Tre_putNew {l : Launch} {D : va_G} {ad : Nat → Nat} {ca : Nat → ClassId} {FU : Nat} {x1 : Int32} {x2 : Int32} {x3 : Int32} {g : St} {q : St} (h : Tre_putNew FU x1 x2 x3 g = some q) : CV l ⟨"FlashFiles$Tree", "putNew", "(III)V"⟩ prog_10_method_9_code 4 4 D (tyF ca) (wF ad ca g) [.ref (ad 7), .int x1, .int x2, .int x3] (wF ad ca q) := by
  intro sz
  refine Met.fx (Qc := fun A => fxQv D (tyF ca) A (wF ad ca q)) (by decide) (Nat.le_of_ble_eq_true rfl) ?_
  intro p e s m below meth c A ls X hP hD hl
  have hl : lv_has ls 4 [(0, .ref (ad 7)), (1, .int x1), (2, .int x2), (3, .int x3)] := hl
  have hS : va_S A s.heap s.heap [] := va_S.rf
  have hx := X.1
  have hb := X.2.1
  unfold Tre_putNew at h
  refine lv_aload_n hx hb d_Tre_putNew_0 rfl (lv_at hl 0 rfl) ?_
  refine gF_tre_inode X hP d_Tre_putNew_1 ?_
  refine lv_iconst (v := 0) hx hb d_Tre_putNew_4 (by decide) ?_
  obtain ⟨p4, e1, h⟩ := bd_some h
  refine fx_v X (fx_runS X (m_Arr_fill_0_17 e1 _) (As := [.ref (ad 28), .int (0 : Int32)]) hP hD ks_Tre_73 ⟨Nat.le_of_ble_eq_true rfl, Nat.le_of_ble_eq_true rfl⟩ rfl hl.1 rfl (Nat.le_of_ble_eq_true rfl) d_Tre_putNew_5) hD hS (fun H locs hP hD hS => ?_)
  refine lv_aload_n hx hb d_Tre_putNew_8 rfl (lv_at hl 0 rfl) ?_
  refine gF_tre_inode X hP d_Tre_putNew_9 ?_
  refine lv_iconst (v := 0) hx hb d_Tre_putNew_12 (by decide) ?_
  refine lv_iload_n hx hb d_Tre_putNew_13 rfl (lv_at hl 2 rfl) ?_
  obtain ⟨g5, e1, h⟩ := bd_some h
  refine sF_17 X hP hD hS e1 d_Tre_putNew_14 (fun H locs hP hD hS => ?_)
  refine lv_aload_n hx hb d_Tre_putNew_15 rfl (lv_at hl 0 rfl) ?_
  refine gF_tre_inode X hP d_Tre_putNew_16 ?_
  refine lv_iconst (v := 2) hx hb d_Tre_putNew_19 (by decide) ?_
  refine lv_iload_n hx hb d_Tre_putNew_20 rfl (lv_at hl 3 rfl) ?_
  obtain ⟨g6, e1, h⟩ := bd_some h
  refine sF_17 X hP hD hS e1 d_Tre_putNew_21 (fun H locs hP hD hS => ?_)
  refine lv_aload_n hx hb d_Tre_putNew_22 rfl (lv_at hl 0 rfl) ?_
  refine gF_tre_inode X hP d_Tre_putNew_23 ?_
  refine lv_iconst (v := 3) hx hb d_Tre_putNew_26 (by decide) ?_
  refine lv_iload_n hx hb d_Tre_putNew_27 rfl (lv_at hl 2 rfl) ?_
  refine lv_iconst (v := 1) hx hb d_Tre_putNew_28 (by decide) ?_
  refine lv_icmp_ne (tgt := 36) hx hb d_Tre_putNew_29 (by decide) (fun hc => ?_) (fun hc => ?_)
  · have h := if_f hc h
    refine lv_iconst (v := 0) hx hb d_Tre_putNew_36 (by decide) ?_
    exact v_Tre_putNew_37 X  hP hD hS (lv_sub hl [0, 1] rfl) h
  · have h := if_t hc h
    refine lv_iconst (v := 1) hx hb d_Tre_putNew_32 (by decide) ?_
    refine lv_goto (tgt := 37) hx hb d_Tre_putNew_33 (by decide) ?_
    exact v_Tre_putNew_37 X  hP hD hS (lv_sub hl [0, 1] rfl) h
theorem d_Tre_makeRoot_0 : decode prog_10_method_7_code 0 = .ok (.aload_n 0, 1) := by decide +kernel
theorem d_Tre_makeRoot_1 : decode prog_10_method_7_code 1 = .ok (.iconst 1, 1) := by decide +kernel
theorem d_Tre_makeRoot_2 : decode prog_10_method_7_code 2 = .ok (.iconst 2, 1) := by decide +kernel
theorem d_Tre_makeRoot_3 : decode prog_10_method_7_code 3 = .ok (.iconst 0, 1) := by decide +kernel
theorem d_Tre_makeRoot_4 : decode prog_10_method_7_code 4 = .ok (.invokevirtual 57, 3) := by decide +kernel
theorem d_Tre_makeRoot_7 : decode prog_10_method_7_code 7 = .ok (.return_, 1) := by decide +kernel
set_option maxHeartbeats 4000000 in
set_option maxRecDepth 100000 in
theorem m_Tre_makeRoot {l : Launch} {D : va_G} {ad : Nat → Nat} {ca : Nat → ClassId} {FU : Nat} {g : St} {q : St} (h : Tre_makeRoot FU  g = some q) : CV l ⟨"FlashFiles$Tree", "makeRoot", "()V"⟩ prog_10_method_7_code 1 5 D (tyF ca) (wF ad ca g) [.ref (ad 7)] (wF ad ca q) := by
  intro sz
  refine Met.fx (Qc := fun A => fxQv D (tyF ca) A (wF ad ca q)) (by decide) (Nat.le_of_ble_eq_true rfl) ?_
  intro p e s m below meth c A ls X hP hD hl
  have hl : lv_has ls 1 [(0, .ref (ad 7))] := hl
  have hS : va_S A s.heap s.heap [] := va_S.rf
  have hx := X.1
  have hb := X.2.1
  unfold Tre_makeRoot at h
  refine lv_aload_n hx hb d_Tre_makeRoot_0 rfl (lv_at hl 0 rfl) ?_
  refine lv_iconst (v := 1) hx hb d_Tre_makeRoot_1 (by decide) ?_
  refine lv_iconst (v := 2) hx hb d_Tre_makeRoot_2 (by decide) ?_
  refine lv_iconst (v := 0) hx hb d_Tre_makeRoot_3 (by decide) ?_
  obtain ⟨p1, e1, h⟩ := bd_some h
  refine fx_v X (fx_runV (As := [.int (1 : Int32), .int (2 : Int32), .int (0 : Int32)]) X (m_Tre_putNew e1 _) hP hD kv_Tre_57 ⟨Nat.le_of_ble_eq_true rfl, Nat.le_of_ble_eq_true rfl⟩ 7 rfl rfl rfl hl.1 rfl (Nat.le_of_ble_eq_true rfl) d_Tre_makeRoot_4) hD hS (fun H locs hP hD hS => ?_)
  cases h
  exact fx_vret X hP hD hS d_Tre_makeRoot_7
theorem d_Tre_putWord_0 : decode prog_10_method_10_code 0 = .ok (.aload_n 0, 1) := by decide +kernel
theorem d_Tre_putWord_1 : decode prog_10_method_10_code 1 = .ok (.getfield 9, 3) := by decide +kernel
theorem d_Tre_putWord_4 : decode prog_10_method_10_code 4 = .ok (.aload_n 0, 1) := by decide +kernel
theorem d_Tre_putWord_5 : decode prog_10_method_10_code 5 = .ok (.getfield 15, 3) := by decide +kernel
theorem d_Tre_putWord_8 : decode prog_10_method_10_code 8 = .ok (.iload_n 1, 1) := by decide +kernel
theorem d_Tre_putWord_9 : decode prog_10_method_10_code 9 = .ok (.invokevirtual 30, 3) := by decide +kernel
theorem d_Tre_putWord_12 : decode prog_10_method_10_code 12 = .ok (.aload_n 0, 1) := by decide +kernel
theorem d_Tre_putWord_13 : decode prog_10_method_10_code 13 = .ok (.getfield 23, 3) := by decide +kernel
theorem d_Tre_putWord_16 : decode prog_10_method_10_code 16 = .ok (.invokevirtual 84, 3) := by decide +kernel
theorem d_Tre_putWord_19 : decode prog_10_method_10_code 19 = .ok (.aload_n 0, 1) := by decide +kernel
theorem d_Tre_putWord_20 : decode prog_10_method_10_code 20 = .ok (.getfield 23, 3) := by decide +kernel
theorem d_Tre_putWord_23 : decode prog_10_method_10_code 23 = .ok (.iload_n 2, 1) := by decide +kernel
theorem d_Tre_putWord_24 : decode prog_10_method_10_code 24 = .ok (.iload_n 3, 1) := by decide +kernel
theorem d_Tre_putWord_25 : decode prog_10_method_10_code 25 = .ok (.iastore, 1) := by decide +kernel
theorem d_Tre_putWord_26 : decode prog_10_method_10_code 26 = .ok (.aload_n 0, 1) := by decide +kernel
theorem d_Tre_putWord_27 : decode prog_10_method_10_code 27 = .ok (.getfield 19, 3) := by decide +kernel
theorem d_Tre_putWord_30 : decode prog_10_method_10_code 30 = .ok (.iload_n 1, 1) := by decide +kernel
theorem d_Tre_putWord_31 : decode prog_10_method_10_code 31 = .ok (.aload_n 0, 1) := by decide +kernel
theorem d_Tre_putWord_32 : decode prog_10_method_10_code 32 = .ok (.getfield 23, 3) := by decide +kernel
theorem d_Tre_putWord_35 : decode prog_10_method_10_code 35 = .ok (.iconst 0, 1) := by decide +kernel
theorem d_Tre_putWord_36 : decode prog_10_method_10_code 36 = .ok (.invokevirtual 79, 3) := by decide +kernel
theorem d_Tre_putWord_39 : decode prog_10_method_10_code 39 = .ok (.return_, 1) := by decide +kernel
set_option maxHeartbeats 4000000 in
set_option maxRecDepth 100000 in
theorem m_Tre_putWord {l : Launch} {D : va_G} {ad : Nat → Nat} {ca : Nat → ClassId} {FU : Nat} {x1 : Int32} {x2 : Int32} {x3 : Int32} {g : St} {q : St} (h : Tre_putWord FU x1 x2 x3 g = some q) : CV l ⟨"FlashFiles$Tree", "putWord", "(III)V"⟩ prog_10_method_10_code 4 4 D (tyF ca) (wF ad ca g) [.ref (ad 7), .int x1, .int x2, .int x3] (wF ad ca q) := by
  intro sz
  refine Met.fx (Qc := fun A => fxQv D (tyF ca) A (wF ad ca q)) (by decide) (Nat.le_of_ble_eq_true rfl) ?_
  intro p e s m below meth c A ls X hP hD hl
  have hl : lv_has ls 4 [(0, .ref (ad 7)), (1, .int x1), (2, .int x2), (3, .int x3)] := hl
  have hS : va_S A s.heap s.heap [] := va_S.rf
  have hx := X.1
  have hb := X.2.1
  unfold Tre_putWord at h
  refine lv_aload_n hx hb d_Tre_putWord_0 rfl (lv_at hl 0 rfl) ?_
  refine gF_tre_device X hP d_Tre_putWord_1 ?_
  refine lv_aload_n hx hb d_Tre_putWord_4 rfl (lv_at hl 0 rfl) ?_
  refine gF_tre_table X hP d_Tre_putWord_5 ?_
  refine lv_iload_n hx hb d_Tre_putWord_8 rfl (lv_at hl 1 rfl) ?_
  obtain ⟨v1, e1, h⟩ := bd_some h
  refine fx_i X (fx_runV (As := [.int x1]) X (m_Tab_placeOf e1 _) hP hD kv_Tre_30 ⟨Nat.le_of_ble_eq_true rfl, Nat.le_of_ble_eq_true rfl⟩ 4 rfl rfl rfl hl.1 rfl (Nat.le_of_ble_eq_true rfl) d_Tre_putWord_9) hD hS (fun H locs hP hD hS => ?_)
  refine lv_aload_n hx hb d_Tre_putWord_12 rfl (lv_at hl 0 rfl) ?_
  refine gF_tre_inode X hP d_Tre_putWord_13 ?_
  obtain ⟨p2, e1, h⟩ := bd_some h
  refine fx_v X (fx_runV (As := [.int v1, .ref (ad 28)]) X (m_Dev_load_17 e1 _) hP hD kv_Tre_84 ⟨Nat.le_of_ble_eq_true rfl, Nat.le_of_ble_eq_true rfl⟩ 3 rfl rfl rfl hl.1 rfl (Nat.le_of_ble_eq_true rfl) d_Tre_putWord_16) hD hS (fun H locs hP hD hS => ?_)
  refine lv_aload_n hx hb d_Tre_putWord_19 rfl (lv_at hl 0 rfl) ?_
  refine gF_tre_inode X hP d_Tre_putWord_20 ?_
  refine lv_iload_n hx hb d_Tre_putWord_23 rfl (lv_at hl 2 rfl) ?_
  refine lv_iload_n hx hb d_Tre_putWord_24 rfl (lv_at hl 3 rfl) ?_
  obtain ⟨g3, e1, h⟩ := bd_some h
  refine sF_17 X hP hD hS e1 d_Tre_putWord_25 (fun H locs hP hD hS => ?_)
  refine lv_aload_n hx hb d_Tre_putWord_26 rfl (lv_at hl 0 rfl) ?_
  refine gF_tre_log X hP d_Tre_putWord_27 ?_
  refine lv_iload_n hx hb d_Tre_putWord_30 rfl (lv_at hl 1 rfl) ?_
  refine lv_aload_n hx hb d_Tre_putWord_31 rfl (lv_at hl 0 rfl) ?_
  refine gF_tre_inode X hP d_Tre_putWord_32 ?_
  refine lv_iconst (v := 0) hx hb d_Tre_putWord_35 (by decide) ?_
  obtain ⟨p4, e1, h⟩ := bd_some h
  refine fx_v X (fx_runV (As := [.int x1, .ref (ad 28), .int (0 : Int32)]) X (m_Log_putNode_17 e1 _) hP hD kv_Tre_79 ⟨Nat.le_of_ble_eq_true rfl, Nat.le_of_ble_eq_true rfl⟩ 5 rfl rfl rfl hl.1 rfl (Nat.le_of_ble_eq_true rfl) d_Tre_putWord_36) hD hS (fun H locs hP hD hS => ?_)
  cases h
  exact fx_vret X hP hD hS d_Tre_putWord_39
theorem d_Tre_changeLinks_0 : decode prog_10_method_11_code 0 = .ok (.aload_n 0, 1) := by decide +kernel
theorem d_Tre_changeLinks_1 : decode prog_10_method_11_code 1 = .ok (.iload_n 1, 1) := by decide +kernel
theorem d_Tre_changeLinks_2 : decode prog_10_method_11_code 2 = .ok (.iconst 2, 1) := by decide +kernel
theorem d_Tre_changeLinks_3 : decode prog_10_method_11_code 3 = .ok (.invokevirtual 42, 3) := by decide +kernel
theorem d_Tre_changeLinks_6 : decode prog_10_method_11_code 6 = .ok (.iload_n 2, 1) := by decide +kernel
theorem d_Tre_changeLinks_7 : decode prog_10_method_11_code 7 = .ok (.iadd, 1) := by decide +kernel
theorem d_Tre_changeLinks_8 : decode prog_10_method_11_code 8 = .ok (.istore_n 3, 1) := by decide +kernel
theorem d_Tre_changeLinks_9 : decode prog_10_method_11_code 9 = .ok (.aload_n 0, 1) := by decide +kernel
theorem d_Tre_changeLinks_10 : decode prog_10_method_11_code 10 = .ok (.iload_n 1, 1) := by decide +kernel
theorem d_Tre_changeLinks_11 : decode prog_10_method_11_code 11 = .ok (.iconst 2, 1) := by decide +kernel
theorem d_Tre_changeLinks_12 : decode prog_10_method_11_code 12 = .ok (.iload_n 3, 1) := by decide +kernel
theorem d_Tre_changeLinks_13 : decode prog_10_method_11_code 13 = .ok (.invokevirtual 88, 3) := by decide +kernel
theorem d_Tre_changeLinks_16 : decode prog_10_method_11_code 16 = .ok (.aload_n 0, 1) := by decide +kernel
theorem d_Tre_changeLinks_17 : decode prog_10_method_11_code 17 = .ok (.getfield 15, 3) := by decide +kernel
theorem d_Tre_changeLinks_20 : decode prog_10_method_11_code 20 = .ok (.iload_n 1, 1) := by decide +kernel
theorem d_Tre_changeLinks_21 : decode prog_10_method_11_code 21 = .ok (.invokevirtual 65, 3) := by decide +kernel
theorem d_Tre_changeLinks_24 : decode prog_10_method_11_code 24 = .ok (.iload_n 3, 1) := by decide +kernel
theorem d_Tre_changeLinks_25 : decode prog_10_method_11_code 25 = .ok (.ireturn, 1) := by decide +kernel
set_option maxHeartbeats 4000000 in
set_option maxRecDepth 100000 in
theorem m_Tre_changeLinks {l : Launch} {D : va_G} {ad : Nat → Nat} {ca : Nat → ClassId} {FU : Nat} {x1 : Int32} {x2 : Int32} {g : St} {q : Int32 × St} (h : Tre_changeLinks FU x1 x2 g = some q) : CI l ⟨"FlashFiles$Tree", "changeLinks", "(II)I"⟩ prog_10_method_11_code 4 5 (some .int) D (tyF ca) (wF ad ca g) [.ref (ad 7), .int x1, .int x2] q.1 (wF ad ca q.2) := by
  intro sz
  refine Met.fx (Qc := fun A => fxQi D (tyF ca) A (wF ad ca q.2) q.1) (by decide) (Nat.le_of_ble_eq_true rfl) ?_
  intro p e s m below meth c A ls X hP hD hl
  have hl : lv_has ls 4 [(0, .ref (ad 7)), (1, .int x1), (2, .int x2)] := hl
  have hS : va_S A s.heap s.heap [] := va_S.rf
  have hx := X.1
  have hb := X.2.1
  unfold Tre_changeLinks at h
  refine lv_aload_n hx hb d_Tre_changeLinks_0 rfl (lv_at hl 0 rfl) ?_
  refine lv_iload_n hx hb d_Tre_changeLinks_1 rfl (lv_at hl 1 rfl) ?_
  refine lv_iconst (v := 2) hx hb d_Tre_changeLinks_2 (by decide) ?_
  obtain ⟨v1, e1, h⟩ := bd_some h
  refine fx_i X (fx_runV (As := [.int x1, .int (2 : Int32)]) X (m_Tre_wordOf e1 _) hP hD kv_Tre_42 ⟨Nat.le_of_ble_eq_true rfl, Nat.le_of_ble_eq_true rfl⟩ 7 rfl rfl rfl hl.1 rfl (Nat.le_of_ble_eq_true rfl) d_Tre_changeLinks_3) hD hS (fun H locs hP hD hS => ?_)
  refine lv_iload_n hx hb d_Tre_changeLinks_6 rfl (lv_at hl 2 rfl) ?_
  refine lv_iadd hx hb d_Tre_changeLinks_7 ?_
  refine lv_istore_n hx hb d_Tre_changeLinks_8 rfl hl (by decide) rfl (fun ls hl => ?_)
  have hl : lv_has ls 4 [(3, .int (v1 + x2)), (0, .ref (ad 7)), (1, .int x1), (2, .int x2)] := hl
  refine lv_aload_n hx hb d_Tre_changeLinks_9 rfl (lv_at hl 1 rfl) ?_
  refine lv_iload_n hx hb d_Tre_changeLinks_10 rfl (lv_at hl 2 rfl) ?_
  refine lv_iconst (v := 2) hx hb d_Tre_changeLinks_11 (by decide) ?_
  refine lv_iload_n hx hb d_Tre_changeLinks_12 rfl (lv_at hl 0 rfl) ?_
  obtain ⟨p2, e1, h⟩ := bd_some h
  refine fx_v X (fx_runV (As := [.int x1, .int (2 : Int32), .int (v1 + x2)]) X (m_Tre_putWord e1 _) hP hD kv_Tre_88 ⟨Nat.le_of_ble_eq_true rfl, Nat.le_of_ble_eq_true rfl⟩ 7 rfl rfl rfl hl.1 rfl (Nat.le_of_ble_eq_true rfl) d_Tre_changeLinks_13) hD hS (fun H locs hP hD hS => ?_)
  refine lv_aload_n hx hb d_Tre_changeLinks_16 rfl (lv_at hl 1 rfl) ?_
  refine gF_tre_table X hP d_Tre_changeLinks_17 ?_
  refine lv_iload_n hx hb d_Tre_changeLinks_20 rfl (lv_at hl 2 rfl) ?_
  obtain ⟨p3, e1, h⟩ := bd_some h
  refine fx_v X (fx_runV (As := [.int x1]) X (m_Tab_stir e1 _) hP hD kv_Tre_65 ⟨Nat.le_of_ble_eq_true rfl, Nat.le_of_ble_eq_true rfl⟩ 4 rfl rfl rfl hl.1 rfl (Nat.le_of_ble_eq_true rfl) d_Tre_changeLinks_21) hD hS (fun H locs hP hD hS => ?_)
  refine lv_iload_n hx hb d_Tre_changeLinks_24 rfl (lv_at hl 0 rfl) ?_
  cases h
  exact fx_iret X hP hD hS d_Tre_changeLinks_25
theorem d_Tre_moved_0 : decode prog_10_method_12_code 0 = .ok (.aload_n 0, 1) := by decide +kernel
theorem d_Tre_moved_1 : decode prog_10_method_12_code 1 = .ok (.iload_n 1, 1) := by decide +kernel
theorem d_Tre_moved_2 : decode prog_10_method_12_code 2 = .ok (.invokevirtual 45, 3) := by decide +kernel
theorem d_Tre_moved_5 : decode prog_10_method_12_code 5 = .ok (.iconst 1, 1) := by decide +kernel
theorem d_Tre_moved_6 : decode prog_10_method_12_code 6 = .ok (.if_icmp .ne 14, 3) := by decide +kernel
theorem d_Tre_moved_9 : decode prog_10_method_12_code 9 = .ok (.aload_n 0, 1) := by decide +kernel
theorem d_Tre_moved_10 : decode prog_10_method_12_code 10 = .ok (.getfield 15, 3) := by decide +kernel
theorem d_Tre_moved_13 : decode prog_10_method_12_code 13 = .ok (.iload_n 1, 1) := by decide +kernel
theorem d_Tre_moved_14 : decode prog_10_method_12_code 14 = .ok (.invokevirtual 65, 3) := by decide +kernel
theorem d_Tre_moved_17 : decode prog_10_method_12_code 17 = .ok (.goto 20, 3) := by decide +kernel
theorem d_Tre_moved_20 : decode prog_10_method_12_code 20 = .ok (.aload_n 0, 1) := by decide +kernel
theorem d_Tre_moved_21 : decode prog_10_method_12_code 21 = .ok (.iload_n 1, 1) := by decide +kernel
theorem d_Tre_moved_22 : decode prog_10_method_12_code 22 = .ok (.iconst 2, 1) := by decide +kernel
theorem d_Tre_moved_23 : decode prog_10_method_12_code 23 = .ok (.invokevirtual 42, 3) := by decide +kernel
theorem d_Tre_moved_26 : decode prog_10_method_12_code 26 = .ok (.iload_n 2, 1) := by decide +kernel
theorem d_Tre_moved_27 : decode prog_10_method_12_code 27 = .ok (.if_icmp .eq 10, 3) := by decide +kernel
theorem d_Tre_moved_30 : decode prog_10_method_12_code 30 = .ok (.aload_n 0, 1) := by decide +kernel
theorem d_Tre_moved_31 : decode prog_10_method_12_code 31 = .ok (.iload_n 1, 1) := by decide +kernel
theorem d_Tre_moved_32 : decode prog_10_method_12_code 32 = .ok (.iconst 2, 1) := by decide +kernel
theorem d_Tre_moved_33 : decode prog_10_method_12_code 33 = .ok (.iload_n 2, 1) := by decide +kernel
theorem d_Tre_moved_34 : decode prog_10_method_12_code 34 = .ok (.invokevirtual 88, 3) := by decide +kernel
theorem d_Tre_moved_37 : decode prog_10_method_12_code 37 = .ok (.return_, 1) := by decide +kernel
set_option maxHeartbeats 4000000 in
set_option maxRecDepth 100000 in
theorem m_Tre_moved {l : Launch} {D : va_G} {ad : Nat → Nat} {ca : Nat → ClassId} {FU : Nat} {x1 : Int32} {x2 : Int32} {g : St} {q : St} (h : Tre_moved FU x1 x2 g = some q) : CV l ⟨"FlashFiles$Tree", "moved", "(II)V"⟩ prog_10_method_12_code 3 5 D (tyF ca) (wF ad ca g) [.ref (ad 7), .int x1, .int x2] (wF ad ca q) := by
  intro sz
  refine Met.fx (Qc := fun A => fxQv D (tyF ca) A (wF ad ca q)) (by decide) (Nat.le_of_ble_eq_true rfl) ?_
  intro p e s m below meth c A ls X hP hD hl
  have hl : lv_has ls 3 [(0, .ref (ad 7)), (1, .int x1), (2, .int x2)] := hl
  have hS : va_S A s.heap s.heap [] := va_S.rf
  have hx := X.1
  have hb := X.2.1
  unfold Tre_moved at h
  refine lv_aload_n hx hb d_Tre_moved_0 rfl (lv_at hl 0 rfl) ?_
  refine lv_iload_n hx hb d_Tre_moved_1 rfl (lv_at hl 1 rfl) ?_
  obtain ⟨v1, e1, h⟩ := bd_some h
  refine fx_i X (fx_runV (As := [.int x1]) X (m_Tre_kindOf e1 _) hP hD kv_Tre_45 ⟨Nat.le_of_ble_eq_true rfl, Nat.le_of_ble_eq_true rfl⟩ 7 rfl rfl rfl hl.1 rfl (Nat.le_of_ble_eq_true rfl) d_Tre_moved_2) hD hS (fun H locs hP hD hS => ?_)
  refine lv_iconst (v := 1) hx hb d_Tre_moved_5 (by decide) ?_
  refine lv_icmp_ne (tgt := 20) hx hb d_Tre_moved_6 (by decide) (fun hc => ?_) (fun hc => ?_)
  · have h := if_f hc h
    refine lv_aload_n hx hb d_Tre_moved_20 rfl (lv_at hl 0 rfl) ?_
    refine lv_iload_n hx hb d_Tre_moved_21 rfl (lv_at hl 1 rfl) ?_
    refine lv_iconst (v := 2) hx hb d_Tre_moved_22 (by decide) ?_
    obtain ⟨v2, e1, h⟩ := bd_some h
    refine fx_i X (fx_runV (As := [.int x1, .int (2 : Int32)]) X (m_Tre_wordOf e1 _) hP hD kv_Tre_42 ⟨Nat.le_of_ble_eq_true rfl, Nat.le_of_ble_eq_true rfl⟩ 7 rfl rfl rfl hl.1 rfl (Nat.le_of_ble_eq_true rfl) d_Tre_moved_23) hD hS (fun H locs hP hD hS => ?_)
    refine lv_iload_n hx hb d_Tre_moved_26 rfl (lv_at hl 2 rfl) ?_
    refine lv_icmp_eq (tgt := 37) hx hb d_Tre_moved_27 (by decide) (fun hc => ?_) (fun hc => ?_)
    · have h := if_t hc h
      cases h
      exact fx_vret X hP hD hS d_Tre_moved_37
    · have h := if_f hc h
      refine lv_aload_n hx hb d_Tre_moved_30 rfl (lv_at hl 0 rfl) ?_
      refine lv_iload_n hx hb d_Tre_moved_31 rfl (lv_at hl 1 rfl) ?_
      refine lv_iconst (v := 2) hx hb d_Tre_moved_32 (by decide) ?_
      refine lv_iload_n hx hb d_Tre_moved_33 rfl (lv_at hl 2 rfl) ?_
      obtain ⟨p3, e1, h⟩ := bd_some h
      refine fx_v X (fx_runV (As := [.int x1, .int (2 : Int32), .int x2]) X (m_Tre_putWord e1 _) hP hD kv_Tre_88 ⟨Nat.le_of_ble_eq_true rfl, Nat.le_of_ble_eq_true rfl⟩ 7 rfl rfl rfl hl.1 rfl (Nat.le_of_ble_eq_true rfl) d_Tre_moved_34) hD hS (fun H locs hP hD hS => ?_)
      cases h
      exact fx_vret X hP hD hS d_Tre_moved_37
  · have h := if_t hc h
    refine lv_aload_n hx hb d_Tre_moved_9 rfl (lv_at hl 0 rfl) ?_
    refine gF_tre_table X hP d_Tre_moved_10 ?_
    refine lv_iload_n hx hb d_Tre_moved_13 rfl (lv_at hl 1 rfl) ?_
    obtain ⟨p4, e1, h⟩ := bd_some h
    refine fx_v X (fx_runV (As := [.int x1]) X (m_Tab_stir e1 _) hP hD kv_Tre_65 ⟨Nat.le_of_ble_eq_true rfl, Nat.le_of_ble_eq_true rfl⟩ 4 rfl rfl rfl hl.1 rfl (Nat.le_of_ble_eq_true rfl) d_Tre_moved_14) hD hS (fun H locs hP hD hS => ?_)
    refine lv_goto (tgt := 37) hx hb d_Tre_moved_17 (by decide) ?_
    cases h
    exact fx_vret X hP hD hS d_Tre_moved_37
theorem d_Tre_isWithin_0 : decode prog_10_method_13_code 0 = .ok (.iload_n 1, 1) := by decide +kernel
theorem d_Tre_isWithin_1 : decode prog_10_method_13_code 1 = .ok (.istore_n 3, 1) := by decide +kernel
theorem d_Tre_isWithin_2 : decode prog_10_method_13_code 2 = .ok (.iconst 0, 1) := by decide +kernel
theorem d_Tre_isWithin_3 : decode prog_10_method_13_code 3 = .ok (.istore 4, 2) := by decide +kernel
theorem d_Tre_isWithin_5 : decode prog_10_method_13_code 5 = .ok (.iload 4, 2) := by decide +kernel
theorem d_Tre_isWithin_7 : decode prog_10_method_13_code 7 = .ok (.sipush 250, 3) := by decide +kernel
theorem d_Tre_isWithin_10 : decode prog_10_method_13_code 10 = .ok (.if_icmp .ge 27, 3) := by decide +kernel
theorem d_Tre_isWithin_13 : decode prog_10_method_13_code 13 = .ok (.iload_n 3, 1) := by decide +kernel
theorem d_Tre_isWithin_14 : decode prog_10_method_13_code 14 = .ok (.ifCond .eq 23, 3) := by decide +kernel
theorem d_Tre_isWithin_17 : decode prog_10_method_13_code 17 = .ok (.iload_n 3, 1) := by decide +kernel
theorem d_Tre_isWithin_18 : decode prog_10_method_13_code 18 = .ok (.iload_n 2, 1) := by decide +kernel
theorem d_Tre_isWithin_19 : decode prog_10_method_13_code 19 = .ok (.if_icmp .ne 5, 3) := by decide +kernel
theorem d_Tre_isWithin_22 : decode prog_10_method_13_code 22 = .ok (.iconst 1, 1) := by decide +kernel
theorem d_Tre_isWithin_23 : decode prog_10_method_13_code 23 = .ok (.ireturn, 1) := by decide +kernel
theorem d_Tre_isWithin_24 : decode prog_10_method_13_code 24 = .ok (.aload_n 0, 1) := by decide +kernel
theorem d_Tre_isWithin_25 : decode prog_10_method_13_code 25 = .ok (.iload_n 3, 1) := by decide +kernel
theorem d_Tre_isWithin_26 : decode prog_10_method_13_code 26 = .ok (.iconst 2, 1) := by decide +kernel
theorem d_Tre_isWithin_27 : decode prog_10_method_13_code 27 = .ok (.invokevirtual 42, 3) := by decide +kernel
theorem d_Tre_isWithin_30 : decode prog_10_method_13_code 30 = .ok (.istore_n 3, 1) := by decide +kernel
theorem d_Tre_isWithin_31 : decode prog_10_method_13_code 31 = .ok (.iinc 4 1, 3) := by decide +kernel
theorem d_Tre_isWithin_34 : decode prog_10_method_13_code 34 = .ok (.goto (-29), 3) := by decide +kernel
theorem d_Tre_isWithin_37 : decode prog_10_method_13_code 37 = .ok (.iconst 0, 1) := by decide +kernel
theorem d_Tre_isWithin_38 : decode prog_10_method_13_code 38 = .ok (.ireturn, 1) := by decide +kernel
set_option maxHeartbeats 4000000 in
set_option maxRecDepth 100000 in
theorem v_Tre_isWithin_5 {p : Program} {l : Launch} {e : Env} {s : State} {m : MethodId} {args : Array Value} {below : List Frame} {meth : Method} {c : Code} {D : va_G} {ad : Nat → Nat} {ca : Nat → ClassId} {A : Nat → Prop} {FU : Nat} {q : Int32} {g : St} (X : FX p s m meth c prog_10_method_13_code 5 (some .boolean) "FlashFiles$Tree" D (tyF ca) A) : ∀ (n : Nat), ∀ (y2 y3 y4 : Int32) (H : Heap) (locs : List Loc) (ls : Array Slot), va_P D cls (wF ad ca g) H → va_D A (wF ad ca g) → va_S A s.heap H locs → lv_has ls 5 [(0, .ref (ad 7)), (2, .int y2), (3, .int y3), (4, .int y4)] → Tre_isWithin_b5 FU n y2 y3 y4 g = some q → W p l e (rmN 3) s m args below meth c H locs 0 0 (MQ below (fxQi D (tyF ca) A (wF ad ca g) q) args s 0 0 A) (F0 m 5 ls []) := by
  have hx := X.1
  have hb := X.2.1
  intro n
  induction n with
  | zero =>
    intro y2 y3 y4 H locs ls hP hD hS hl h
    cases h
  | succ n ih =>
    intro y2 y3 y4 H locs ls hP hD hS hl h
    have h := h
    rw [Tre_isWithin_b5.eq_2] at h
    refine lv_iload hx hb d_Tre_isWithin_5 (lv_at hl 3 rfl) ?_
    refine lv_sipush (v := 250) hx hb d_Tre_isWithin_7 (by decide) ?_
    refine lv_icmp_ge (tgt := 37) hx hb d_Tre_isWithin_10 (by decide) (fun hc => ?_) (fun hc => ?_)
    · have h := if_t hc h
      refine lv_iconst (v := 0) hx hb d_Tre_isWithin_37 (by decide) ?_
      cases h
      exact fx_zret X hP hD hS (Or.inl rfl) d_Tre_isWithin_38
    · have h := if_f hc h
      refine lv_iload_n hx hb d_Tre_isWithin_13 rfl (lv_at hl 2 rfl) ?_
      refine lv_if_eq (tgt := 37) hx hb d_Tre_isWithin_14 (by decide) (fun hc => ?_) (fun hc => ?_)
      · have h := if_t hc h
        refine lv_iconst (v := 0) hx hb d_Tre_isWithin_37 (by decide) ?_
        cases h
        exact fx_zret X hP hD hS (Or.inl rfl) d_Tre_isWithin_38
      · have h := if_f hc h
        refine lv_iload_n hx hb d_Tre_isWithin_17 rfl (lv_at hl 2 rfl) ?_
        refine lv_iload_n hx hb d_Tre_isWithin_18 rfl (lv_at hl 1 rfl) ?_
        refine lv_icmp_ne (tgt := 24) hx hb d_Tre_isWithin_19 (by decide) (fun hc => ?_) (fun hc => ?_)
        · have h := if_f hc h
          refine lv_aload_n hx hb d_Tre_isWithin_24 rfl (lv_at hl 0 rfl) ?_
          refine lv_iload_n hx hb d_Tre_isWithin_25 rfl (lv_at hl 2 rfl) ?_
          refine lv_iconst (v := 2) hx hb d_Tre_isWithin_26 (by decide) ?_
          obtain ⟨v1, e1, h⟩ := bd_some h
          refine fx_i X (fx_runV (As := [.int y3, .int (2 : Int32)]) X (m_Tre_wordOf e1 _) hP hD kv_Tre_42 ⟨Nat.le_of_ble_eq_true rfl, Nat.le_of_ble_eq_true rfl⟩ 7 rfl rfl rfl hl.1 rfl (Nat.le_of_ble_eq_true rfl) d_Tre_isWithin_27) hD hS (fun H locs hP hD hS => ?_)
          refine lv_istore_n hx hb d_Tre_isWithin_30 rfl hl (by decide) rfl (fun ls hl => ?_)
          have hl : lv_has ls 5 [(3, .int v1), (0, .ref (ad 7)), (2, .int y2), (4, .int y4)] := hl
          refine lv_iinc (k := 3) (v := (y4 + (1 : Int32))) hx hb d_Tre_isWithin_31 hl rfl (oi_1 _) (by decide) rfl (fun ls hl => ?_)
          have hl : lv_has ls 5 [(4, .int (y4 + (1 : Int32))), (3, .int v1), (0, .ref (ad 7)), (2, .int y2)] := hl
          refine lv_goto (tgt := 5) hx hb d_Tre_isWithin_34 (by decide) ?_
          exact ih _ _ _ _ _ _ hP hD hS (lv_sub hl [2, 3, 1, 0] rfl) h
        · have h := if_t hc h
          refine lv_iconst (v := 1) hx hb d_Tre_isWithin_22 (by decide) ?_
          cases h
          exact fx_zret X hP hD hS (Or.inr rfl) d_Tre_isWithin_23
set_option maxHeartbeats 4000000 in
set_option maxRecDepth 100000 in
theorem m_Tre_isWithin {l : Launch} {D : va_G} {ad : Nat → Nat} {ca : Nat → ClassId} {FU : Nat} {x1 : Int32} {x2 : Int32} {g : St} {q : Int32} (h : Tre_isWithin FU x1 x2 g = some q) : CI l ⟨"FlashFiles$Tree", "isWithin", "(II)Z"⟩ prog_10_method_13_code 5 3 (some .boolean) D (tyF ca) (wF ad ca g) [.ref (ad 7), .int x1, .int x2] q (wF ad ca g) := by
  intro sz
  refine Met.fx (Qc := fun A => fxQi D (tyF ca) A (wF ad ca g) q) (by decide) (Nat.le_of_ble_eq_true rfl) ?_
  intro p e s m below meth c A ls X hP hD hl
  have hl : lv_has ls 5 [(0, .ref (ad 7)), (1, .int x1), (2, .int x2)] := hl
  have hS : va_S A s.heap s.heap [] := va_S.rf
  have hx := X.1
  have hb := X.2.1
  unfold Tre_isWithin at h
  refine lv_iload_n hx hb d_Tre_isWithin_0 rfl (lv_at hl 1 rfl) ?_
  refine lv_istore_n hx hb d_Tre_isWithin_1 rfl hl (by decide) rfl (fun ls hl => ?_)
  have hl : lv_has ls 5 [(3, .int x1), (0, .ref (ad 7)), (1, .int x1), (2, .int x2)] := hl
  refine lv_iconst (v := 0) hx hb d_Tre_isWithin_2 (by decide) ?_
  refine lv_istore hx hb d_Tre_isWithin_3 hl (by decide) rfl (fun ls hl => ?_)
  have hl : lv_has ls 5 [(4, .int (0 : Int32)), (3, .int x1), (0, .ref (ad 7)), (1, .int x1), (2, .int x2)] := hl
  exact v_Tre_isWithin_5 X  _ _ _ _ _ _ _ hP hD hS (lv_sub hl [2, 4, 1, 0] rfl) h
theorem d_Tre_slotWord_0 : decode prog_10_method_14_code 0 = .ok (.iload_n 2, 1) := by decide +kernel
theorem d_Tre_slotWord_1 : decode prog_10_method_14_code 1 = .ok (.ifCond .lt 9, 3) := by decide +kernel
theorem d_Tre_slotWord_4 : decode prog_10_method_14_code 4 = .ok (.iload_n 2, 1) := by decide +kernel
theorem d_Tre_slotWord_5 : decode prog_10_method_14_code 5 = .ok (.bipush 48, 2) := by decide +kernel
theorem d_Tre_slotWord_7 : decode prog_10_method_14_code 7 = .ok (.if_icmp .lt 7, 3) := by decide +kernel
theorem d_Tre_slotWord_10 : decode prog_10_method_14_code 10 = .ok (.iconst 0, 1) := by decide +kernel
theorem d_Tre_slotWord_11 : decode prog_10_method_14_code 11 = .ok (.goto 12, 3) := by decide +kernel
theorem d_Tre_slotWord_14 : decode prog_10_method_14_code 14 = .ok (.aload_n 0, 1) := by decide +kernel
theorem d_Tre_slotWord_15 : decode prog_10_method_14_code 15 = .ok (.iload_n 1, 1) := by decide +kernel
theorem d_Tre_slotWord_16 : decode prog_10_method_14_code 16 = .ok (.bipush 6, 2) := by decide +kernel
theorem d_Tre_slotWord_18 : decode prog_10_method_14_code 18 = .ok (.iload_n 2, 1) := by decide +kernel
theorem d_Tre_slotWord_19 : decode prog_10_method_14_code 19 = .ok (.iadd, 1) := by decide +kernel
theorem d_Tre_slotWord_20 : decode prog_10_method_14_code 20 = .ok (.invokevirtual 42, 3) := by decide +kernel
theorem d_Tre_slotWord_23 : decode prog_10_method_14_code 23 = .ok (.ireturn, 1) := by decide +kernel
set_option maxHeartbeats 4000000 in
set_option maxRecDepth 100000 in
theorem m_Tre_slotWord {l : Launch} {D : va_G} {ad : Nat → Nat} {ca : Nat → ClassId} {FU : Nat} {x1 : Int32} {x2 : Int32} {g : St} {q : Int32} (h : Tre_slotWord FU x1 x2 g = some q) : CI l ⟨"FlashFiles$Tree", "slotWord", "(II)I"⟩ prog_10_method_14_code 3 3 (some .int) D (tyF ca) (wF ad ca g) [.ref (ad 7), .int x1, .int x2] q (wF ad ca g) := by
  intro sz
  refine Met.fx (Qc := fun A => fxQi D (tyF ca) A (wF ad ca g) q) (by decide) (Nat.le_of_ble_eq_true rfl) ?_
  intro p e s m below meth c A ls X hP hD hl
  have hl : lv_has ls 3 [(0, .ref (ad 7)), (1, .int x1), (2, .int x2)] := hl
  have hS : va_S A s.heap s.heap [] := va_S.rf
  have hx := X.1
  have hb := X.2.1
  unfold Tre_slotWord at h
  refine lv_iload_n hx hb d_Tre_slotWord_0 rfl (lv_at hl 2 rfl) ?_
  refine lv_if_lt (tgt := 10) hx hb d_Tre_slotWord_1 (by decide) (fun hc => ?_) (fun hc => ?_)
  · have h := if_t hc h
    refine lv_iconst (v := 0) hx hb d_Tre_slotWord_10 (by decide) ?_
    refine lv_goto (tgt := 23) hx hb d_Tre_slotWord_11 (by decide) ?_
    cases h
    exact fx_iret X hP hD hS d_Tre_slotWord_23
  · have h := if_f hc h
    refine lv_iload_n hx hb d_Tre_slotWord_4 rfl (lv_at hl 2 rfl) ?_
    refine lv_bipush (v := 48) hx hb d_Tre_slotWord_5 (by decide) ?_
    refine lv_icmp_lt (tgt := 14) hx hb d_Tre_slotWord_7 (by decide) (fun hc => ?_) (fun hc => ?_)
    · have h := if_t hc h
      refine lv_aload_n hx hb d_Tre_slotWord_14 rfl (lv_at hl 0 rfl) ?_
      refine lv_iload_n hx hb d_Tre_slotWord_15 rfl (lv_at hl 1 rfl) ?_
      refine lv_bipush (v := 6) hx hb d_Tre_slotWord_16 (by decide) ?_
      refine lv_iload_n hx hb d_Tre_slotWord_18 rfl (lv_at hl 2 rfl) ?_
      refine lv_iadd hx hb d_Tre_slotWord_19 ?_
      obtain ⟨v1, e1, h⟩ := bd_some h
      refine fx_i X (fx_runV (As := [.int x1, .int ((6 : Int32) + x2)]) X (m_Tre_wordOf e1 _) hP hD kv_Tre_42 ⟨Nat.le_of_ble_eq_true rfl, Nat.le_of_ble_eq_true rfl⟩ 7 rfl rfl rfl hl.1 rfl (Nat.le_of_ble_eq_true rfl) d_Tre_slotWord_20) hD hS (fun H locs hP hD hS => ?_)
      cases h
      exact fx_iret X hP hD hS d_Tre_slotWord_23
    · have h := if_f hc h
      refine lv_iconst (v := 0) hx hb d_Tre_slotWord_10 (by decide) ?_
      refine lv_goto (tgt := 23) hx hb d_Tre_slotWord_11 (by decide) ?_
      cases h
      exact fx_iret X hP hD hS d_Tre_slotWord_23
theorem d_Tre_idIn_0 : decode prog_10_method_15_code 0 = .ok (.aload_n 0, 1) := by decide +kernel
theorem d_Tre_idIn_1 : decode prog_10_method_15_code 1 = .ok (.iload_n 1, 1) := by decide +kernel
theorem d_Tre_idIn_2 : decode prog_10_method_15_code 2 = .ok (.iload_n 2, 1) := by decide +kernel
theorem d_Tre_idIn_3 : decode prog_10_method_15_code 3 = .ok (.invokevirtual 91, 3) := by decide +kernel
theorem d_Tre_idIn_6 : decode prog_10_method_15_code 6 = .ok (.istore_n 3, 1) := by decide +kernel
theorem d_Tre_idIn_7 : decode prog_10_method_15_code 7 = .ok (.iload_n 3, 1) := by decide +kernel
theorem d_Tre_idIn_8 : decode prog_10_method_15_code 8 = .ok (.ifCond .ne 7, 3) := by decide +kernel
theorem d_Tre_idIn_11 : decode prog_10_method_15_code 11 = .ok (.iconst 0, 1) := by decide +kernel
theorem d_Tre_idIn_12 : decode prog_10_method_15_code 12 = .ok (.goto 16, 3) := by decide +kernel
theorem d_Tre_idIn_15 : decode prog_10_method_15_code 15 = .ok (.aload_n 0, 1) := by decide +kernel
theorem d_Tre_idIn_16 : decode prog_10_method_15_code 16 = .ok (.getfield 9, 3) := by decide +kernel
theorem d_Tre_idIn_19 : decode prog_10_method_15_code 19 = .ok (.iload_n 3, 1) := by decide +kernel
theorem d_Tre_idIn_20 : decode prog_10_method_15_code 20 = .ok (.sipush 4095, 3) := by decide +kernel
theorem d_Tre_idIn_23 : decode prog_10_method_15_code 23 = .ok (.iand, 1) := by decide +kernel
theorem d_Tre_idIn_24 : decode prog_10_method_15_code 24 = .ok (.iconst 0, 1) := by decide +kernel
theorem d_Tre_idIn_25 : decode prog_10_method_15_code 25 = .ok (.invokevirtual 36, 3) := by decide +kernel
theorem d_Tre_idIn_28 : decode prog_10_method_15_code 28 = .ok (.ireturn, 1) := by decide +kernel
set_option maxHeartbeats 4000000 in
set_option maxRecDepth 100000 in
theorem m_Tre_idIn {l : Launch} {D : va_G} {ad : Nat → Nat} {ca : Nat → ClassId} {FU : Nat} {x1 : Int32} {x2 : Int32} {g : St} {q : Int32} (h : Tre_idIn FU x1 x2 g = some q) : CI l ⟨"FlashFiles$Tree", "idIn", "(II)I"⟩ prog_10_method_15_code 4 4 (some .int) D (tyF ca) (wF ad ca g) [.ref (ad 7), .int x1, .int x2] q (wF ad ca g) := by
  intro sz
  refine Met.fx (Qc := fun A => fxQi D (tyF ca) A (wF ad ca g) q) (by decide) (Nat.le_of_ble_eq_true rfl) ?_
  intro p e s m below meth c A ls X hP hD hl
  have hl : lv_has ls 4 [(0, .ref (ad 7)), (1, .int x1), (2, .int x2)] := hl
  have hS : va_S A s.heap s.heap [] := va_S.rf
  have hx := X.1
  have hb := X.2.1
  unfold Tre_idIn at h
  refine lv_aload_n hx hb d_Tre_idIn_0 rfl (lv_at hl 0 rfl) ?_
  refine lv_iload_n hx hb d_Tre_idIn_1 rfl (lv_at hl 1 rfl) ?_
  refine lv_iload_n hx hb d_Tre_idIn_2 rfl (lv_at hl 2 rfl) ?_
  obtain ⟨v1, e1, h⟩ := bd_some h
  refine fx_i X (fx_runV (As := [.int x1, .int x2]) X (m_Tre_slotWord e1 _) hP hD kv_Tre_91 ⟨Nat.le_of_ble_eq_true rfl, Nat.le_of_ble_eq_true rfl⟩ 7 rfl rfl rfl hl.1 rfl (Nat.le_of_ble_eq_true rfl) d_Tre_idIn_3) hD hS (fun H locs hP hD hS => ?_)
  refine lv_istore_n hx hb d_Tre_idIn_6 rfl hl (by decide) rfl (fun ls hl => ?_)
  have hl : lv_has ls 4 [(3, .int v1), (0, .ref (ad 7)), (1, .int x1), (2, .int x2)] := hl
  refine lv_iload_n hx hb d_Tre_idIn_7 rfl (lv_at hl 0 rfl) ?_
  refine lv_if_ne (tgt := 15) hx hb d_Tre_idIn_8 (by decide) (fun hc => ?_) (fun hc => ?_)
  · have h := if_f hc h
    refine lv_aload_n hx hb d_Tre_idIn_15 rfl (lv_at hl 1 rfl) ?_
    refine gF_tre_device X hP d_Tre_idIn_16 ?_
    refine lv_iload_n hx hb d_Tre_idIn_19 rfl (lv_at hl 0 rfl) ?_
    refine lv_sipush (v := 4095) hx hb d_Tre_idIn_20 (by decide) ?_
    refine lv_iand hx hb d_Tre_idIn_23 ?_
    refine lv_iconst (v := 0) hx hb d_Tre_idIn_24 (by decide) ?_
    obtain ⟨v2, e1, h⟩ := bd_some h
    refine fx_i X (fx_runV (As := [.int (v1 &&& (4095 : Int32)), .int (0 : Int32)]) X (m_Dev_word e1 _) hP hD kv_Tre_36 ⟨Nat.le_of_ble_eq_true rfl, Nat.le_of_ble_eq_true rfl⟩ 3 rfl rfl rfl hl.1 rfl (Nat.le_of_ble_eq_true rfl) d_Tre_idIn_25) hD hS (fun H locs hP hD hS => ?_)
    cases h
    exact fx_iret X hP hD hS d_Tre_idIn_28
  · have h := if_t hc h
    refine lv_iconst (v := 0) hx hb d_Tre_idIn_11 (by decide) ?_
    refine lv_goto (tgt := 28) hx hb d_Tre_idIn_12 (by decide) ?_
    cases h
    exact fx_iret X hP hD hS d_Tre_idIn_28
theorem d_Tre_dropName_0 : decode prog_10_method_19_code 0 = .ok (.aload_n 0, 1) := by decide +kernel
theorem d_Tre_dropName_1 : decode prog_10_method_19_code 1 = .ok (.iload_n 1, 1) := by decide +kernel
theorem d_Tre_dropName_2 : decode prog_10_method_19_code 2 = .ok (.iload_n 2, 1) := by decide +kernel
theorem d_Tre_dropName_3 : decode prog_10_method_19_code 3 = .ok (.invokevirtual 91, 3) := by decide +kernel
theorem d_Tre_dropName_6 : decode prog_10_method_19_code 6 = .ok (.ifCond .ne 4, 3) := by decide +kernel
theorem d_Tre_dropName_9 : decode prog_10_method_19_code 9 = .ok (.return_, 1) := by decide +kernel
theorem d_Tre_dropName_10 : decode prog_10_method_19_code 10 = .ok (.aload_n 0, 1) := by decide +kernel
theorem d_Tre_dropName_11 : decode prog_10_method_19_code 11 = .ok (.getfield 9, 3) := by decide +kernel
theorem d_Tre_dropName_14 : decode prog_10_method_19_code 14 = .ok (.aload_n 0, 1) := by decide +kernel
theorem d_Tre_dropName_15 : decode prog_10_method_19_code 15 = .ok (.getfield 15, 3) := by decide +kernel
theorem d_Tre_dropName_18 : decode prog_10_method_19_code 18 = .ok (.iload_n 1, 1) := by decide +kernel
theorem d_Tre_dropName_19 : decode prog_10_method_19_code 19 = .ok (.invokevirtual 30, 3) := by decide +kernel
theorem d_Tre_dropName_22 : decode prog_10_method_19_code 22 = .ok (.aload_n 0, 1) := by decide +kernel
theorem d_Tre_dropName_23 : decode prog_10_method_19_code 23 = .ok (.getfield 23, 3) := by decide +kernel
theorem d_Tre_dropName_26 : decode prog_10_method_19_code 26 = .ok (.invokevirtual 84, 3) := by decide +kernel
theorem d_Tre_dropName_29 : decode prog_10_method_19_code 29 = .ok (.aload_n 0, 1) := by decide +kernel
theorem d_Tre_dropName_30 : decode prog_10_method_19_code 30 = .ok (.getfield 19, 3) := by decide +kernel
theorem d_Tre_dropName_33 : decode prog_10_method_19_code 33 = .ok (.aload_n 0, 1) := by decide +kernel
theorem d_Tre_dropName_34 : decode prog_10_method_19_code 34 = .ok (.getfield 23, 3) := by decide +kernel
theorem d_Tre_dropName_37 : decode prog_10_method_19_code 37 = .ok (.bipush 6, 2) := by decide +kernel
theorem d_Tre_dropName_39 : decode prog_10_method_19_code 39 = .ok (.iload_n 2, 1) := by decide +kernel
theorem d_Tre_dropName_40 : decode prog_10_method_19_code 40 = .ok (.iadd, 1) := by decide +kernel
theorem d_Tre_dropName_41 : decode prog_10_method_19_code 41 = .ok (.iaload, 1) := by decide +kernel
theorem d_Tre_dropName_42 : decode prog_10_method_19_code 42 = .ok (.sipush 4095, 3) := by decide +kernel
theorem d_Tre_dropName_45 : decode prog_10_method_19_code 45 = .ok (.iand, 1) := by decide +kernel
theorem d_Tre_dropName_46 : decode prog_10_method_19_code 46 = .ok (.invokevirtual 112, 3) := by decide +kernel
theorem d_Tre_dropName_49 : decode prog_10_method_19_code 49 = .ok (.aload_n 0, 1) := by decide +kernel
theorem d_Tre_dropName_50 : decode prog_10_method_19_code 50 = .ok (.getfield 23, 3) := by decide +kernel
theorem d_Tre_dropName_53 : decode prog_10_method_19_code 53 = .ok (.bipush 6, 2) := by decide +kernel
theorem d_Tre_dropName_55 : decode prog_10_method_19_code 55 = .ok (.iload_n 2, 1) := by decide +kernel
theorem d_Tre_dropName_56 : decode prog_10_method_19_code 56 = .ok (.iadd, 1) := by decide +kernel
theorem d_Tre_dropName_57 : decode prog_10_method_19_code 57 = .ok (.iconst 0, 1) := by decide +kernel
theorem d_Tre_dropName_58 : decode prog_10_method_19_code 58 = .ok (.iastore, 1) := by decide +kernel
theorem d_Tre_dropName_59 : decode prog_10_method_19_code 59 = .ok (.aload_n 0, 1) := by decide +kernel
theorem d_Tre_dropName_60 : decode prog_10_method_19_code 60 = .ok (.getfield 23, 3) := by decide +kernel
theorem d_Tre_dropName_63 : decode prog_10_method_19_code 63 = .ok (.iconst 1, 1) := by decide +kernel
theorem d_Tre_dropName_64 : decode prog_10_method_19_code 64 = .ok (.dup2, 1) := by decide +kernel
theorem d_Tre_dropName_65 : decode prog_10_method_19_code 65 = .ok (.iaload, 1) := by decide +kernel
theorem d_Tre_dropName_66 : decode prog_10_method_19_code 66 = .ok (.iconst 1, 1) := by decide +kernel
theorem d_Tre_dropName_67 : decode prog_10_method_19_code 67 = .ok (.isub, 1) := by decide +kernel
theorem d_Tre_dropName_68 : decode prog_10_method_19_code 68 = .ok (.iastore, 1) := by decide +kernel
theorem d_Tre_dropName_69 : decode prog_10_method_19_code 69 = .ok (.aload_n 0, 1) := by decide +kernel
theorem d_Tre_dropName_70 : decode prog_10_method_19_code 70 = .ok (.getfield 19, 3) := by decide +kernel
theorem d_Tre_dropName_73 : decode prog_10_method_19_code 73 = .ok (.iload_n 1, 1) := by decide +kernel
theorem d_Tre_dropName_74 : decode prog_10_method_19_code 74 = .ok (.aload_n 0, 1) := by decide +kernel
theorem d_Tre_dropName_75 : decode prog_10_method_19_code 75 = .ok (.getfield 23, 3) := by decide +kernel
theorem d_Tre_dropName_78 : decode prog_10_method_19_code 78 = .ok (.iconst 0, 1) := by decide +kernel
theorem d_Tre_dropName_79 : decode prog_10_method_19_code 79 = .ok (.invokevirtual 79, 3) := by decide +kernel
theorem d_Tre_dropName_82 : decode prog_10_method_19_code 82 = .ok (.return_, 1) := by decide +kernel
set_option maxHeartbeats 4000000 in
set_option maxRecDepth 100000 in
theorem m_Tre_dropName {l : Launch} {D : va_G} {ad : Nat → Nat} {ca : Nat → ClassId} {FU : Nat} {x1 : Int32} {x2 : Int32} {g : St} {q : St} (h : Tre_dropName FU x1 x2 g = some q) : CV l ⟨"FlashFiles$Tree", "dropName", "(II)V"⟩ prog_10_method_19_code 3 4 D (tyF ca) (wF ad ca g) [.ref (ad 7), .int x1, .int x2] (wF ad ca q) := by
  intro sz
  refine Met.fx (Qc := fun A => fxQv D (tyF ca) A (wF ad ca q)) (by decide) (Nat.le_of_ble_eq_true rfl) ?_
  intro p e s m below meth c A ls X hP hD hl
  have hl : lv_has ls 3 [(0, .ref (ad 7)), (1, .int x1), (2, .int x2)] := hl
  have hS : va_S A s.heap s.heap [] := va_S.rf
  have hx := X.1
  have hb := X.2.1
  unfold Tre_dropName at h
  refine lv_aload_n hx hb d_Tre_dropName_0 rfl (lv_at hl 0 rfl) ?_
  refine lv_iload_n hx hb d_Tre_dropName_1 rfl (lv_at hl 1 rfl) ?_
  refine lv_iload_n hx hb d_Tre_dropName_2 rfl (lv_at hl 2 rfl) ?_
  obtain ⟨v1, e1, h⟩ := bd_some h
  refine fx_i X (fx_runV (As := [.int x1, .int x2]) X (m_Tre_slotWord e1 _) hP hD kv_Tre_91 ⟨Nat.le_of_ble_eq_true rfl, Nat.le_of_ble_eq_true rfl⟩ 7 rfl rfl rfl hl.1 rfl (Nat.le_of_ble_eq_true rfl) d_Tre_dropName_3) hD hS (fun H locs hP hD hS => ?_)
  refine lv_if_ne (tgt := 10) hx hb d_Tre_dropName_6 (by decide) (fun hc => ?_) (fun hc => ?_)
  · have h := if_f hc h
    refine lv_aload_n hx hb d_Tre_dropName_10 rfl (lv_at hl 0 rfl) ?_
    refine gF_tre_device X hP d_Tre_dropName_11 ?_
    refine lv_aload_n hx hb d_Tre_dropName_14 rfl (lv_at hl 0 rfl) ?_
    refine gF_tre_table X hP d_Tre_dropName_15 ?_
    refine lv_iload_n hx hb d_Tre_dropName_18 rfl (lv_at hl 1 rfl) ?_
    obtain ⟨v2, e1, h⟩ := bd_some h
    refine fx_i X (fx_runV (As := [.int x1]) X (m_Tab_placeOf e1 _) hP hD kv_Tre_30 ⟨Nat.le_of_ble_eq_true rfl, Nat.le_of_ble_eq_true rfl⟩ 4 rfl rfl rfl hl.1 rfl (Nat.le_of_ble_eq_true rfl) d_Tre_dropName_19) hD hS (fun H locs hP hD hS => ?_)
    refine lv_aload_n hx hb d_Tre_dropName_22 rfl (lv_at hl 0 rfl) ?_
    refine gF_tre_inode X hP d_Tre_dropName_23 ?_
    obtain ⟨p3, e1, h⟩ := bd_some h
    refine fx_v X (fx_runV (As := [.int v2, .ref (ad 28)]) X (m_Dev_load_17 e1 _) hP hD kv_Tre_84 ⟨Nat.le_of_ble_eq_true rfl, Nat.le_of_ble_eq_true rfl⟩ 3 rfl rfl rfl hl.1 rfl (Nat.le_of_ble_eq_true rfl) d_Tre_dropName_26) hD hS (fun H locs hP hD hS => ?_)
    refine lv_aload_n hx hb d_Tre_dropName_29 rfl (lv_at hl 0 rfl) ?_
    refine gF_tre_log X hP d_Tre_dropName_30 ?_
    refine lv_aload_n hx hb d_Tre_dropName_33 rfl (lv_at hl 0 rfl) ?_
    refine gF_tre_inode X hP d_Tre_dropName_34 ?_
    refine lv_bipush (v := 6) hx hb d_Tre_dropName_37 (by decide) ?_
    refine lv_iload_n hx hb d_Tre_dropName_39 rfl (lv_at hl 2 rfl) ?_
    refine lv_iadd hx hb d_Tre_dropName_40 ?_
    obtain ⟨v4, e1, h⟩ := bd_some h
    refine rF_17 X hP e1 d_Tre_dropName_41 ?_
    refine lv_sipush (v := 4095) hx hb d_Tre_dropName_42 (by decide) ?_
    refine lv_iand hx hb d_Tre_dropName_45 ?_
    obtain ⟨p5, e1, h⟩ := bd_some h
    refine fx_v X (fx_runV (As := [.int (v4 &&& (4095 : Int32))]) X (m_Log_drop e1 _) hP hD kv_Tre_112 ⟨Nat.le_of_ble_eq_true rfl, Nat.le_of_ble_eq_true rfl⟩ 5 rfl rfl rfl hl.1 rfl (Nat.le_of_ble_eq_true rfl) d_Tre_dropName_46) hD hS (fun H locs hP hD hS => ?_)
    refine lv_aload_n hx hb d_Tre_dropName_49 rfl (lv_at hl 0 rfl) ?_
    refine gF_tre_inode X hP d_Tre_dropName_50 ?_
    refine lv_bipush (v := 6) hx hb d_Tre_dropName_53 (by decide) ?_
    refine lv_iload_n hx hb d_Tre_dropName_55 rfl (lv_at hl 2 rfl) ?_
    refine lv_iadd hx hb d_Tre_dropName_56 ?_
    refine lv_iconst (v := 0) hx hb d_Tre_dropName_57 (by decide) ?_
    obtain ⟨g6, e1, h⟩ := bd_some h
    refine sF_17 X hP hD hS e1 d_Tre_dropName_58 (fun H locs hP hD hS => ?_)
    refine lv_aload_n hx hb d_Tre_dropName_59 rfl (lv_at hl 0 rfl) ?_
    refine gF_tre_inode X hP d_Tre_dropName_60 ?_
    refine lv_iconst (v := 1) hx hb d_Tre_dropName_63 (by decide) ?_
    refine lv_dup2_11 hx hb d_Tre_dropName_64 rfl rfl ?_
    obtain ⟨v7, e1, h⟩ := bd_some h
    refine rF_17 X hP e1 d_Tre_dropName_65 ?_
    refine lv_iconst (v := 1) hx hb d_Tre_dropName_66 (by decide) ?_
    refine lv_isub hx hb d_Tre_dropName_67 ?_
    obtain ⟨g8, e1, h⟩ := bd_some h
    refine sF_17 X hP hD hS e1 d_Tre_dropName_68 (fun H locs hP hD hS => ?_)
    refine lv_aload_n hx hb d_Tre_dropName_69 rfl (lv_at hl 0 rfl) ?_
    refine gF_tre_log X hP d_Tre_dropName_70 ?_
    refine lv_iload_n hx hb d_Tre_dropName_73 rfl (lv_at hl 1 rfl) ?_
    refine lv_aload_n hx hb d_Tre_dropName_74 rfl (lv_at hl 0 rfl) ?_
    refine gF_tre_inode X hP d_Tre_dropName_75 ?_
    refine lv_iconst (v := 0) hx hb d_Tre_dropName_78 (by decide) ?_
    obtain ⟨p9, e1, h⟩ := bd_some h
    refine fx_v X (fx_runV (As := [.int x1, .ref (ad 28), .int (0 : Int32)]) X (m_Log_putNode_17 e1 _) hP hD kv_Tre_79 ⟨Nat.le_of_ble_eq_true rfl, Nat.le_of_ble_eq_true rfl⟩ 5 rfl rfl rfl hl.1 rfl (Nat.le_of_ble_eq_true rfl) d_Tre_dropName_79) hD hS (fun H locs hP hD hS => ?_)
    cases h
    exact fx_vret X hP hD hS d_Tre_dropName_82
  · have h := if_t hc h
    cases h
    exact fx_vret X hP hD hS d_Tre_dropName_9
theorem d_Tre_isBefore_0 : decode prog_10_method_22_code 0 = .ok (.iconst 2, 1) := by decide +kernel
theorem d_Tre_isBefore_1 : decode prog_10_method_22_code 1 = .ok (.istore_n 3, 1) := by decide +kernel
theorem d_Tre_isBefore_2 : decode prog_10_method_22_code 2 = .ok (.iload_n 3, 1) := by decide +kernel
theorem d_Tre_isBefore_3 : decode prog_10_method_22_code 3 = .ok (.bipush 7, 2) := by decide +kernel
theorem d_Tre_isBefore_5 : decode prog_10_method_22_code 5 = .ok (.if_icmp .ge 57, 3) := by decide +kernel
theorem d_Tre_isBefore_8 : decode prog_10_method_22_code 8 = .ok (.aload_n 0, 1) := by decide +kernel
theorem d_Tre_isBefore_9 : decode prog_10_method_22_code 9 = .ok (.getfield 9, 3) := by decide +kernel
theorem d_Tre_isBefore_12 : decode prog_10_method_22_code 12 = .ok (.iload_n 1, 1) := by decide +kernel
theorem d_Tre_isBefore_13 : decode prog_10_method_22_code 13 = .ok (.iload_n 3, 1) := by decide +kernel
theorem d_Tre_isBefore_14 : decode prog_10_method_22_code 14 = .ok (.invokevirtual 36, 3) := by decide +kernel
theorem d_Tre_isBefore_17 : decode prog_10_method_22_code 17 = .ok (.ldc 142, 2) := by decide +kernel
theorem d_Tre_isBefore_19 : decode prog_10_method_22_code 19 = .ok (.ixor, 1) := by decide +kernel
theorem d_Tre_isBefore_20 : decode prog_10_method_22_code 20 = .ok (.istore 4, 2) := by decide +kernel
theorem d_Tre_isBefore_22 : decode prog_10_method_22_code 22 = .ok (.aload_n 0, 1) := by decide +kernel
theorem d_Tre_isBefore_23 : decode prog_10_method_22_code 23 = .ok (.getfield 9, 3) := by decide +kernel
theorem d_Tre_isBefore_26 : decode prog_10_method_22_code 26 = .ok (.iload_n 2, 1) := by decide +kernel
theorem d_Tre_isBefore_27 : decode prog_10_method_22_code 27 = .ok (.iload_n 3, 1) := by decide +kernel
theorem d_Tre_isBefore_28 : decode prog_10_method_22_code 28 = .ok (.invokevirtual 36, 3) := by decide +kernel
theorem d_Tre_isBefore_31 : decode prog_10_method_22_code 31 = .ok (.ldc 142, 2) := by decide +kernel
theorem d_Tre_isBefore_33 : decode prog_10_method_22_code 33 = .ok (.ixor, 1) := by decide +kernel
theorem d_Tre_isBefore_34 : decode prog_10_method_22_code 34 = .ok (.istore 5, 2) := by decide +kernel
theorem d_Tre_isBefore_36 : decode prog_10_method_22_code 36 = .ok (.iload 4, 2) := by decide +kernel
theorem d_Tre_isBefore_38 : decode prog_10_method_22_code 38 = .ok (.iload 5, 2) := by decide +kernel
theorem d_Tre_isBefore_40 : decode prog_10_method_22_code 40 = .ok (.if_icmp .eq 16, 3) := by decide +kernel
theorem d_Tre_isBefore_43 : decode prog_10_method_22_code 43 = .ok (.iload 4, 2) := by decide +kernel
theorem d_Tre_isBefore_45 : decode prog_10_method_22_code 45 = .ok (.iload 5, 2) := by decide +kernel
theorem d_Tre_isBefore_47 : decode prog_10_method_22_code 47 = .ok (.if_icmp .ge 7, 3) := by decide +kernel
theorem d_Tre_isBefore_50 : decode prog_10_method_22_code 50 = .ok (.iconst 1, 1) := by decide +kernel
theorem d_Tre_isBefore_51 : decode prog_10_method_22_code 51 = .ok (.goto 4, 3) := by decide +kernel
theorem d_Tre_isBefore_54 : decode prog_10_method_22_code 54 = .ok (.iconst 0, 1) := by decide +kernel
theorem d_Tre_isBefore_55 : decode prog_10_method_22_code 55 = .ok (.ireturn, 1) := by decide +kernel
theorem d_Tre_isBefore_56 : decode prog_10_method_22_code 56 = .ok (.iinc 3 1, 3) := by decide +kernel
theorem d_Tre_isBefore_59 : decode prog_10_method_22_code 59 = .ok (.goto (-57), 3) := by decide +kernel
theorem d_Tre_isBefore_62 : decode prog_10_method_22_code 62 = .ok (.iconst 0, 1) := by decide +kernel
theorem d_Tre_isBefore_63 : decode prog_10_method_22_code 63 = .ok (.ireturn, 1) := by decide +kernel
set_option maxHeartbeats 4000000 in
set_option maxRecDepth 100000 in
theorem v_Tre_isBefore_2 {p : Program} {l : Launch} {e : Env} {s : State} {m : MethodId} {args : Array Value} {below : List Frame} {meth : Method} {c : Code} {D : va_G} {ad : Nat → Nat} {ca : Nat → ClassId} {A : Nat → Prop} {FU : Nat} {q : Int32} {g : St} (X : FX p s m meth c prog_10_method_22_code 6 (some .boolean) "FlashFiles$Tree" D (tyF ca) A) : ∀ (n : Nat), ∀ (y1 y2 y3 : Int32) (H : Heap) (locs : List Loc) (ls : Array Slot), va_P D cls (wF ad ca g) H → va_D A (wF ad ca g) → va_S A s.heap H locs → lv_has ls 6 [(0, .ref (ad 7)), (1, .int y1), (2, .int y2), (3, .int y3)] → Tre_isBefore_b2 FU n y1 y2 y3 g = some q → W p l e (rmN 2) s m args below meth c H locs 0 0 (MQ below (fxQi D (tyF ca) A (wF ad ca g) q) args s 0 0 A) (F0 m 2 ls []) := by
  have hx := X.1
  have hb := X.2.1
  intro n
  induction n with
  | zero =>
    intro y1 y2 y3 H locs ls hP hD hS hl h
    cases h
  | succ n ih =>
    intro y1 y2 y3 H locs ls hP hD hS hl h
    have h := h
    rw [Tre_isBefore_b2.eq_2] at h
    refine lv_iload_n hx hb d_Tre_isBefore_2 rfl (lv_at hl 3 rfl) ?_
    refine lv_bipush (v := 7) hx hb d_Tre_isBefore_3 (by decide) ?_
    refine lv_icmp_ge (tgt := 62) hx hb d_Tre_isBefore_5 (by decide) (fun hc => ?_) (fun hc => ?_)
    · have h := if_t hc h
      refine lv_iconst (v := 0) hx hb d_Tre_isBefore_62 (by decide) ?_
      cases h
      exact fx_zret X hP hD hS (Or.inl rfl) d_Tre_isBefore_63
    · have h := if_f hc h
      refine lv_aload_n hx hb d_Tre_isBefore_8 rfl (lv_at hl 0 rfl) ?_
      refine gF_tre_device X hP d_Tre_isBefore_9 ?_
      refine lv_iload_n hx hb d_Tre_isBefore_12 rfl (lv_at hl 1 rfl) ?_
      refine lv_iload_n hx hb d_Tre_isBefore_13 rfl (lv_at hl 3 rfl) ?_
      obtain ⟨v1, e1, h⟩ := bd_some h
      refine fx_i X (fx_runV (As := [.int y1, .int y3]) X (m_Dev_word e1 _) hP hD kv_Tre_36 ⟨Nat.le_of_ble_eq_true rfl, Nat.le_of_ble_eq_true rfl⟩ 3 rfl rfl rfl hl.1 rfl (Nat.le_of_ble_eq_true rfl) d_Tre_isBefore_14) hD hS (fun H locs hP hD hS => ?_)
      refine lv_ldc (v := -2147483648) hx hb X.2.2.2.2.2.1 (X.2.2.2.2.2.2.1.use q6_174) d_Tre_isBefore_17 ?_
      refine lv_ixor hx hb d_Tre_isBefore_19 ?_
      refine lv_istore hx hb d_Tre_isBefore_20 hl (by decide) rfl (fun ls hl => ?_)
      have hl : lv_has ls 6 [(4, .int (v1 ^^^ (-2147483648 : Int32))), (0, .ref (ad 7)), (1, .int y1), (2, .int y2), (3, .int y3)] := hl
      refine lv_aload_n hx hb d_Tre_isBefore_22 rfl (lv_at hl 1 rfl) ?_
      refine gF_tre_device X hP d_Tre_isBefore_23 ?_
      refine lv_iload_n hx hb d_Tre_isBefore_26 rfl (lv_at hl 3 rfl) ?_
      refine lv_iload_n hx hb d_Tre_isBefore_27 rfl (lv_at hl 4 rfl) ?_
      obtain ⟨v2, e1, h⟩ := bd_some h
      refine fx_i X (fx_runV (As := [.int y2, .int y3]) X (m_Dev_word e1 _) hP hD kv_Tre_36 ⟨Nat.le_of_ble_eq_true rfl, Nat.le_of_ble_eq_true rfl⟩ 3 rfl rfl rfl hl.1 rfl (Nat.le_of_ble_eq_true rfl) d_Tre_isBefore_28) hD hS (fun H locs hP hD hS => ?_)
      refine lv_ldc (v := -2147483648) hx hb X.2.2.2.2.2.1 (X.2.2.2.2.2.2.1.use q6_174) d_Tre_isBefore_31 ?_
      refine lv_ixor hx hb d_Tre_isBefore_33 ?_
      refine lv_istore hx hb d_Tre_isBefore_34 hl (by decide) rfl (fun ls hl => ?_)
      have hl : lv_has ls 6 [(5, .int (v2 ^^^ (-2147483648 : Int32))), (4, .int (v1 ^^^ (-2147483648 : Int32))), (0, .ref (ad 7)), (1, .int y1), (2, .int y2), (3, .int y3)] := hl
      refine lv_iload hx hb d_Tre_isBefore_36 (lv_at hl 1 rfl) ?_
      refine lv_iload hx hb d_Tre_isBefore_38 (lv_at hl 0 rfl) ?_
      refine lv_icmp_eq (tgt := 56) hx hb d_Tre_isBefore_40 (by decide) (fun hc => ?_) (fun hc => ?_)
      · have h := if_t hc h
        refine lv_iinc (k := 5) (v := (y3 + (1 : Int32))) hx hb d_Tre_isBefore_56 hl rfl (oi_1 _) (by decide) rfl (fun ls hl => ?_)
        have hl : lv_has ls 6 [(3, .int (y3 + (1 : Int32))), (5, .int (v2 ^^^ (-2147483648 : Int32))), (4, .int (v1 ^^^ (-2147483648 : Int32))), (0, .ref (ad 7)), (1, .int y1), (2, .int y2)] := hl
        refine lv_goto (tgt := 2) hx hb d_Tre_isBefore_59 (by decide) ?_
        exact ih _ _ _ _ _ _ hP hD hS (lv_sub hl [3, 4, 5, 0] rfl) h
      · have h := if_f hc h
        refine lv_iload hx hb d_Tre_isBefore_43 (lv_at hl 1 rfl) ?_
        refine lv_iload hx hb d_Tre_isBefore_45 (lv_at hl 0 rfl) ?_
        refine lv_icmp_ge (tgt := 54) hx hb d_Tre_isBefore_47 (by decide) (fun hc => ?_) (fun hc => ?_)
        · have h := if_t hc h
          refine lv_iconst (v := 0) hx hb d_Tre_isBefore_54 (by decide) ?_
          cases h
          exact fx_zret X hP hD hS (Or.inl rfl) d_Tre_isBefore_55
        · have h := if_f hc h
          refine lv_iconst (v := 1) hx hb d_Tre_isBefore_50 (by decide) ?_
          refine lv_goto (tgt := 55) hx hb d_Tre_isBefore_51 (by decide) ?_
          cases h
          exact fx_zret X hP hD hS (Or.inr rfl) d_Tre_isBefore_55
set_option maxHeartbeats 4000000 in
set_option maxRecDepth 100000 in
theorem m_Tre_isBefore {l : Launch} {D : va_G} {ad : Nat → Nat} {ca : Nat → ClassId} {FU : Nat} {x1 : Int32} {x2 : Int32} {g : St} {q : Int32} (h : Tre_isBefore FU x1 x2 g = some q) : CI l ⟨"FlashFiles$Tree", "isBefore", "(II)Z"⟩ prog_10_method_22_code 6 2 (some .boolean) D (tyF ca) (wF ad ca g) [.ref (ad 7), .int x1, .int x2] q (wF ad ca g) := by
  intro sz
  refine Met.fx (Qc := fun A => fxQi D (tyF ca) A (wF ad ca g) q) (by decide) (Nat.le_of_ble_eq_true rfl) ?_
  intro p e s m below meth c A ls X hP hD hl
  have hl : lv_has ls 6 [(0, .ref (ad 7)), (1, .int x1), (2, .int x2)] := hl
  have hS : va_S A s.heap s.heap [] := va_S.rf
  have hx := X.1
  have hb := X.2.1
  unfold Tre_isBefore at h
  refine lv_iconst (v := 2) hx hb d_Tre_isBefore_0 (by decide) ?_
  refine lv_istore_n hx hb d_Tre_isBefore_1 rfl hl (by decide) rfl (fun ls hl => ?_)
  have hl : lv_has ls 6 [(3, .int (2 : Int32)), (0, .ref (ad 7)), (1, .int x1), (2, .int x2)] := hl
  exact v_Tre_isBefore_2 X  _ _ _ _ _ _ _ hP hD hS (lv_sub hl [1, 2, 3, 0] rfl) h
theorem d_Tre_namesBefore_0 : decode prog_10_method_21_code 0 = .ok (.iconst 0, 1) := by decide +kernel
theorem d_Tre_namesBefore_1 : decode prog_10_method_21_code 1 = .ok (.istore_n 2, 1) := by decide +kernel
theorem d_Tre_namesBefore_2 : decode prog_10_method_21_code 2 = .ok (.bipush 6, 2) := by decide +kernel
theorem d_Tre_namesBefore_4 : decode prog_10_method_21_code 4 = .ok (.istore_n 3, 1) := by decide +kernel
theorem d_Tre_namesBefore_5 : decode prog_10_method_21_code 5 = .ok (.iload_n 3, 1) := by decide +kernel
theorem d_Tre_namesBefore_6 : decode prog_10_method_21_code 6 = .ok (.bipush 54, 2) := by decide +kernel
theorem d_Tre_namesBefore_8 : decode prog_10_method_21_code 8 = .ok (.if_icmp .ge 39, 3) := by decide +kernel
theorem d_Tre_namesBefore_11 : decode prog_10_method_21_code 11 = .ok (.aload_n 0, 1) := by decide +kernel
theorem d_Tre_namesBefore_12 : decode prog_10_method_21_code 12 = .ok (.getfield 23, 3) := by decide +kernel
theorem d_Tre_namesBefore_15 : decode prog_10_method_21_code 15 = .ok (.iload_n 3, 1) := by decide +kernel
theorem d_Tre_namesBefore_16 : decode prog_10_method_21_code 16 = .ok (.iaload, 1) := by decide +kernel
theorem d_Tre_namesBefore_17 : decode prog_10_method_21_code 17 = .ok (.ifCond .eq 24, 3) := by decide +kernel
theorem d_Tre_namesBefore_20 : decode prog_10_method_21_code 20 = .ok (.aload_n 0, 1) := by decide +kernel
theorem d_Tre_namesBefore_21 : decode prog_10_method_21_code 21 = .ok (.aload_n 0, 1) := by decide +kernel
theorem d_Tre_namesBefore_22 : decode prog_10_method_21_code 22 = .ok (.getfield 23, 3) := by decide +kernel
theorem d_Tre_namesBefore_25 : decode prog_10_method_21_code 25 = .ok (.iload_n 3, 1) := by decide +kernel
theorem d_Tre_namesBefore_26 : decode prog_10_method_21_code 26 = .ok (.iaload, 1) := by decide +kernel
theorem d_Tre_namesBefore_27 : decode prog_10_method_21_code 27 = .ok (.sipush 4095, 3) := by decide +kernel
theorem d_Tre_namesBefore_30 : decode prog_10_method_21_code 30 = .ok (.iand, 1) := by decide +kernel
theorem d_Tre_namesBefore_31 : decode prog_10_method_21_code 31 = .ok (.iload_n 1, 1) := by decide +kernel
theorem d_Tre_namesBefore_32 : decode prog_10_method_21_code 32 = .ok (.invokevirtual 138, 3) := by decide +kernel
theorem d_Tre_namesBefore_35 : decode prog_10_method_21_code 35 = .ok (.ifCond .eq 6, 3) := by decide +kernel
theorem d_Tre_namesBefore_38 : decode prog_10_method_21_code 38 = .ok (.iinc 2 1, 3) := by decide +kernel
theorem d_Tre_namesBefore_41 : decode prog_10_method_21_code 41 = .ok (.iinc 3 1, 3) := by decide +kernel
theorem d_Tre_namesBefore_44 : decode prog_10_method_21_code 44 = .ok (.goto (-39), 3) := by decide +kernel
theorem d_Tre_namesBefore_47 : decode prog_10_method_21_code 47 = .ok (.iload_n 2, 1) := by decide +kernel
theorem d_Tre_namesBefore_48 : decode prog_10_method_21_code 48 = .ok (.ireturn, 1) := by decide +kernel
set_option maxHeartbeats 4000000 in
set_option maxRecDepth 100000 in
theorem v_Tre_namesBefore_41 {p : Program} {l : Launch} {e : Env} {s : State} {m : MethodId} {args : Array Value} {below : List Frame} {meth : Method} {c : Code} {D : va_G} {ad : Nat → Nat} {ca : Nat → ClassId} {A : Nat → Prop} {FU : Nat} {q : Int32} {g : St} (X : FX p s m meth c prog_10_method_21_code 4 (some .int) "FlashFiles$Tree" D (tyF ca) A) {k5 : Int32 → Int32 → Int32 → St → Option (Int32)} (hk5 : ∀ (y1 y2 y3 : Int32) (H : Heap) (locs : List Loc) (ls : Array Slot), va_P D cls (wF ad ca g) H → va_D A (wF ad ca g) → va_S A s.heap H locs → lv_has ls 4 [(0, .ref (ad 7)), (1, .int y1), (2, .int y2), (3, .int y3)] → k5 y1 y2 y3 g = some q → W p l e (rmN 3) s m args below meth c H locs 0 0 (MQ below (fxQi D (tyF ca) A (wF ad ca g) q) args s 0 0 A) (F0 m 5 ls [])) {y1 : Int32} {y2 : Int32} {y3 : Int32}  {H : Heap} {locs : List Loc} {ls : Array Slot} (hP : va_P D cls (wF ad ca g) H) (hD : va_D A (wF ad ca g)) (hS : va_S A s.heap H locs) (hl : lv_has ls 4 [(0, .ref (ad 7)), (1, .int y1), (2, .int y2), (3, .int y3)]) (h : Tre_namesBefore_b41 FU k5 y1 y2 y3 g = some q) : W p l e (rmN 3) s m args below meth c H locs 0 0 (MQ below (fxQi D (tyF ca) A (wF ad ca g) q) args s 0 0 A) (F0 m 41 ls []) := by
  have hx := X.1
  have hb := X.2.1
  unfold Tre_namesBefore_b41 at h
  refine lv_iinc (k := 3) (v := (y3 + (1 : Int32))) hx hb d_Tre_namesBefore_41 hl rfl (oi_1 _) (by decide) rfl (fun ls hl => ?_)
  have hl : lv_has ls 4 [(3, .int (y3 + (1 : Int32))), (0, .ref (ad 7)), (1, .int y1), (2, .int y2)] := hl
  refine lv_goto (tgt := 5) hx hb d_Tre_namesBefore_44 (by decide) ?_
  exact hk5 _ _ _ _ _ _ hP hD hS (lv_sub hl [1, 2, 3, 0] rfl) h
set_option maxHeartbeats 4000000 in
set_option maxRecDepth 100000 in
theorem v_Tre_namesBefore_5 {p : Program} {l : Launch} {e : Env} {s : State} {m : MethodId} {args : Array Value} {below : List Frame} {meth : Method} {c : Code} {D : va_G} {ad : Nat → Nat} {ca : Nat → ClassId} {A : Nat → Prop} {FU : Nat} {q : Int32} {g : St} (X : FX p s m meth c prog_10_method_21_code 4 (some .int) "FlashFiles$Tree" D (tyF ca) A) : ∀ (n : Nat), ∀ (y1 y2 y3 : Int32) (H : Heap) (locs : List Loc) (ls : Array Slot), va_P D cls (wF ad ca g) H → va_D A (wF ad ca g) → va_S A s.heap H locs → lv_has ls 4 [(0, .ref (ad 7)), (1, .int y1), (2, .int y2), (3, .int y3)] → Tre_namesBefore_b5 FU n y1 y2 y3 g = some q → W p l e (rmN 3) s m args below meth c H locs 0 0 (MQ below (fxQi D (tyF ca) A (wF ad ca g) q) args s 0 0 A) (F0 m 5 ls []) := by
  have hx := X.1
  have hb := X.2.1
  intro n
  induction n with
  | zero =>
    intro y1 y2 y3 H locs ls hP hD hS hl h
    cases h
  | succ n ih =>
    intro y1 y2 y3 H locs ls hP hD hS hl h
    have h := h
    rw [Tre_namesBefore_b5.eq_2] at h
    refine lv_iload_n hx hb d_Tre_namesBefore_5 rfl (lv_at hl 3 rfl) ?_
    refine lv_bipush (v := 54) hx hb d_Tre_namesBefore_6 (by decide) ?_
    refine lv_icmp_ge (tgt := 47) hx hb d_Tre_namesBefore_8 (by decide) (fun hc => ?_) (fun hc => ?_)
    · have h := if_t hc h
      refine lv_iload_n hx hb d_Tre_namesBefore_47 rfl (lv_at hl 2 rfl) ?_
      cases h
      exact fx_iret X hP hD hS d_Tre_namesBefore_48
    · have h := if_f hc h
      refine lv_aload_n hx hb d_Tre_namesBefore_11 rfl (lv_at hl 0 rfl) ?_
      refine gF_tre_inode X hP d_Tre_namesBefore_12 ?_
      refine lv_iload_n hx hb d_Tre_namesBefore_15 rfl (lv_at hl 3 rfl) ?_
      obtain ⟨v1, e1, h⟩ := bd_some h
      refine rF_17 X hP e1 d_Tre_namesBefore_16 ?_
      refine lv_if_eq (tgt := 41) hx hb d_Tre_namesBefore_17 (by decide) (fun hc => ?_) (fun hc => ?_)
      · have h := if_t hc h
        exact v_Tre_namesBefore_41 X ih hP hD hS (lv_sub hl [0, 1, 2, 3] rfl) h
      · have h := if_f hc h
        refine lv_aload_n hx hb d_Tre_namesBefore_20 rfl (lv_at hl 0 rfl) ?_
        refine lv_aload_n hx hb d_Tre_namesBefore_21 rfl (lv_at hl 0 rfl) ?_
        refine gF_tre_inode X hP d_Tre_namesBefore_22 ?_
        refine lv_iload_n hx hb d_Tre_namesBefore_25 rfl (lv_at hl 3 rfl) ?_
        obtain ⟨v2, e1, h⟩ := bd_some h
        refine rF_17 X hP e1 d_Tre_namesBefore_26 ?_
        refine lv_sipush (v := 4095) hx hb d_Tre_namesBefore_27 (by decide) ?_
        refine lv_iand hx hb d_Tre_namesBefore_30 ?_
        refine lv_iload_n hx hb d_Tre_namesBefore_31 rfl (lv_at hl 1 rfl) ?_
        obtain ⟨v3, e1, h⟩ := bd_some h
        refine fx_i X (fx_runV (As := [.int (v2 &&& (4095 : Int32)), .int y1]) X (m_Tre_isBefore e1 _) hP hD kv_Tre_138 ⟨Nat.le_of_ble_eq_true rfl, Nat.le_of_ble_eq_true rfl⟩ 7 rfl rfl rfl hl.1 rfl (Nat.le_of_ble_eq_true rfl) d_Tre_namesBefore_32) hD hS (fun H locs hP hD hS => ?_)
        refine lv_if_eq (tgt := 41) hx hb d_Tre_namesBefore_35 (by decide) (fun hc => ?_) (fun hc => ?_)
        · have h := if_t hc h
          exact v_Tre_namesBefore_41 X ih hP hD hS (lv_sub hl [0, 1, 2, 3] rfl) h
        · have h := if_f hc h
          refine lv_iinc (k := 2) (v := (y2 + (1 : Int32))) hx hb d_Tre_namesBefore_38 hl rfl (oi_1 _) (by decide) rfl (fun ls hl => ?_)
          have hl : lv_has ls 4 [(2, .int (y2 + (1 : Int32))), (0, .ref (ad 7)), (1, .int y1), (3, .int y3)] := hl
          exact v_Tre_namesBefore_41 X ih hP hD hS (lv_sub hl [1, 2, 0, 3] rfl) h
set_option maxHeartbeats 4000000 in
set_option maxRecDepth 100000 in
theorem m_Tre_namesBefore {l : Launch} {D : va_G} {ad : Nat → Nat} {ca : Nat → ClassId} {FU : Nat} {x1 : Int32} {g : St} {q : Int32} (h : Tre_namesBefore FU x1 g = some q) : CI l ⟨"FlashFiles$Tree", "namesBefore", "(I)I"⟩ prog_10_method_21_code 4 3 (some .int) D (tyF ca) (wF ad ca g) [.ref (ad 7), .int x1] q (wF ad ca g) := by
  intro sz
  refine Met.fx (Qc := fun A => fxQi D (tyF ca) A (wF ad ca g) q) (by decide) (Nat.le_of_ble_eq_true rfl) ?_
  intro p e s m below meth c A ls X hP hD hl
  have hl : lv_has ls 4 [(0, .ref (ad 7)), (1, .int x1)] := hl
  have hS : va_S A s.heap s.heap [] := va_S.rf
  have hx := X.1
  have hb := X.2.1
  unfold Tre_namesBefore at h
  refine lv_iconst (v := 0) hx hb d_Tre_namesBefore_0 (by decide) ?_
  refine lv_istore_n hx hb d_Tre_namesBefore_1 rfl hl (by decide) rfl (fun ls hl => ?_)
  have hl : lv_has ls 4 [(2, .int (0 : Int32)), (0, .ref (ad 7)), (1, .int x1)] := hl
  refine lv_bipush (v := 6) hx hb d_Tre_namesBefore_2 (by decide) ?_
  refine lv_istore_n hx hb d_Tre_namesBefore_4 rfl hl (by decide) rfl (fun ls hl => ?_)
  have hl : lv_has ls 4 [(3, .int (6 : Int32)), (2, .int (0 : Int32)), (0, .ref (ad 7)), (1, .int x1)] := hl
  exact v_Tre_namesBefore_5 X  _ _ _ _ _ _ _ hP hD hS (lv_sub hl [2, 3, 1, 0] rfl) h
theorem d_Tre_isName_0 : decode prog_10_method_17_code 0 = .ok (.iconst 0, 1) := by decide +kernel
theorem d_Tre_isName_1 : decode prog_10_method_17_code 1 = .ok (.istore_n 3, 1) := by decide +kernel
theorem d_Tre_isName_2 : decode prog_10_method_17_code 2 = .ok (.iload_n 3, 1) := by decide +kernel
theorem d_Tre_isName_3 : decode prog_10_method_17_code 3 = .ok (.iconst 5, 1) := by decide +kernel
theorem d_Tre_isName_4 : decode prog_10_method_17_code 4 = .ok (.if_icmp .ge 28, 3) := by decide +kernel
theorem d_Tre_isName_7 : decode prog_10_method_17_code 7 = .ok (.aload_n 0, 1) := by decide +kernel
theorem d_Tre_isName_8 : decode prog_10_method_17_code 8 = .ok (.getfield 9, 3) := by decide +kernel
theorem d_Tre_isName_11 : decode prog_10_method_17_code 11 = .ok (.iload_n 1, 1) := by decide +kernel
theorem d_Tre_isName_12 : decode prog_10_method_17_code 12 = .ok (.iconst 2, 1) := by decide +kernel
theorem d_Tre_isName_13 : decode prog_10_method_17_code 13 = .ok (.iload_n 3, 1) := by decide +kernel
theorem d_Tre_isName_14 : decode prog_10_method_17_code 14 = .ok (.iadd, 1) := by decide +kernel
theorem d_Tre_isName_15 : decode prog_10_method_17_code 15 = .ok (.invokevirtual 36, 3) := by decide +kernel
theorem d_Tre_isName_18 : decode prog_10_method_17_code 18 = .ok (.aload_n 2, 1) := by decide +kernel
theorem d_Tre_isName_19 : decode prog_10_method_17_code 19 = .ok (.iload_n 3, 1) := by decide +kernel
theorem d_Tre_isName_20 : decode prog_10_method_17_code 20 = .ok (.iaload, 1) := by decide +kernel
theorem d_Tre_isName_21 : decode prog_10_method_17_code 21 = .ok (.if_icmp .eq 5, 3) := by decide +kernel
theorem d_Tre_isName_24 : decode prog_10_method_17_code 24 = .ok (.iconst 0, 1) := by decide +kernel
theorem d_Tre_isName_25 : decode prog_10_method_17_code 25 = .ok (.ireturn, 1) := by decide +kernel
theorem d_Tre_isName_26 : decode prog_10_method_17_code 26 = .ok (.iinc 3 1, 3) := by decide +kernel
theorem d_Tre_isName_29 : decode prog_10_method_17_code 29 = .ok (.goto (-27), 3) := by decide +kernel
theorem d_Tre_isName_32 : decode prog_10_method_17_code 32 = .ok (.iconst 1, 1) := by decide +kernel
theorem d_Tre_isName_33 : decode prog_10_method_17_code 33 = .ok (.ireturn, 1) := by decide +kernel
set_option maxHeartbeats 4000000 in
set_option maxRecDepth 100000 in
theorem v_Tre_isName_2_2 {p : Program} {l : Launch} {e : Env} {s : State} {m : MethodId} {args : Array Value} {below : List Frame} {meth : Method} {c : Code} {D : va_G} {ad : Nat → Nat} {ca : Nat → ClassId} {A : Nat → Prop} {FU : Nat} {q : Int32} {g : St} (X : FX p s m meth c prog_10_method_17_code 4 (some .boolean) "FlashFiles$Tree" D (tyF ca) A) : ∀ (n : Nat), ∀ (y1 y3 : Int32) (H : Heap) (locs : List Loc) (ls : Array Slot), va_P D cls (wF ad ca g) H → va_D A (wF ad ca g) → va_S A s.heap H locs → lv_has ls 4 [(0, .ref (ad 7)), (1, .int y1), (2, .ref (ad 13)), (3, .int y3)] → Tre_isName_b2 FU 2 n y1 y3 g = some q → W p l e (rmN 2) s m args below meth c H locs 0 0 (MQ below (fxQi D (tyF ca) A (wF ad ca g) q) args s 0 0 A) (F0 m 2 ls []) := by
  have hx := X.1
  have hb := X.2.1
  intro n
  induction n with
  | zero =>
    intro y1 y3 H locs ls hP hD hS hl h
    cases h
  | succ n ih =>
    intro y1 y3 H locs ls hP hD hS hl h
    have h := h
    rw [Tre_isName_b2.eq_2] at h
    refine lv_iload_n hx hb d_Tre_isName_2 rfl (lv_at hl 3 rfl) ?_
    refine lv_iconst (v := 5) hx hb d_Tre_isName_3 (by decide) ?_
    refine lv_icmp_ge (tgt := 32) hx hb d_Tre_isName_4 (by decide) (fun hc => ?_) (fun hc => ?_)
    · have h := if_t hc h
      refine lv_iconst (v := 1) hx hb d_Tre_isName_32 (by decide) ?_
      cases h
      exact fx_zret X hP hD hS (Or.inr rfl) d_Tre_isName_33
    · have h := if_f hc h
      refine lv_aload_n hx hb d_Tre_isName_7 rfl (lv_at hl 0 rfl) ?_
      refine gF_tre_device X hP d_Tre_isName_8 ?_
      refine lv_iload_n hx hb d_Tre_isName_11 rfl (lv_at hl 1 rfl) ?_
      refine lv_iconst (v := 2) hx hb d_Tre_isName_12 (by decide) ?_
      refine lv_iload_n hx hb d_Tre_isName_13 rfl (lv_at hl 3 rfl) ?_
      refine lv_iadd hx hb d_Tre_isName_14 ?_
      obtain ⟨v1, e1, h⟩ := bd_some h
      refine fx_i X (fx_runV (As := [.int y1, .int ((2 : Int32) + y3)]) X (m_Dev_word e1 _) hP hD kv_Tre_36 ⟨Nat.le_of_ble_eq_true rfl, Nat.le_of_ble_eq_true rfl⟩ 3 rfl rfl rfl hl.1 rfl (Nat.le_of_ble_eq_true rfl) d_Tre_isName_15) hD hS (fun H locs hP hD hS => ?_)
      refine lv_aload_n hx hb d_Tre_isName_18 rfl (lv_at hl 2 rfl) ?_
      refine lv_iload_n hx hb d_Tre_isName_19 rfl (lv_at hl 3 rfl) ?_
      obtain ⟨v2, e1, h⟩ := bd_some h
      refine rF_2 X hP e1 d_Tre_isName_20 ?_
      refine lv_icmp_eq (tgt := 26) hx hb d_Tre_isName_21 (by decide) (fun hc => ?_) (fun hc => ?_)
      · have h := if_t hc h
        refine lv_iinc (k := 3) (v := (y3 + (1 : Int32))) hx hb d_Tre_isName_26 hl rfl (oi_1 _) (by decide) rfl (fun ls hl => ?_)
        have hl : lv_has ls 4 [(3, .int (y3 + (1 : Int32))), (0, .ref (ad 7)), (1, .int y1), (2, .ref (ad 13))] := hl
        refine lv_goto (tgt := 2) hx hb d_Tre_isName_29 (by decide) ?_
        exact ih _ _ _ _ _ hP hD hS (lv_sub hl [1, 2, 3, 0] rfl) h
      · have h := if_f hc h
        refine lv_iconst (v := 0) hx hb d_Tre_isName_24 (by decide) ?_
        cases h
        exact fx_zret X hP hD hS (Or.inl rfl) d_Tre_isName_25
set_option maxHeartbeats 4000000 in
set_option maxRecDepth 100000 in
theorem m_Tre_isName_2 {l : Launch} {D : va_G} {ad : Nat → Nat} {ca : Nat → ClassId} {FU : Nat} {x1 : Int32} {g : St} {q : Int32} (h : Tre_isName FU 2 x1 g = some q) : CI l ⟨"FlashFiles$Tree", "isName", "(I[I)Z"⟩ prog_10_method_17_code 4 2 (some .boolean) D (tyF ca) (wF ad ca g) [.ref (ad 7), .int x1, .ref (ad 13)] q (wF ad ca g) := by
  intro sz
  refine Met.fx (Qc := fun A => fxQi D (tyF ca) A (wF ad ca g) q) (by decide) (Nat.le_of_ble_eq_true rfl) ?_
  intro p e s m below meth c A ls X hP hD hl
  have hl : lv_has ls 4 [(0, .ref (ad 7)), (1, .int x1), (2, .ref (ad 13))] := hl
  have hS : va_S A s.heap s.heap [] := va_S.rf
  have hx := X.1
  have hb := X.2.1
  unfold Tre_isName at h
  refine lv_iconst (v := 0) hx hb d_Tre_isName_0 (by decide) ?_
  refine lv_istore_n hx hb d_Tre_isName_1 rfl hl (by decide) rfl (fun ls hl => ?_)
  have hl : lv_has ls 4 [(3, .int (0 : Int32)), (0, .ref (ad 7)), (1, .int x1), (2, .ref (ad 13))] := hl
  exact v_Tre_isName_2_2 X  _ _ _ _ _ _ hP hD hS (lv_sub hl [1, 2, 3, 0] rfl) h
theorem d_Tre_slotOf_0 : decode prog_10_method_16_code 0 = .ok (.aload_n 2, 1) := by decide +kernel
theorem d_Tre_slotOf_1 : decode prog_10_method_16_code 1 = .ok (.iconst 0, 1) := by decide +kernel
theorem d_Tre_slotOf_2 : decode prog_10_method_16_code 2 = .ok (.invokestatic 94, 3) := by decide +kernel
theorem d_Tre_slotOf_5 : decode prog_10_method_16_code 5 = .ok (.istore_n 3, 1) := by decide +kernel
theorem d_Tre_slotOf_6 : decode prog_10_method_16_code 6 = .ok (.iload_n 3, 1) := by decide +kernel
theorem d_Tre_slotOf_7 : decode prog_10_method_16_code 7 = .ok (.bipush 48, 2) := by decide +kernel
theorem d_Tre_slotOf_9 : decode prog_10_method_16_code 9 = .ok (.irem, 1) := by decide +kernel
theorem d_Tre_slotOf_10 : decode prog_10_method_16_code 10 = .ok (.istore 4, 2) := by decide +kernel
theorem d_Tre_slotOf_12 : decode prog_10_method_16_code 12 = .ok (.aload_n 0, 1) := by decide +kernel
theorem d_Tre_slotOf_13 : decode prog_10_method_16_code 13 = .ok (.iload_n 1, 1) := by decide +kernel
theorem d_Tre_slotOf_14 : decode prog_10_method_16_code 14 = .ok (.iconst 1, 1) := by decide +kernel
theorem d_Tre_slotOf_15 : decode prog_10_method_16_code 15 = .ok (.invokevirtual 42, 3) := by decide +kernel
theorem d_Tre_slotOf_18 : decode prog_10_method_16_code 18 = .ok (.istore 5, 2) := by decide +kernel
theorem d_Tre_slotOf_20 : decode prog_10_method_16_code 20 = .ok (.iconst 0, 1) := by decide +kernel
theorem d_Tre_slotOf_21 : decode prog_10_method_16_code 21 = .ok (.istore 6, 2) := by decide +kernel
theorem d_Tre_slotOf_23 : decode prog_10_method_16_code 23 = .ok (.iload 6, 2) := by decide +kernel
theorem d_Tre_slotOf_25 : decode prog_10_method_16_code 25 = .ok (.bipush 48, 2) := by decide +kernel
theorem d_Tre_slotOf_27 : decode prog_10_method_16_code 27 = .ok (.if_icmp .ge 74, 3) := by decide +kernel
theorem d_Tre_slotOf_30 : decode prog_10_method_16_code 30 = .ok (.iload 5, 2) := by decide +kernel
theorem d_Tre_slotOf_32 : decode prog_10_method_16_code 32 = .ok (.ifCond .le 69, 3) := by decide +kernel
theorem d_Tre_slotOf_35 : decode prog_10_method_16_code 35 = .ok (.aload_n 0, 1) := by decide +kernel
theorem d_Tre_slotOf_36 : decode prog_10_method_16_code 36 = .ok (.iload_n 1, 1) := by decide +kernel
theorem d_Tre_slotOf_37 : decode prog_10_method_16_code 37 = .ok (.iload 4, 2) := by decide +kernel
theorem d_Tre_slotOf_39 : decode prog_10_method_16_code 39 = .ok (.invokevirtual 91, 3) := by decide +kernel
theorem d_Tre_slotOf_42 : decode prog_10_method_16_code 42 = .ok (.istore 7, 2) := by decide +kernel
theorem d_Tre_slotOf_44 : decode prog_10_method_16_code 44 = .ok (.iload 7, 2) := by decide +kernel
theorem d_Tre_slotOf_46 : decode prog_10_method_16_code 46 = .ok (.ifCond .eq 32, 3) := by decide +kernel
theorem d_Tre_slotOf_49 : decode prog_10_method_16_code 49 = .ok (.iinc 5 (-1), 3) := by decide +kernel
theorem d_Tre_slotOf_52 : decode prog_10_method_16_code 52 = .ok (.iload 7, 2) := by decide +kernel
theorem d_Tre_slotOf_54 : decode prog_10_method_16_code 54 = .ok (.bipush 12, 2) := by decide +kernel
theorem d_Tre_slotOf_56 : decode prog_10_method_16_code 56 = .ok (.iushr, 1) := by decide +kernel
theorem d_Tre_slotOf_57 : decode prog_10_method_16_code 57 = .ok (.iload_n 3, 1) := by decide +kernel
theorem d_Tre_slotOf_58 : decode prog_10_method_16_code 58 = .ok (.if_icmp .ne 20, 3) := by decide +kernel
theorem d_Tre_slotOf_61 : decode prog_10_method_16_code 61 = .ok (.aload_n 0, 1) := by decide +kernel
theorem d_Tre_slotOf_62 : decode prog_10_method_16_code 62 = .ok (.iload 7, 2) := by decide +kernel
theorem d_Tre_slotOf_64 : decode prog_10_method_16_code 64 = .ok (.sipush 4095, 3) := by decide +kernel
theorem d_Tre_slotOf_67 : decode prog_10_method_16_code 67 = .ok (.iand, 1) := by decide +kernel
theorem d_Tre_slotOf_68 : decode prog_10_method_16_code 68 = .ok (.aload_n 2, 1) := by decide +kernel
theorem d_Tre_slotOf_69 : decode prog_10_method_16_code 69 = .ok (.invokevirtual 98, 3) := by decide +kernel
theorem d_Tre_slotOf_72 : decode prog_10_method_16_code 72 = .ok (.ifCond .eq 6, 3) := by decide +kernel
theorem d_Tre_slotOf_75 : decode prog_10_method_16_code 75 = .ok (.iload 4, 2) := by decide +kernel
theorem d_Tre_slotOf_77 : decode prog_10_method_16_code 77 = .ok (.ireturn, 1) := by decide +kernel
theorem d_Tre_slotOf_78 : decode prog_10_method_16_code 78 = .ok (.iload 4, 2) := by decide +kernel
theorem d_Tre_slotOf_80 : decode prog_10_method_16_code 80 = .ok (.bipush 47, 2) := by decide +kernel
theorem d_Tre_slotOf_82 : decode prog_10_method_16_code 82 = .ok (.if_icmp .ne 7, 3) := by decide +kernel
theorem d_Tre_slotOf_85 : decode prog_10_method_16_code 85 = .ok (.iconst 0, 1) := by decide +kernel
theorem d_Tre_slotOf_86 : decode prog_10_method_16_code 86 = .ok (.goto 7, 3) := by decide +kernel
theorem d_Tre_slotOf_89 : decode prog_10_method_16_code 89 = .ok (.iload 4, 2) := by decide +kernel
theorem d_Tre_slotOf_91 : decode prog_10_method_16_code 91 = .ok (.iconst 1, 1) := by decide +kernel
theorem d_Tre_slotOf_92 : decode prog_10_method_16_code 92 = .ok (.iadd, 1) := by decide +kernel
theorem d_Tre_slotOf_93 : decode prog_10_method_16_code 93 = .ok (.istore 4, 2) := by decide +kernel
theorem d_Tre_slotOf_95 : decode prog_10_method_16_code 95 = .ok (.iinc 6 1, 3) := by decide +kernel
theorem d_Tre_slotOf_98 : decode prog_10_method_16_code 98 = .ok (.goto (-75), 3) := by decide +kernel
theorem d_Tre_slotOf_101 : decode prog_10_method_16_code 101 = .ok (.iconst (-1), 1) := by decide +kernel
theorem d_Tre_slotOf_102 : decode prog_10_method_16_code 102 = .ok (.ireturn, 1) := by decide +kernel
set_option maxHeartbeats 4000000 in
set_option maxRecDepth 100000 in
theorem v_Tre_slotOf_93_2 {p : Program} {l : Launch} {e : Env} {s : State} {m : MethodId} {args : Array Value} {below : List Frame} {meth : Method} {c : Code} {D : va_G} {ad : Nat → Nat} {ca : Nat → ClassId} {A : Nat → Prop} {FU : Nat} {q : Int32} {g : St} (X : FX p s m meth c prog_10_method_16_code 8 (some .int) "FlashFiles$Tree" D (tyF ca) A) {k23 : Int32 → Int32 → Int32 → Int32 → Int32 → St → Option (Int32)} (hk23 : ∀ (y1 y3 y4 y5 y6 : Int32) (H : Heap) (locs : List Loc) (ls : Array Slot), va_P D cls (wF ad ca g) H → va_D A (wF ad ca g) → va_S A s.heap H locs → lv_has ls 8 [(0, .ref (ad 7)), (1, .int y1), (2, .ref (ad 13)), (3, .int y3), (4, .int y4), (5, .int y5), (6, .int y6)] → k23 y1 y3 y4 y5 y6 g = some q → W p l e (rmN 4) s m args below meth c H locs 0 0 (MQ below (fxQi D (tyF ca) A (wF ad ca g) q) args s 0 0 A) (F0 m 23 ls [])) {y1 : Int32} {y3 : Int32} {y5 : Int32} {y6 : Int32} {z0 : Int32}  {H : Heap} {locs : List Loc} {ls : Array Slot} (hP : va_P D cls (wF ad ca g) H) (hD : va_D A (wF ad ca g)) (hS : va_S A s.heap H locs) (hl : lv_has ls 8 [(0, .ref (ad 7)), (1, .int y1), (2, .ref (ad 13)), (3, .int y3), (5, .int y5), (6, .int y6)]) (h : Tre_slotOf_b93 FU 2 k23 y1 y3 y5 y6 z0 g = some q) : W p l e (rmN 4) s m args below meth c H locs 0 0 (MQ below (fxQi D (tyF ca) A (wF ad ca g) q) args s 0 0 A) (F0 m 93 ls [.int z0]) := by
  have hx := X.1
  have hb := X.2.1
  unfold Tre_slotOf_b93 at h
  refine lv_istore hx hb d_Tre_slotOf_93 hl (by decide) rfl (fun ls hl => ?_)
  have hl : lv_has ls 8 [(4, .int z0), (0, .ref (ad 7)), (1, .int y1), (2, .ref (ad 13)), (3, .int y3), (5, .int y5), (6, .int y6)] := hl
  refine lv_iinc (k := 6) (v := (y6 + (1 : Int32))) hx hb d_Tre_slotOf_95 hl rfl (oi_1 _) (by decide) rfl (fun ls hl => ?_)
  have hl : lv_has ls 8 [(6, .int (y6 + (1 : Int32))), (4, .int z0), (0, .ref (ad 7)), (1, .int y1), (2, .ref (ad 13)), (3, .int y3), (5, .int y5)] := hl
  refine lv_goto (tgt := 23) hx hb d_Tre_slotOf_98 (by decide) ?_
  exact hk23 _ _ _ _ _ _ _ _ hP hD hS (lv_sub hl [2, 3, 4, 5, 1, 6, 0] rfl) h
set_option maxHeartbeats 4000000 in
set_option maxRecDepth 100000 in
theorem v_Tre_slotOf_78_2 {p : Program} {l : Launch} {e : Env} {s : State} {m : MethodId} {args : Array Value} {below : List Frame} {meth : Method} {c : Code} {D : va_G} {ad : Nat → Nat} {ca : Nat → ClassId} {A : Nat → Prop} {FU : Nat} {q : Int32} {g : St} (X : FX p s m meth c prog_10_method_16_code 8 (some .int) "FlashFiles$Tree" D (tyF ca) A) {k23 : Int32 → Int32 → Int32 → Int32 → Int32 → St → Option (Int32)} (hk23 : ∀ (y1 y3 y4 y5 y6 : Int32) (H : Heap) (locs : List Loc) (ls : Array Slot), va_P D cls (wF ad ca g) H → va_D A (wF ad ca g) → va_S A s.heap H locs → lv_has ls 8 [(0, .ref (ad 7)), (1, .int y1), (2, .ref (ad 13)), (3, .int y3), (4, .int y4), (5, .int y5), (6, .int y6)] → k23 y1 y3 y4 y5 y6 g = some q → W p l e (rmN 4) s m args below meth c H locs 0 0 (MQ below (fxQi D (tyF ca) A (wF ad ca g) q) args s 0 0 A) (F0 m 23 ls [])) {y1 : Int32} {y3 : Int32} {y4 : Int32} {y5 : Int32} {y6 : Int32}  {H : Heap} {locs : List Loc} {ls : Array Slot} (hP : va_P D cls (wF ad ca g) H) (hD : va_D A (wF ad ca g)) (hS : va_S A s.heap H locs) (hl : lv_has ls 8 [(0, .ref (ad 7)), (1, .int y1), (2, .ref (ad 13)), (3, .int y3), (4, .int y4), (5, .int y5), (6, .int y6)]) (h : Tre_slotOf_b78 FU 2 k23 y1 y3 y4 y5 y6 g = some q) : W p l e (rmN 4) s m args below meth c H locs 0 0 (MQ below (fxQi D (tyF ca) A (wF ad ca g) q) args s 0 0 A) (F0 m 78 ls []) := by
  have hx := X.1
  have hb := X.2.1
  unfold Tre_slotOf_b78 at h
  refine lv_iload hx hb d_Tre_slotOf_78 (lv_at hl 4 rfl) ?_
  refine lv_bipush (v := 47) hx hb d_Tre_slotOf_80 (by decide) ?_
  refine lv_icmp_ne (tgt := 89) hx hb d_Tre_slotOf_82 (by decide) (fun hc => ?_) (fun hc => ?_)
  · have h := if_f hc h
    refine lv_iload hx hb d_Tre_slotOf_89 (lv_at hl 4 rfl) ?_
    refine lv_iconst (v := 1) hx hb d_Tre_slotOf_91 (by decide) ?_
    refine lv_iadd hx hb d_Tre_slotOf_92 ?_
    exact v_Tre_slotOf_93_2 X hk23 hP hD hS (lv_sub hl [0, 1, 2, 3, 5, 6] rfl) h
  · have h := if_t hc h
    refine lv_iconst (v := 0) hx hb d_Tre_slotOf_85 (by decide) ?_
    refine lv_goto (tgt := 93) hx hb d_Tre_slotOf_86 (by decide) ?_
    exact v_Tre_slotOf_93_2 X hk23 hP hD hS (lv_sub hl [0, 1, 2, 3, 5, 6] rfl) h
set_option maxHeartbeats 4000000 in
set_option maxRecDepth 100000 in
theorem v_Tre_slotOf_23_2 {p : Program} {l : Launch} {e : Env} {s : State} {m : MethodId} {args : Array Value} {below : List Frame} {meth : Method} {c : Code} {D : va_G} {ad : Nat → Nat} {ca : Nat → ClassId} {A : Nat → Prop} {FU : Nat} {q : Int32} {g : St} (X : FX p s m meth c prog_10_method_16_code 8 (some .int) "FlashFiles$Tree" D (tyF ca) A) : ∀ (n : Nat), ∀ (y1 y3 y4 y5 y6 : Int32) (H : Heap) (locs : List Loc) (ls : Array Slot), va_P D cls (wF ad ca g) H → va_D A (wF ad ca g) → va_S A s.heap H locs → lv_has ls 8 [(0, .ref (ad 7)), (1, .int y1), (2, .ref (ad 13)), (3, .int y3), (4, .int y4), (5, .int y5), (6, .int y6)] → Tre_slotOf_b23 FU 2 n y1 y3 y4 y5 y6 g = some q → W p l e (rmN 4) s m args below meth c H locs 0 0 (MQ below (fxQi D (tyF ca) A (wF ad ca g) q) args s 0 0 A) (F0 m 23 ls []) := by
  have hx := X.1
  have hb := X.2.1
  intro n
  induction n with
  | zero =>
    intro y1 y3 y4 y5 y6 H locs ls hP hD hS hl h
    cases h
  | succ n ih =>
    intro y1 y3 y4 y5 y6 H locs ls hP hD hS hl h
    have h := h
    rw [Tre_slotOf_b23.eq_2] at h
    refine lv_iload hx hb d_Tre_slotOf_23 (lv_at hl 6 rfl) ?_
    refine lv_bipush (v := 48) hx hb d_Tre_slotOf_25 (by decide) ?_
    refine lv_icmp_ge (tgt := 101) hx hb d_Tre_slotOf_27 (by decide) (fun hc => ?_) (fun hc => ?_)
    · have h := if_t hc h
      refine lv_iconst (v := -1) hx hb d_Tre_slotOf_101 (by decide) ?_
      cases h
      exact fx_iret X hP hD hS d_Tre_slotOf_102
    · have h := if_f hc h
      refine lv_iload hx hb d_Tre_slotOf_30 (lv_at hl 5 rfl) ?_
      refine lv_if_le (tgt := 101) hx hb d_Tre_slotOf_32 (by decide) (fun hc => ?_) (fun hc => ?_)
      · have h := if_t hc h
        refine lv_iconst (v := -1) hx hb d_Tre_slotOf_101 (by decide) ?_
        cases h
        exact fx_iret X hP hD hS d_Tre_slotOf_102
      · have h := if_f hc h
        refine lv_aload_n hx hb d_Tre_slotOf_35 rfl (lv_at hl 0 rfl) ?_
        refine lv_iload_n hx hb d_Tre_slotOf_36 rfl (lv_at hl 1 rfl) ?_
        refine lv_iload hx hb d_Tre_slotOf_37 (lv_at hl 4 rfl) ?_
        obtain ⟨v1, e1, h⟩ := bd_some h
        refine fx_i X (fx_runV (As := [.int y1, .int y4]) X (m_Tre_slotWord e1 _) hP hD kv_Tre_91 ⟨Nat.le_of_ble_eq_true rfl, Nat.le_of_ble_eq_true rfl⟩ 7 rfl rfl rfl hl.1 rfl (Nat.le_of_ble_eq_true rfl) d_Tre_slotOf_39) hD hS (fun H locs hP hD hS => ?_)
        refine lv_istore hx hb d_Tre_slotOf_42 hl (by decide) rfl (fun ls hl => ?_)
        have hl : lv_has ls 8 [(7, .int v1), (0, .ref (ad 7)), (1, .int y1), (2, .ref (ad 13)), (3, .int y3), (4, .int y4), (5, .int y5), (6, .int y6)] := hl
        refine lv_iload hx hb d_Tre_slotOf_44 (lv_at hl 0 rfl) ?_
        refine lv_if_eq (tgt := 78) hx hb d_Tre_slotOf_46 (by decide) (fun hc => ?_) (fun hc => ?_)
        · have h := if_t hc h
          exact v_Tre_slotOf_78_2 X ih hP hD hS (lv_sub hl [1, 2, 3, 4, 5, 6, 7] rfl) h
        · have h := if_f hc h
          refine lv_iinc (k := 6) (v := (y5 + (-1 : Int32))) hx hb d_Tre_slotOf_49 hl rfl (oi_m1 _) (by decide) rfl (fun ls hl => ?_)
          have hl : lv_has ls 8 [(5, .int (y5 + (-1 : Int32))), (7, .int v1), (0, .ref (ad 7)), (1, .int y1), (2, .ref (ad 13)), (3, .int y3), (4, .int y4), (6, .int y6)] := hl
          refine lv_iload hx hb d_Tre_slotOf_52 (lv_at hl 1 rfl) ?_
          refine lv_bipush (v := 12) hx hb d_Tre_slotOf_54 (by decide) ?_
          refine lv_iushr (v := ush v1 (12 : Int32)) hx hb d_Tre_slotOf_56 rfl ?_
          refine lv_iload_n hx hb d_Tre_slotOf_57 rfl (lv_at hl 5 rfl) ?_
          refine lv_icmp_ne (tgt := 78) hx hb d_Tre_slotOf_58 (by decide) (fun hc => ?_) (fun hc => ?_)
          · have h := if_f hc h
            exact v_Tre_slotOf_78_2 X ih hP hD hS (lv_sub hl [2, 3, 4, 5, 6, 0, 7] rfl) h
          · have h := if_t hc h
            refine lv_aload_n hx hb d_Tre_slotOf_61 rfl (lv_at hl 2 rfl) ?_
            refine lv_iload hx hb d_Tre_slotOf_62 (lv_at hl 1 rfl) ?_
            refine lv_sipush (v := 4095) hx hb d_Tre_slotOf_64 (by decide) ?_
            refine lv_iand hx hb d_Tre_slotOf_67 ?_
            refine lv_aload_n hx hb d_Tre_slotOf_68 rfl (lv_at hl 4 rfl) ?_
            obtain ⟨v2, e1, h⟩ := bd_some h
            refine fx_i X (fx_runV (As := [.int (v1 &&& (4095 : Int32)), .ref (ad 13)]) X (m_Tre_isName_2 e1 _) hP hD kv_Tre_98 ⟨Nat.le_of_ble_eq_true rfl, Nat.le_of_ble_eq_true rfl⟩ 7 rfl rfl rfl hl.1 rfl (Nat.le_of_ble_eq_true rfl) d_Tre_slotOf_69) hD hS (fun H locs hP hD hS => ?_)
            refine lv_if_eq (tgt := 78) hx hb d_Tre_slotOf_72 (by decide) (fun hc => ?_) (fun hc => ?_)
            · have h := if_t hc h
              exact v_Tre_slotOf_78_2 X ih hP hD hS (lv_sub hl [2, 3, 4, 5, 6, 0, 7] rfl) h
            · have h := if_f hc h
              refine lv_iload hx hb d_Tre_slotOf_75 (lv_at hl 6 rfl) ?_
              cases h
              exact fx_iret X hP hD hS d_Tre_slotOf_77
set_option maxHeartbeats 4000000 in
set_option maxRecDepth 100000 in
theorem m_Tre_slotOf_2 {l : Launch} {D : va_G} {ad : Nat → Nat} {ca : Nat → ClassId} {FU : Nat} {x1 : Int32} {g : St} {q : Int32} (h : Tre_slotOf FU 2 x1 g = some q) : CI l ⟨"FlashFiles$Tree", "slotOf", "(I[I)I"⟩ prog_10_method_16_code 8 4 (some .int) D (tyF ca) (wF ad ca g) [.ref (ad 7), .int x1, .ref (ad 13)] q (wF ad ca g) := by
  intro sz
  refine Met.fx (Qc := fun A => fxQi D (tyF ca) A (wF ad ca g) q) (by decide) (Nat.le_of_ble_eq_true rfl) ?_
  intro p e s m below meth c A ls X hP hD hl
  have hl : lv_has ls 8 [(0, .ref (ad 7)), (1, .int x1), (2, .ref (ad 13))] := hl
  have hS : va_S A s.heap s.heap [] := va_S.rf
  have hx := X.1
  have hb := X.2.1
  unfold Tre_slotOf at h
  refine lv_aload_n hx hb d_Tre_slotOf_0 rfl (lv_at hl 2 rfl) ?_
  refine lv_iconst (v := 0) hx hb d_Tre_slotOf_1 (by decide) ?_
  obtain ⟨v3, e1, h⟩ := bd_some h
  refine fx_i X (fx_runN X (m_FF_hashOf_2 e1 _) (As := [.ref (ad 13), .int (0 : Int32)]) hP hD kn_Tre_94 ⟨Nat.le_of_ble_eq_true rfl, Nat.le_of_ble_eq_true rfl⟩ rfl hl.1 rfl (Nat.le_of_ble_eq_true rfl) d_Tre_slotOf_2) hD hS (fun H locs hP hD hS => ?_)
  refine lv_istore_n hx hb d_Tre_slotOf_5 rfl hl (by decide) rfl (fun ls hl => ?_)
  have hl : lv_has ls 8 [(3, .int v3), (0, .ref (ad 7)), (1, .int x1), (2, .ref (ad 13))] := hl
  refine lv_iload_n hx hb d_Tre_slotOf_6 rfl (lv_at hl 0 rfl) ?_
  refine lv_bipush (v := 48) hx hb d_Tre_slotOf_7 (by decide) ?_
  refine lv_irem hx hb d_Tre_slotOf_9 (by decide) ?_
  refine lv_istore hx hb d_Tre_slotOf_10 hl (by decide) rfl (fun ls hl => ?_)
  have hl : lv_has ls 8 [(4, .int (v3 - v3 / (48 : Int32) * (48 : Int32))), (3, .int v3), (0, .ref (ad 7)), (1, .int x1), (2, .ref (ad 13))] := hl
  refine lv_aload_n hx hb d_Tre_slotOf_12 rfl (lv_at hl 2 rfl) ?_
  refine lv_iload_n hx hb d_Tre_slotOf_13 rfl (lv_at hl 3 rfl) ?_
  refine lv_iconst (v := 1) hx hb d_Tre_slotOf_14 (by decide) ?_
  obtain ⟨v4, e1, h⟩ := bd_some h
  refine fx_i X (fx_runV (As := [.int x1, .int (1 : Int32)]) X (m_Tre_wordOf e1 _) hP hD kv_Tre_42 ⟨Nat.le_of_ble_eq_true rfl, Nat.le_of_ble_eq_true rfl⟩ 7 rfl rfl rfl hl.1 rfl (Nat.le_of_ble_eq_true rfl) d_Tre_slotOf_15) hD hS (fun H locs hP hD hS => ?_)
  refine lv_istore hx hb d_Tre_slotOf_18 hl (by decide) rfl (fun ls hl => ?_)
  have hl : lv_has ls 8 [(5, .int v4), (4, .int (v3 - v3 / (48 : Int32) * (48 : Int32))), (3, .int v3), (0, .ref (ad 7)), (1, .int x1), (2, .ref (ad 13))] := hl
  refine lv_iconst (v := 0) hx hb d_Tre_slotOf_20 (by decide) ?_
  refine lv_istore hx hb d_Tre_slotOf_21 hl (by decide) rfl (fun ls hl => ?_)
  have hl : lv_has ls 8 [(6, .int (0 : Int32)), (5, .int v4), (4, .int (v3 - v3 / (48 : Int32) * (48 : Int32))), (3, .int v3), (0, .ref (ad 7)), (1, .int x1), (2, .ref (ad 13))] := hl
  exact v_Tre_slotOf_23_2 X  _ _ _ _ _ _ _ _ _ hP hD hS (lv_sub hl [4, 5, 6, 3, 2, 1, 0] rfl) h
set_option maxHeartbeats 4000000 in
set_option maxRecDepth 100000 in
theorem v_Tre_isName_2_3 {p : Program} {l : Launch} {e : Env} {s : State} {m : MethodId} {args : Array Value} {below : List Frame} {meth : Method} {c : Code} {D : va_G} {ad : Nat → Nat} {ca : Nat → ClassId} {A : Nat → Prop} {FU : Nat} {q : Int32} {g : St} (X : FX p s m meth c prog_10_method_17_code 4 (some .boolean) "FlashFiles$Tree" D (tyF ca) A) : ∀ (n : Nat), ∀ (y1 y3 : Int32) (H : Heap) (locs : List Loc) (ls : Array Slot), va_P D cls (wF ad ca g) H → va_D A (wF ad ca g) → va_S A s.heap H locs → lv_has ls 4 [(0, .ref (ad 7)), (1, .int y1), (2, .ref (ad 14)), (3, .int y3)] → Tre_isName_b2 FU 3 n y1 y3 g = some q → W p l e (rmN 2) s m args below meth c H locs 0 0 (MQ below (fxQi D (tyF ca) A (wF ad ca g) q) args s 0 0 A) (F0 m 2 ls []) := by
  have hx := X.1
  have hb := X.2.1
  intro n
  induction n with
  | zero =>
    intro y1 y3 H locs ls hP hD hS hl h
    cases h
  | succ n ih =>
    intro y1 y3 H locs ls hP hD hS hl h
    have h := h
    rw [Tre_isName_b2.eq_2] at h
    refine lv_iload_n hx hb d_Tre_isName_2 rfl (lv_at hl 3 rfl) ?_
    refine lv_iconst (v := 5) hx hb d_Tre_isName_3 (by decide) ?_
    refine lv_icmp_ge (tgt := 32) hx hb d_Tre_isName_4 (by decide) (fun hc => ?_) (fun hc => ?_)
    · have h := if_t hc h
      refine lv_iconst (v := 1) hx hb d_Tre_isName_32 (by decide) ?_
      cases h
      exact fx_zret X hP hD hS (Or.inr rfl) d_Tre_isName_33
    · have h := if_f hc h
      refine lv_aload_n hx hb d_Tre_isName_7 rfl (lv_at hl 0 rfl) ?_
      refine gF_tre_device X hP d_Tre_isName_8 ?_
      refine lv_iload_n hx hb d_Tre_isName_11 rfl (lv_at hl 1 rfl) ?_
      refine lv_iconst (v := 2) hx hb d_Tre_isName_12 (by decide) ?_
      refine lv_iload_n hx hb d_Tre_isName_13 rfl (lv_at hl 3 rfl) ?_
      refine lv_iadd hx hb d_Tre_isName_14 ?_
      obtain ⟨v1, e1, h⟩ := bd_some h
      refine fx_i X (fx_runV (As := [.int y1, .int ((2 : Int32) + y3)]) X (m_Dev_word e1 _) hP hD kv_Tre_36 ⟨Nat.le_of_ble_eq_true rfl, Nat.le_of_ble_eq_true rfl⟩ 3 rfl rfl rfl hl.1 rfl (Nat.le_of_ble_eq_true rfl) d_Tre_isName_15) hD hS (fun H locs hP hD hS => ?_)
      refine lv_aload_n hx hb d_Tre_isName_18 rfl (lv_at hl 2 rfl) ?_
      refine lv_iload_n hx hb d_Tre_isName_19 rfl (lv_at hl 3 rfl) ?_
      obtain ⟨v2, e1, h⟩ := bd_some h
      refine rF_3 X hP e1 d_Tre_isName_20 ?_
      refine lv_icmp_eq (tgt := 26) hx hb d_Tre_isName_21 (by decide) (fun hc => ?_) (fun hc => ?_)
      · have h := if_t hc h
        refine lv_iinc (k := 3) (v := (y3 + (1 : Int32))) hx hb d_Tre_isName_26 hl rfl (oi_1 _) (by decide) rfl (fun ls hl => ?_)
        have hl : lv_has ls 4 [(3, .int (y3 + (1 : Int32))), (0, .ref (ad 7)), (1, .int y1), (2, .ref (ad 14))] := hl
        refine lv_goto (tgt := 2) hx hb d_Tre_isName_29 (by decide) ?_
        exact ih _ _ _ _ _ hP hD hS (lv_sub hl [1, 2, 3, 0] rfl) h
      · have h := if_f hc h
        refine lv_iconst (v := 0) hx hb d_Tre_isName_24 (by decide) ?_
        cases h
        exact fx_zret X hP hD hS (Or.inl rfl) d_Tre_isName_25
set_option maxHeartbeats 4000000 in
set_option maxRecDepth 100000 in
theorem m_Tre_isName_3 {l : Launch} {D : va_G} {ad : Nat → Nat} {ca : Nat → ClassId} {FU : Nat} {x1 : Int32} {g : St} {q : Int32} (h : Tre_isName FU 3 x1 g = some q) : CI l ⟨"FlashFiles$Tree", "isName", "(I[I)Z"⟩ prog_10_method_17_code 4 2 (some .boolean) D (tyF ca) (wF ad ca g) [.ref (ad 7), .int x1, .ref (ad 14)] q (wF ad ca g) := by
  intro sz
  refine Met.fx (Qc := fun A => fxQi D (tyF ca) A (wF ad ca g) q) (by decide) (Nat.le_of_ble_eq_true rfl) ?_
  intro p e s m below meth c A ls X hP hD hl
  have hl : lv_has ls 4 [(0, .ref (ad 7)), (1, .int x1), (2, .ref (ad 14))] := hl
  have hS : va_S A s.heap s.heap [] := va_S.rf
  have hx := X.1
  have hb := X.2.1
  unfold Tre_isName at h
  refine lv_iconst (v := 0) hx hb d_Tre_isName_0 (by decide) ?_
  refine lv_istore_n hx hb d_Tre_isName_1 rfl hl (by decide) rfl (fun ls hl => ?_)
  have hl : lv_has ls 4 [(3, .int (0 : Int32)), (0, .ref (ad 7)), (1, .int x1), (2, .ref (ad 14))] := hl
  exact v_Tre_isName_2_3 X  _ _ _ _ _ _ hP hD hS (lv_sub hl [1, 2, 3, 0] rfl) h
set_option maxHeartbeats 4000000 in
set_option maxRecDepth 100000 in
theorem v_Tre_slotOf_93_3 {p : Program} {l : Launch} {e : Env} {s : State} {m : MethodId} {args : Array Value} {below : List Frame} {meth : Method} {c : Code} {D : va_G} {ad : Nat → Nat} {ca : Nat → ClassId} {A : Nat → Prop} {FU : Nat} {q : Int32} {g : St} (X : FX p s m meth c prog_10_method_16_code 8 (some .int) "FlashFiles$Tree" D (tyF ca) A) {k23 : Int32 → Int32 → Int32 → Int32 → Int32 → St → Option (Int32)} (hk23 : ∀ (y1 y3 y4 y5 y6 : Int32) (H : Heap) (locs : List Loc) (ls : Array Slot), va_P D cls (wF ad ca g) H → va_D A (wF ad ca g) → va_S A s.heap H locs → lv_has ls 8 [(0, .ref (ad 7)), (1, .int y1), (2, .ref (ad 14)), (3, .int y3), (4, .int y4), (5, .int y5), (6, .int y6)] → k23 y1 y3 y4 y5 y6 g = some q → W p l e (rmN 4) s m args below meth c H locs 0 0 (MQ below (fxQi D (tyF ca) A (wF ad ca g) q) args s 0 0 A) (F0 m 23 ls [])) {y1 : Int32} {y3 : Int32} {y5 : Int32} {y6 : Int32} {z0 : Int32}  {H : Heap} {locs : List Loc} {ls : Array Slot} (hP : va_P D cls (wF ad ca g) H) (hD : va_D A (wF ad ca g)) (hS : va_S A s.heap H locs) (hl : lv_has ls 8 [(0, .ref (ad 7)), (1, .int y1), (2, .ref (ad 14)), (3, .int y3), (5, .int y5), (6, .int y6)]) (h : Tre_slotOf_b93 FU 3 k23 y1 y3 y5 y6 z0 g = some q) : W p l e (rmN 4) s m args below meth c H locs 0 0 (MQ below (fxQi D (tyF ca) A (wF ad ca g) q) args s 0 0 A) (F0 m 93 ls [.int z0]) := by
  have hx := X.1
  have hb := X.2.1
  unfold Tre_slotOf_b93 at h
  refine lv_istore hx hb d_Tre_slotOf_93 hl (by decide) rfl (fun ls hl => ?_)
  have hl : lv_has ls 8 [(4, .int z0), (0, .ref (ad 7)), (1, .int y1), (2, .ref (ad 14)), (3, .int y3), (5, .int y5), (6, .int y6)] := hl
  refine lv_iinc (k := 6) (v := (y6 + (1 : Int32))) hx hb d_Tre_slotOf_95 hl rfl (oi_1 _) (by decide) rfl (fun ls hl => ?_)
  have hl : lv_has ls 8 [(6, .int (y6 + (1 : Int32))), (4, .int z0), (0, .ref (ad 7)), (1, .int y1), (2, .ref (ad 14)), (3, .int y3), (5, .int y5)] := hl
  refine lv_goto (tgt := 23) hx hb d_Tre_slotOf_98 (by decide) ?_
  exact hk23 _ _ _ _ _ _ _ _ hP hD hS (lv_sub hl [2, 3, 4, 5, 1, 6, 0] rfl) h
set_option maxHeartbeats 4000000 in
set_option maxRecDepth 100000 in
theorem v_Tre_slotOf_78_3 {p : Program} {l : Launch} {e : Env} {s : State} {m : MethodId} {args : Array Value} {below : List Frame} {meth : Method} {c : Code} {D : va_G} {ad : Nat → Nat} {ca : Nat → ClassId} {A : Nat → Prop} {FU : Nat} {q : Int32} {g : St} (X : FX p s m meth c prog_10_method_16_code 8 (some .int) "FlashFiles$Tree" D (tyF ca) A) {k23 : Int32 → Int32 → Int32 → Int32 → Int32 → St → Option (Int32)} (hk23 : ∀ (y1 y3 y4 y5 y6 : Int32) (H : Heap) (locs : List Loc) (ls : Array Slot), va_P D cls (wF ad ca g) H → va_D A (wF ad ca g) → va_S A s.heap H locs → lv_has ls 8 [(0, .ref (ad 7)), (1, .int y1), (2, .ref (ad 14)), (3, .int y3), (4, .int y4), (5, .int y5), (6, .int y6)] → k23 y1 y3 y4 y5 y6 g = some q → W p l e (rmN 4) s m args below meth c H locs 0 0 (MQ below (fxQi D (tyF ca) A (wF ad ca g) q) args s 0 0 A) (F0 m 23 ls [])) {y1 : Int32} {y3 : Int32} {y4 : Int32} {y5 : Int32} {y6 : Int32}  {H : Heap} {locs : List Loc} {ls : Array Slot} (hP : va_P D cls (wF ad ca g) H) (hD : va_D A (wF ad ca g)) (hS : va_S A s.heap H locs) (hl : lv_has ls 8 [(0, .ref (ad 7)), (1, .int y1), (2, .ref (ad 14)), (3, .int y3), (4, .int y4), (5, .int y5), (6, .int y6)]) (h : Tre_slotOf_b78 FU 3 k23 y1 y3 y4 y5 y6 g = some q) : W p l e (rmN 4) s m args below meth c H locs 0 0 (MQ below (fxQi D (tyF ca) A (wF ad ca g) q) args s 0 0 A) (F0 m 78 ls []) := by
  have hx := X.1
  have hb := X.2.1
  unfold Tre_slotOf_b78 at h
  refine lv_iload hx hb d_Tre_slotOf_78 (lv_at hl 4 rfl) ?_
  refine lv_bipush (v := 47) hx hb d_Tre_slotOf_80 (by decide) ?_
  refine lv_icmp_ne (tgt := 89) hx hb d_Tre_slotOf_82 (by decide) (fun hc => ?_) (fun hc => ?_)
  · have h := if_f hc h
    refine lv_iload hx hb d_Tre_slotOf_89 (lv_at hl 4 rfl) ?_
    refine lv_iconst (v := 1) hx hb d_Tre_slotOf_91 (by decide) ?_
    refine lv_iadd hx hb d_Tre_slotOf_92 ?_
    exact v_Tre_slotOf_93_3 X hk23 hP hD hS (lv_sub hl [0, 1, 2, 3, 5, 6] rfl) h
  · have h := if_t hc h
    refine lv_iconst (v := 0) hx hb d_Tre_slotOf_85 (by decide) ?_
    refine lv_goto (tgt := 93) hx hb d_Tre_slotOf_86 (by decide) ?_
    exact v_Tre_slotOf_93_3 X hk23 hP hD hS (lv_sub hl [0, 1, 2, 3, 5, 6] rfl) h
set_option maxHeartbeats 4000000 in
set_option maxRecDepth 100000 in
theorem v_Tre_slotOf_23_3 {p : Program} {l : Launch} {e : Env} {s : State} {m : MethodId} {args : Array Value} {below : List Frame} {meth : Method} {c : Code} {D : va_G} {ad : Nat → Nat} {ca : Nat → ClassId} {A : Nat → Prop} {FU : Nat} {q : Int32} {g : St} (X : FX p s m meth c prog_10_method_16_code 8 (some .int) "FlashFiles$Tree" D (tyF ca) A) : ∀ (n : Nat), ∀ (y1 y3 y4 y5 y6 : Int32) (H : Heap) (locs : List Loc) (ls : Array Slot), va_P D cls (wF ad ca g) H → va_D A (wF ad ca g) → va_S A s.heap H locs → lv_has ls 8 [(0, .ref (ad 7)), (1, .int y1), (2, .ref (ad 14)), (3, .int y3), (4, .int y4), (5, .int y5), (6, .int y6)] → Tre_slotOf_b23 FU 3 n y1 y3 y4 y5 y6 g = some q → W p l e (rmN 4) s m args below meth c H locs 0 0 (MQ below (fxQi D (tyF ca) A (wF ad ca g) q) args s 0 0 A) (F0 m 23 ls []) := by
  have hx := X.1
  have hb := X.2.1
  intro n
  induction n with
  | zero =>
    intro y1 y3 y4 y5 y6 H locs ls hP hD hS hl h
    cases h
  | succ n ih =>
    intro y1 y3 y4 y5 y6 H locs ls hP hD hS hl h
    have h := h
    rw [Tre_slotOf_b23.eq_2] at h
    refine lv_iload hx hb d_Tre_slotOf_23 (lv_at hl 6 rfl) ?_
    refine lv_bipush (v := 48) hx hb d_Tre_slotOf_25 (by decide) ?_
    refine lv_icmp_ge (tgt := 101) hx hb d_Tre_slotOf_27 (by decide) (fun hc => ?_) (fun hc => ?_)
    · have h := if_t hc h
      refine lv_iconst (v := -1) hx hb d_Tre_slotOf_101 (by decide) ?_
      cases h
      exact fx_iret X hP hD hS d_Tre_slotOf_102
    · have h := if_f hc h
      refine lv_iload hx hb d_Tre_slotOf_30 (lv_at hl 5 rfl) ?_
      refine lv_if_le (tgt := 101) hx hb d_Tre_slotOf_32 (by decide) (fun hc => ?_) (fun hc => ?_)
      · have h := if_t hc h
        refine lv_iconst (v := -1) hx hb d_Tre_slotOf_101 (by decide) ?_
        cases h
        exact fx_iret X hP hD hS d_Tre_slotOf_102
      · have h := if_f hc h
        refine lv_aload_n hx hb d_Tre_slotOf_35 rfl (lv_at hl 0 rfl) ?_
        refine lv_iload_n hx hb d_Tre_slotOf_36 rfl (lv_at hl 1 rfl) ?_
        refine lv_iload hx hb d_Tre_slotOf_37 (lv_at hl 4 rfl) ?_
        obtain ⟨v1, e1, h⟩ := bd_some h
        refine fx_i X (fx_runV (As := [.int y1, .int y4]) X (m_Tre_slotWord e1 _) hP hD kv_Tre_91 ⟨Nat.le_of_ble_eq_true rfl, Nat.le_of_ble_eq_true rfl⟩ 7 rfl rfl rfl hl.1 rfl (Nat.le_of_ble_eq_true rfl) d_Tre_slotOf_39) hD hS (fun H locs hP hD hS => ?_)
        refine lv_istore hx hb d_Tre_slotOf_42 hl (by decide) rfl (fun ls hl => ?_)
        have hl : lv_has ls 8 [(7, .int v1), (0, .ref (ad 7)), (1, .int y1), (2, .ref (ad 14)), (3, .int y3), (4, .int y4), (5, .int y5), (6, .int y6)] := hl
        refine lv_iload hx hb d_Tre_slotOf_44 (lv_at hl 0 rfl) ?_
        refine lv_if_eq (tgt := 78) hx hb d_Tre_slotOf_46 (by decide) (fun hc => ?_) (fun hc => ?_)
        · have h := if_t hc h
          exact v_Tre_slotOf_78_3 X ih hP hD hS (lv_sub hl [1, 2, 3, 4, 5, 6, 7] rfl) h
        · have h := if_f hc h
          refine lv_iinc (k := 6) (v := (y5 + (-1 : Int32))) hx hb d_Tre_slotOf_49 hl rfl (oi_m1 _) (by decide) rfl (fun ls hl => ?_)
          have hl : lv_has ls 8 [(5, .int (y5 + (-1 : Int32))), (7, .int v1), (0, .ref (ad 7)), (1, .int y1), (2, .ref (ad 14)), (3, .int y3), (4, .int y4), (6, .int y6)] := hl
          refine lv_iload hx hb d_Tre_slotOf_52 (lv_at hl 1 rfl) ?_
          refine lv_bipush (v := 12) hx hb d_Tre_slotOf_54 (by decide) ?_
          refine lv_iushr (v := ush v1 (12 : Int32)) hx hb d_Tre_slotOf_56 rfl ?_
          refine lv_iload_n hx hb d_Tre_slotOf_57 rfl (lv_at hl 5 rfl) ?_
          refine lv_icmp_ne (tgt := 78) hx hb d_Tre_slotOf_58 (by decide) (fun hc => ?_) (fun hc => ?_)
          · have h := if_f hc h
            exact v_Tre_slotOf_78_3 X ih hP hD hS (lv_sub hl [2, 3, 4, 5, 6, 0, 7] rfl) h
          · have h := if_t hc h
            refine lv_aload_n hx hb d_Tre_slotOf_61 rfl (lv_at hl 2 rfl) ?_
            refine lv_iload hx hb d_Tre_slotOf_62 (lv_at hl 1 rfl) ?_
            refine lv_sipush (v := 4095) hx hb d_Tre_slotOf_64 (by decide) ?_
            refine lv_iand hx hb d_Tre_slotOf_67 ?_
            refine lv_aload_n hx hb d_Tre_slotOf_68 rfl (lv_at hl 4 rfl) ?_
            obtain ⟨v2, e1, h⟩ := bd_some h
            refine fx_i X (fx_runV (As := [.int (v1 &&& (4095 : Int32)), .ref (ad 14)]) X (m_Tre_isName_3 e1 _) hP hD kv_Tre_98 ⟨Nat.le_of_ble_eq_true rfl, Nat.le_of_ble_eq_true rfl⟩ 7 rfl rfl rfl hl.1 rfl (Nat.le_of_ble_eq_true rfl) d_Tre_slotOf_69) hD hS (fun H locs hP hD hS => ?_)
            refine lv_if_eq (tgt := 78) hx hb d_Tre_slotOf_72 (by decide) (fun hc => ?_) (fun hc => ?_)
            · have h := if_t hc h
              exact v_Tre_slotOf_78_3 X ih hP hD hS (lv_sub hl [2, 3, 4, 5, 6, 0, 7] rfl) h
            · have h := if_f hc h
              refine lv_iload hx hb d_Tre_slotOf_75 (lv_at hl 6 rfl) ?_
              cases h
              exact fx_iret X hP hD hS d_Tre_slotOf_77
set_option maxHeartbeats 4000000 in
set_option maxRecDepth 100000 in
theorem m_Tre_slotOf_3 {l : Launch} {D : va_G} {ad : Nat → Nat} {ca : Nat → ClassId} {FU : Nat} {x1 : Int32} {g : St} {q : Int32} (h : Tre_slotOf FU 3 x1 g = some q) : CI l ⟨"FlashFiles$Tree", "slotOf", "(I[I)I"⟩ prog_10_method_16_code 8 4 (some .int) D (tyF ca) (wF ad ca g) [.ref (ad 7), .int x1, .ref (ad 14)] q (wF ad ca g) := by
  intro sz
  refine Met.fx (Qc := fun A => fxQi D (tyF ca) A (wF ad ca g) q) (by decide) (Nat.le_of_ble_eq_true rfl) ?_
  intro p e s m below meth c A ls X hP hD hl
  have hl : lv_has ls 8 [(0, .ref (ad 7)), (1, .int x1), (2, .ref (ad 14))] := hl
  have hS : va_S A s.heap s.heap [] := va_S.rf
  have hx := X.1
  have hb := X.2.1
  unfold Tre_slotOf at h
  refine lv_aload_n hx hb d_Tre_slotOf_0 rfl (lv_at hl 2 rfl) ?_
  refine lv_iconst (v := 0) hx hb d_Tre_slotOf_1 (by decide) ?_
  obtain ⟨v3, e1, h⟩ := bd_some h
  refine fx_i X (fx_runN X (m_FF_hashOf_3 e1 _) (As := [.ref (ad 14), .int (0 : Int32)]) hP hD kn_Tre_94 ⟨Nat.le_of_ble_eq_true rfl, Nat.le_of_ble_eq_true rfl⟩ rfl hl.1 rfl (Nat.le_of_ble_eq_true rfl) d_Tre_slotOf_2) hD hS (fun H locs hP hD hS => ?_)
  refine lv_istore_n hx hb d_Tre_slotOf_5 rfl hl (by decide) rfl (fun ls hl => ?_)
  have hl : lv_has ls 8 [(3, .int v3), (0, .ref (ad 7)), (1, .int x1), (2, .ref (ad 14))] := hl
  refine lv_iload_n hx hb d_Tre_slotOf_6 rfl (lv_at hl 0 rfl) ?_
  refine lv_bipush (v := 48) hx hb d_Tre_slotOf_7 (by decide) ?_
  refine lv_irem hx hb d_Tre_slotOf_9 (by decide) ?_
  refine lv_istore hx hb d_Tre_slotOf_10 hl (by decide) rfl (fun ls hl => ?_)
  have hl : lv_has ls 8 [(4, .int (v3 - v3 / (48 : Int32) * (48 : Int32))), (3, .int v3), (0, .ref (ad 7)), (1, .int x1), (2, .ref (ad 14))] := hl
  refine lv_aload_n hx hb d_Tre_slotOf_12 rfl (lv_at hl 2 rfl) ?_
  refine lv_iload_n hx hb d_Tre_slotOf_13 rfl (lv_at hl 3 rfl) ?_
  refine lv_iconst (v := 1) hx hb d_Tre_slotOf_14 (by decide) ?_
  obtain ⟨v4, e1, h⟩ := bd_some h
  refine fx_i X (fx_runV (As := [.int x1, .int (1 : Int32)]) X (m_Tre_wordOf e1 _) hP hD kv_Tre_42 ⟨Nat.le_of_ble_eq_true rfl, Nat.le_of_ble_eq_true rfl⟩ 7 rfl rfl rfl hl.1 rfl (Nat.le_of_ble_eq_true rfl) d_Tre_slotOf_15) hD hS (fun H locs hP hD hS => ?_)
  refine lv_istore hx hb d_Tre_slotOf_18 hl (by decide) rfl (fun ls hl => ?_)
  have hl : lv_has ls 8 [(5, .int v4), (4, .int (v3 - v3 / (48 : Int32) * (48 : Int32))), (3, .int v3), (0, .ref (ad 7)), (1, .int x1), (2, .ref (ad 14))] := hl
  refine lv_iconst (v := 0) hx hb d_Tre_slotOf_20 (by decide) ?_
  refine lv_istore hx hb d_Tre_slotOf_21 hl (by decide) rfl (fun ls hl => ?_)
  have hl : lv_has ls 8 [(6, .int (0 : Int32)), (5, .int v4), (4, .int (v3 - v3 / (48 : Int32) * (48 : Int32))), (3, .int v3), (0, .ref (ad 7)), (1, .int x1), (2, .ref (ad 14))] := hl
  exact v_Tre_slotOf_23_3 X  _ _ _ _ _ _ _ _ _ hP hD hS (lv_sub hl [4, 5, 6, 3, 2, 1, 0] rfl) h
theorem d_Tre_addName_0 : decode prog_10_method_18_code 0 = .ok (.aload_n 0, 1) := by decide +kernel
theorem d_Tre_addName_1 : decode prog_10_method_18_code 1 = .ok (.getfield 27, 3) := by decide +kernel
theorem d_Tre_addName_4 : decode prog_10_method_18_code 4 = .ok (.iconst 0, 1) := by decide +kernel
theorem d_Tre_addName_5 : decode prog_10_method_18_code 5 = .ok (.invokestatic 73, 3) := by decide +kernel
theorem d_Tre_addName_8 : decode prog_10_method_18_code 8 = .ok (.aload_n 0, 1) := by decide +kernel
theorem d_Tre_addName_9 : decode prog_10_method_18_code 9 = .ok (.getfield 27, 3) := by decide +kernel
theorem d_Tre_addName_12 : decode prog_10_method_18_code 12 = .ok (.iconst 0, 1) := by decide +kernel
theorem d_Tre_addName_13 : decode prog_10_method_18_code 13 = .ok (.iload_n 3, 1) := by decide +kernel
theorem d_Tre_addName_14 : decode prog_10_method_18_code 14 = .ok (.iastore, 1) := by decide +kernel
theorem d_Tre_addName_15 : decode prog_10_method_18_code 15 = .ok (.aload_n 0, 1) := by decide +kernel
theorem d_Tre_addName_16 : decode prog_10_method_18_code 16 = .ok (.getfield 27, 3) := by decide +kernel
theorem d_Tre_addName_19 : decode prog_10_method_18_code 19 = .ok (.iconst 1, 1) := by decide +kernel
theorem d_Tre_addName_20 : decode prog_10_method_18_code 20 = .ok (.aload_n 2, 1) := by decide +kernel
theorem d_Tre_addName_21 : decode prog_10_method_18_code 21 = .ok (.iconst 5, 1) := by decide +kernel
theorem d_Tre_addName_22 : decode prog_10_method_18_code 22 = .ok (.iaload, 1) := by decide +kernel
theorem d_Tre_addName_23 : decode prog_10_method_18_code 23 = .ok (.iastore, 1) := by decide +kernel
theorem d_Tre_addName_24 : decode prog_10_method_18_code 24 = .ok (.aload_n 2, 1) := by decide +kernel
theorem d_Tre_addName_25 : decode prog_10_method_18_code 25 = .ok (.iconst 0, 1) := by decide +kernel
theorem d_Tre_addName_26 : decode prog_10_method_18_code 26 = .ok (.aload_n 0, 1) := by decide +kernel
theorem d_Tre_addName_27 : decode prog_10_method_18_code 27 = .ok (.getfield 27, 3) := by decide +kernel
theorem d_Tre_addName_30 : decode prog_10_method_18_code 30 = .ok (.iconst 2, 1) := by decide +kernel
theorem d_Tre_addName_31 : decode prog_10_method_18_code 31 = .ok (.iconst 5, 1) := by decide +kernel
theorem d_Tre_addName_32 : decode prog_10_method_18_code 32 = .ok (.invokestatic 102, 3) := by decide +kernel
theorem d_Tre_addName_35 : decode prog_10_method_18_code 35 = .ok (.aload_n 2, 1) := by decide +kernel
theorem d_Tre_addName_36 : decode prog_10_method_18_code 36 = .ok (.iconst 0, 1) := by decide +kernel
theorem d_Tre_addName_37 : decode prog_10_method_18_code 37 = .ok (.invokestatic 94, 3) := by decide +kernel
theorem d_Tre_addName_40 : decode prog_10_method_18_code 40 = .ok (.istore 4, 2) := by decide +kernel
theorem d_Tre_addName_42 : decode prog_10_method_18_code 42 = .ok (.iload 4, 2) := by decide +kernel
theorem d_Tre_addName_44 : decode prog_10_method_18_code 44 = .ok (.bipush 48, 2) := by decide +kernel
theorem d_Tre_addName_46 : decode prog_10_method_18_code 46 = .ok (.irem, 1) := by decide +kernel
theorem d_Tre_addName_47 : decode prog_10_method_18_code 47 = .ok (.istore 5, 2) := by decide +kernel
theorem d_Tre_addName_49 : decode prog_10_method_18_code 49 = .ok (.aload_n 0, 1) := by decide +kernel
theorem d_Tre_addName_50 : decode prog_10_method_18_code 50 = .ok (.getfield 9, 3) := by decide +kernel
theorem d_Tre_addName_53 : decode prog_10_method_18_code 53 = .ok (.aload_n 0, 1) := by decide +kernel
theorem d_Tre_addName_54 : decode prog_10_method_18_code 54 = .ok (.getfield 15, 3) := by decide +kernel
theorem d_Tre_addName_57 : decode prog_10_method_18_code 57 = .ok (.iload_n 1, 1) := by decide +kernel
theorem d_Tre_addName_58 : decode prog_10_method_18_code 58 = .ok (.invokevirtual 30, 3) := by decide +kernel
theorem d_Tre_addName_61 : decode prog_10_method_18_code 61 = .ok (.aload_n 0, 1) := by decide +kernel
theorem d_Tre_addName_62 : decode prog_10_method_18_code 62 = .ok (.getfield 23, 3) := by decide +kernel
theorem d_Tre_addName_65 : decode prog_10_method_18_code 65 = .ok (.invokevirtual 84, 3) := by decide +kernel
theorem d_Tre_addName_68 : decode prog_10_method_18_code 68 = .ok (.iconst 0, 1) := by decide +kernel
theorem d_Tre_addName_69 : decode prog_10_method_18_code 69 = .ok (.istore 6, 2) := by decide +kernel
theorem d_Tre_addName_71 : decode prog_10_method_18_code 71 = .ok (.iload 6, 2) := by decide +kernel
theorem d_Tre_addName_73 : decode prog_10_method_18_code 73 = .ok (.bipush 48, 2) := by decide +kernel
theorem d_Tre_addName_75 : decode prog_10_method_18_code 75 = .ok (.if_icmp .ge 39, 3) := by decide +kernel
theorem d_Tre_addName_78 : decode prog_10_method_18_code 78 = .ok (.aload_n 0, 1) := by decide +kernel
theorem d_Tre_addName_79 : decode prog_10_method_18_code 79 = .ok (.getfield 23, 3) := by decide +kernel
theorem d_Tre_addName_82 : decode prog_10_method_18_code 82 = .ok (.bipush 6, 2) := by decide +kernel
theorem d_Tre_addName_84 : decode prog_10_method_18_code 84 = .ok (.iload 5, 2) := by decide +kernel
theorem d_Tre_addName_86 : decode prog_10_method_18_code 86 = .ok (.iadd, 1) := by decide +kernel
theorem d_Tre_addName_87 : decode prog_10_method_18_code 87 = .ok (.iaload, 1) := by decide +kernel
theorem d_Tre_addName_88 : decode prog_10_method_18_code 88 = .ok (.ifCond .eq 26, 3) := by decide +kernel
theorem d_Tre_addName_91 : decode prog_10_method_18_code 91 = .ok (.iload 5, 2) := by decide +kernel
theorem d_Tre_addName_93 : decode prog_10_method_18_code 93 = .ok (.bipush 47, 2) := by decide +kernel
theorem d_Tre_addName_95 : decode prog_10_method_18_code 95 = .ok (.if_icmp .ne 7, 3) := by decide +kernel
theorem d_Tre_addName_98 : decode prog_10_method_18_code 98 = .ok (.iconst 0, 1) := by decide +kernel
theorem d_Tre_addName_99 : decode prog_10_method_18_code 99 = .ok (.goto 7, 3) := by decide +kernel
theorem d_Tre_addName_102 : decode prog_10_method_18_code 102 = .ok (.iload 5, 2) := by decide +kernel
theorem d_Tre_addName_104 : decode prog_10_method_18_code 104 = .ok (.iconst 1, 1) := by decide +kernel
theorem d_Tre_addName_105 : decode prog_10_method_18_code 105 = .ok (.iadd, 1) := by decide +kernel
theorem d_Tre_addName_106 : decode prog_10_method_18_code 106 = .ok (.istore 5, 2) := by decide +kernel
theorem d_Tre_addName_108 : decode prog_10_method_18_code 108 = .ok (.iinc 6 1, 3) := by decide +kernel
theorem d_Tre_addName_111 : decode prog_10_method_18_code 111 = .ok (.goto (-40), 3) := by decide +kernel
theorem d_Tre_addName_114 : decode prog_10_method_18_code 114 = .ok (.aload_n 0, 1) := by decide +kernel
theorem d_Tre_addName_115 : decode prog_10_method_18_code 115 = .ok (.getfield 23, 3) := by decide +kernel
theorem d_Tre_addName_118 : decode prog_10_method_18_code 118 = .ok (.bipush 6, 2) := by decide +kernel
theorem d_Tre_addName_120 : decode prog_10_method_18_code 120 = .ok (.iload 5, 2) := by decide +kernel
theorem d_Tre_addName_122 : decode prog_10_method_18_code 122 = .ok (.iadd, 1) := by decide +kernel
theorem d_Tre_addName_123 : decode prog_10_method_18_code 123 = .ok (.iload 4, 2) := by decide +kernel
theorem d_Tre_addName_125 : decode prog_10_method_18_code 125 = .ok (.bipush 12, 2) := by decide +kernel
theorem d_Tre_addName_127 : decode prog_10_method_18_code 127 = .ok (.ishl, 1) := by decide +kernel
theorem d_Tre_addName_128 : decode prog_10_method_18_code 128 = .ok (.aload_n 0, 1) := by decide +kernel
theorem d_Tre_addName_129 : decode prog_10_method_18_code 129 = .ok (.getfield 19, 3) := by decide +kernel
theorem d_Tre_addName_132 : decode prog_10_method_18_code 132 = .ok (.aload_n 0, 1) := by decide +kernel
theorem d_Tre_addName_133 : decode prog_10_method_18_code 133 = .ok (.getfield 27, 3) := by decide +kernel
theorem d_Tre_addName_136 : decode prog_10_method_18_code 136 = .ok (.invokevirtual 108, 3) := by decide +kernel
theorem d_Tre_addName_139 : decode prog_10_method_18_code 139 = .ok (.ior, 1) := by decide +kernel
theorem d_Tre_addName_140 : decode prog_10_method_18_code 140 = .ok (.iastore, 1) := by decide +kernel
theorem d_Tre_addName_141 : decode prog_10_method_18_code 141 = .ok (.aload_n 0, 1) := by decide +kernel
theorem d_Tre_addName_142 : decode prog_10_method_18_code 142 = .ok (.getfield 23, 3) := by decide +kernel
theorem d_Tre_addName_145 : decode prog_10_method_18_code 145 = .ok (.iconst 1, 1) := by decide +kernel
theorem d_Tre_addName_146 : decode prog_10_method_18_code 146 = .ok (.dup2, 1) := by decide +kernel
theorem d_Tre_addName_147 : decode prog_10_method_18_code 147 = .ok (.iaload, 1) := by decide +kernel
theorem d_Tre_addName_148 : decode prog_10_method_18_code 148 = .ok (.iconst 1, 1) := by decide +kernel
theorem d_Tre_addName_149 : decode prog_10_method_18_code 149 = .ok (.iadd, 1) := by decide +kernel
theorem d_Tre_addName_150 : decode prog_10_method_18_code 150 = .ok (.iastore, 1) := by decide +kernel
theorem d_Tre_addName_151 : decode prog_10_method_18_code 151 = .ok (.aload_n 0, 1) := by decide +kernel
theorem d_Tre_addName_152 : decode prog_10_method_18_code 152 = .ok (.getfield 19, 3) := by decide +kernel
theorem d_Tre_addName_155 : decode prog_10_method_18_code 155 = .ok (.iload_n 1, 1) := by decide +kernel
theorem d_Tre_addName_156 : decode prog_10_method_18_code 156 = .ok (.aload_n 0, 1) := by decide +kernel
theorem d_Tre_addName_157 : decode prog_10_method_18_code 157 = .ok (.getfield 23, 3) := by decide +kernel
theorem d_Tre_addName_160 : decode prog_10_method_18_code 160 = .ok (.iconst 0, 1) := by decide +kernel
theorem d_Tre_addName_161 : decode prog_10_method_18_code 161 = .ok (.invokevirtual 79, 3) := by decide +kernel
theorem d_Tre_addName_164 : decode prog_10_method_18_code 164 = .ok (.return_, 1) := by decide +kernel
set_option maxHeartbeats 4000000 in
set_option maxRecDepth 100000 in
theorem v_Tre_addName_114_2 {p : Program} {l : Launch} {e : Env} {s : State} {m : MethodId} {args : Array Value} {below : List Frame} {meth : Method} {c : Code} {D : va_G} {ad : Nat → Nat} {ca : Nat → ClassId} {A : Nat → Prop} {FU : Nat} {q : St} (X : FX p s m meth c prog_10_method_18_code 7 none "FlashFiles$Tree" D (tyF ca) A) {y1 : Int32} {y4 : Int32} {y5 : Int32} {g : St} {H : Heap} {locs : List Loc} {ls : Array Slot} (hP : va_P D cls (wF ad ca g) H) (hD : va_D A (wF ad ca g)) (hS : va_S A s.heap H locs) (hl : lv_has ls 7 [(0, .ref (ad 7)), (1, .int y1), (4, .int y4), (5, .int y5)]) (h : Tre_addName_b114 FU 2 y1 y4 y5 g = some q) : W p l e (rmN 4) s m args below meth c H locs 0 0 (MQ below (fxQv D (tyF ca) A (wF ad ca q)) args s 0 0 A) (F0 m 114 ls []) := by
  have hx := X.1
  have hb := X.2.1
  unfold Tre_addName_b114 at h
  refine lv_aload_n hx hb d_Tre_addName_114 rfl (lv_at hl 0 rfl) ?_
  refine gF_tre_inode X hP d_Tre_addName_115 ?_
  refine lv_bipush (v := 6) hx hb d_Tre_addName_118 (by decide) ?_
  refine lv_iload hx hb d_Tre_addName_120 (lv_at hl 3 rfl) ?_
  refine lv_iadd hx hb d_Tre_addName_122 ?_
  refine lv_iload hx hb d_Tre_addName_123 (lv_at hl 2 rfl) ?_
  refine lv_bipush (v := 12) hx hb d_Tre_addName_125 (by decide) ?_
  refine lv_ishl hx hb d_Tre_addName_127 ?_
  refine lv_aload_n hx hb d_Tre_addName_128 rfl (lv_at hl 0 rfl) ?_
  refine gF_tre_log X hP d_Tre_addName_129 ?_
  refine lv_aload_n hx hb d_Tre_addName_132 rfl (lv_at hl 0 rfl) ?_
  refine gF_tre_entry X hP d_Tre_addName_133 ?_
  obtain ⟨p1, e1, h⟩ := bd_some h
  refine fx_i X (fx_runV (As := [.ref (ad 29)]) X (m_Log_putData_18 e1 _) hP hD kv_Tre_108 ⟨Nat.le_of_ble_eq_true rfl, Nat.le_of_ble_eq_true rfl⟩ 5 rfl rfl rfl hl.1 rfl (Nat.le_of_ble_eq_true rfl) d_Tre_addName_136) hD hS (fun H locs hP hD hS => ?_)
  refine lv_ior hx hb d_Tre_addName_139 ?_
  obtain ⟨g2, e1, h⟩ := bd_some h
  refine sF_17 X hP hD hS e1 d_Tre_addName_140 (fun H locs hP hD hS => ?_)
  refine lv_aload_n hx hb d_Tre_addName_141 rfl (lv_at hl 0 rfl) ?_
  refine gF_tre_inode X hP d_Tre_addName_142 ?_
  refine lv_iconst (v := 1) hx hb d_Tre_addName_145 (by decide) ?_
  refine lv_dup2_11 hx hb d_Tre_addName_146 rfl rfl ?_
  obtain ⟨v3, e1, h⟩ := bd_some h
  refine rF_17 X hP e1 d_Tre_addName_147 ?_
  refine lv_iconst (v := 1) hx hb d_Tre_addName_148 (by decide) ?_
  refine lv_iadd hx hb d_Tre_addName_149 ?_
  obtain ⟨g4, e1, h⟩ := bd_some h
  refine sF_17 X hP hD hS e1 d_Tre_addName_150 (fun H locs hP hD hS => ?_)
  refine lv_aload_n hx hb d_Tre_addName_151 rfl (lv_at hl 0 rfl) ?_
  refine gF_tre_log X hP d_Tre_addName_152 ?_
  refine lv_iload_n hx hb d_Tre_addName_155 rfl (lv_at hl 1 rfl) ?_
  refine lv_aload_n hx hb d_Tre_addName_156 rfl (lv_at hl 0 rfl) ?_
  refine gF_tre_inode X hP d_Tre_addName_157 ?_
  refine lv_iconst (v := 0) hx hb d_Tre_addName_160 (by decide) ?_
  obtain ⟨p5, e1, h⟩ := bd_some h
  refine fx_v X (fx_runV (As := [.int y1, .ref (ad 28), .int (0 : Int32)]) X (m_Log_putNode_17 e1 _) hP hD kv_Tre_79 ⟨Nat.le_of_ble_eq_true rfl, Nat.le_of_ble_eq_true rfl⟩ 5 rfl rfl rfl hl.1 rfl (Nat.le_of_ble_eq_true rfl) d_Tre_addName_161) hD hS (fun H locs hP hD hS => ?_)
  cases h
  exact fx_vret X hP hD hS d_Tre_addName_164
set_option maxHeartbeats 4000000 in
set_option maxRecDepth 100000 in
theorem v_Tre_addName_106_2 {p : Program} {l : Launch} {e : Env} {s : State} {m : MethodId} {args : Array Value} {below : List Frame} {meth : Method} {c : Code} {D : va_G} {ad : Nat → Nat} {ca : Nat → ClassId} {A : Nat → Prop} {FU : Nat} {q : St} (X : FX p s m meth c prog_10_method_18_code 7 none "FlashFiles$Tree" D (tyF ca) A) {k71 : Int32 → Int32 → Int32 → Int32 → St → Option (St)} (hk71 : ∀ (y1 y4 y5 y6 : Int32) (g : St) (H : Heap) (locs : List Loc) (ls : Array Slot), va_P D cls (wF ad ca g) H → va_D A (wF ad ca g) → va_S A s.heap H locs → lv_has ls 7 [(0, .ref (ad 7)), (1, .int y1), (4, .int y4), (5, .int y5), (6, .int y6)] → k71 y1 y4 y5 y6 g = some q → W p l e (rmN 4) s m args below meth c H locs 0 0 (MQ below (fxQv D (tyF ca) A (wF ad ca q)) args s 0 0 A) (F0 m 71 ls [])) {y1 : Int32} {y4 : Int32} {y6 : Int32} {z0 : Int32} {g : St} {H : Heap} {locs : List Loc} {ls : Array Slot} (hP : va_P D cls (wF ad ca g) H) (hD : va_D A (wF ad ca g)) (hS : va_S A s.heap H locs) (hl : lv_has ls 7 [(0, .ref (ad 7)), (1, .int y1), (4, .int y4), (6, .int y6)]) (h : Tre_addName_b106 FU 2 k71 y1 y4 y6 z0 g = some q) : W p l e (rmN 4) s m args below meth c H locs 0 0 (MQ below (fxQv D (tyF ca) A (wF ad ca q)) args s 0 0 A) (F0 m 106 ls [.int z0]) := by
  have hx := X.1
  have hb := X.2.1
  unfold Tre_addName_b106 at h
  refine lv_istore hx hb d_Tre_addName_106 hl (by decide) rfl (fun ls hl => ?_)
  have hl : lv_has ls 7 [(5, .int z0), (0, .ref (ad 7)), (1, .int y1), (4, .int y4), (6, .int y6)] := hl
  refine lv_iinc (k := 4) (v := (y6 + (1 : Int32))) hx hb d_Tre_addName_108 hl rfl (oi_1 _) (by decide) rfl (fun ls hl => ?_)
  have hl : lv_has ls 7 [(6, .int (y6 + (1 : Int32))), (5, .int z0), (0, .ref (ad 7)), (1, .int y1), (4, .int y4)] := hl
  refine lv_goto (tgt := 71) hx hb d_Tre_addName_111 (by decide) ?_
  exact hk71 _ _ _ _ _ _ _ _ hP hD hS (lv_sub hl [2, 3, 4, 1, 0] rfl) h
set_option maxHeartbeats 4000000 in
set_option maxRecDepth 100000 in
theorem v_Tre_addName_71_2 {p : Program} {l : Launch} {e : Env} {s : State} {m : MethodId} {args : Array Value} {below : List Frame} {meth : Method} {c : Code} {D : va_G} {ad : Nat → Nat} {ca : Nat → ClassId} {A : Nat → Prop} {FU : Nat} {q : St} (X : FX p s m meth c prog_10_method_18_code 7 none "FlashFiles$Tree" D (tyF ca) A) : ∀ (n : Nat), ∀ (y1 y4 y5 y6 : Int32) (g : St) (H : Heap) (locs : List Loc) (ls : Array Slot), va_P D cls (wF ad ca g) H → va_D A (wF ad ca g) → va_S A s.heap H locs → lv_has ls 7 [(0, .ref (ad 7)), (1, .int y1), (4, .int y4), (5, .int y5), (6, .int y6)] → Tre_addName_b71 FU 2 n y1 y4 y5 y6 g = some q → W p l e (rmN 4) s m args below meth c H locs 0 0 (MQ below (fxQv D (tyF ca) A (wF ad ca q)) args s 0 0 A) (F0 m 71 ls []) := by
  have hx := X.1
  have hb := X.2.1
  intro n
  induction n with
  | zero =>
    intro y1 y4 y5 y6 g H locs ls hP hD hS hl h
    cases h
  | succ n ih =>
    intro y1 y4 y5 y6 g H locs ls hP hD hS hl h
    have h := h
    rw [Tre_addName_b71.eq_2] at h
    refine lv_iload hx hb d_Tre_addName_71 (lv_at hl 4 rfl) ?_
    refine lv_bipush (v := 48) hx hb d_Tre_addName_73 (by decide) ?_
    refine lv_icmp_ge (tgt := 114) hx hb d_Tre_addName_75 (by decide) (fun hc => ?_) (fun hc => ?_)
    · have h := if_t hc h
      exact v_Tre_addName_114_2 X  hP hD hS (lv_sub hl [0, 1, 2, 3] rfl) h
    · have h := if_f hc h
      refine lv_aload_n hx hb d_Tre_addName_78 rfl (lv_at hl 0 rfl) ?_
      refine gF_tre_inode X hP d_Tre_addName_79 ?_
      refine lv_bipush (v := 6) hx hb d_Tre_addName_82 (by decide) ?_
      refine lv_iload hx hb d_Tre_addName_84 (lv_at hl 3 rfl) ?_
      refine lv_iadd hx hb d_Tre_addName_86 ?_
      obtain ⟨v6, e1, h⟩ := bd_some h
      refine rF_17 X hP e1 d_Tre_addName_87 ?_
      refine lv_if_eq (tgt := 114) hx hb d_Tre_addName_88 (by decide) (fun hc => ?_) (fun hc => ?_)
      · have h := if_t hc h
        exact v_Tre_addName_114_2 X  hP hD hS (lv_sub hl [0, 1, 2, 3] rfl) h
      · have h := if_f hc h
        refine lv_iload hx hb d_Tre_addName_91 (lv_at hl 3 rfl) ?_
        refine lv_bipush (v := 47) hx hb d_Tre_addName_93 (by decide) ?_
        refine lv_icmp_ne (tgt := 102) hx hb d_Tre_addName_95 (by decide) (fun hc => ?_) (fun hc => ?_)
        · have h := if_f hc h
          refine lv_iload hx hb d_Tre_addName_102 (lv_at hl 3 rfl) ?_
          refine lv_iconst (v := 1) hx hb d_Tre_addName_104 (by decide) ?_
          refine lv_iadd hx hb d_Tre_addName_105 ?_
          exact v_Tre_addName_106_2 X ih hP hD hS (lv_sub hl [0, 1, 2, 4] rfl) h
        · have h := if_t hc h
          refine lv_iconst (v := 0) hx hb d_Tre_addName_98 (by decide) ?_
          refine lv_goto (tgt := 106) hx hb d_Tre_addName_99 (by decide) ?_
          exact v_Tre_addName_106_2 X ih hP hD hS (lv_sub hl [0, 1, 2, 4] rfl) h
set_option maxHeartbeats 4000000 in
set_option maxRecDepth 100000 in
theorem m_Tre_addName_2 {l : Launch} {D : va_G} {ad : Nat → Nat} {ca : Nat → ClassId} {FU : Nat} {x1 : Int32} {x3 : Int32} {g : St} {q : St} (h : Tre_addName FU 2 x1 x3 g = some q) : CV l ⟨"FlashFiles$Tree", "addName", "(I[II)V"⟩ prog_10_method_18_code 7 4 D (tyF ca) (wF ad ca g) [.ref (ad 7), .int x1, .ref (ad 13), .int x3] (wF ad ca q) := by
  intro sz
  refine Met.fx (Qc := fun A => fxQv D (tyF ca) A (wF ad ca q)) (by decide) (Nat.le_of_ble_eq_true rfl) ?_
  intro p e s m below meth c A ls X hP hD hl
  have hl : lv_has ls 7 [(0, .ref (ad 7)), (1, .int x1), (2, .ref (ad 13)), (3, .int x3)] := hl
  have hS : va_S A s.heap s.heap [] := va_S.rf
  have hx := X.1
  have hb := X.2.1
  unfold Tre_addName at h
  refine lv_aload_n hx hb d_Tre_addName_0 rfl (lv_at hl 0 rfl) ?_
  refine gF_tre_entry X hP d_Tre_addName_1 ?_
  refine lv_iconst (v := 0) hx hb d_Tre_addName_4 (by decide) ?_
  obtain ⟨p7, e1, h⟩ := bd_some h
  refine fx_v X (fx_runS X (m_Arr_fill_0_18 e1 _) (As := [.ref (ad 29), .int (0 : Int32)]) hP hD ks_Tre_73 ⟨Nat.le_of_ble_eq_true rfl, Nat.le_of_ble_eq_true rfl⟩ rfl hl.1 rfl (Nat.le_of_ble_eq_true rfl) d_Tre_addName_5) hD hS (fun H locs hP hD hS => ?_)
  refine lv_aload_n hx hb d_Tre_addName_8 rfl (lv_at hl 0 rfl) ?_
  refine gF_tre_entry X hP d_Tre_addName_9 ?_
  refine lv_iconst (v := 0) hx hb d_Tre_addName_12 (by decide) ?_
  refine lv_iload_n hx hb d_Tre_addName_13 rfl (lv_at hl 3 rfl) ?_
  obtain ⟨g8, e1, h⟩ := bd_some h
  refine sF_18 X hP hD hS e1 d_Tre_addName_14 (fun H locs hP hD hS => ?_)
  refine lv_aload_n hx hb d_Tre_addName_15 rfl (lv_at hl 0 rfl) ?_
  refine gF_tre_entry X hP d_Tre_addName_16 ?_
  refine lv_iconst (v := 1) hx hb d_Tre_addName_19 (by decide) ?_
  refine lv_aload_n hx hb d_Tre_addName_20 rfl (lv_at hl 2 rfl) ?_
  refine lv_iconst (v := 5) hx hb d_Tre_addName_21 (by decide) ?_
  obtain ⟨v9, e1, h⟩ := bd_some h
  refine rF_2 X hP e1 d_Tre_addName_22 ?_
  obtain ⟨g10, e1, h⟩ := bd_some h
  refine sF_18 X hP hD hS e1 d_Tre_addName_23 (fun H locs hP hD hS => ?_)
  refine lv_aload_n hx hb d_Tre_addName_24 rfl (lv_at hl 2 rfl) ?_
  refine lv_iconst (v := 0) hx hb d_Tre_addName_25 (by decide) ?_
  refine lv_aload_n hx hb d_Tre_addName_26 rfl (lv_at hl 0 rfl) ?_
  refine gF_tre_entry X hP d_Tre_addName_27 ?_
  refine lv_iconst (v := 2) hx hb d_Tre_addName_30 (by decide) ?_
  refine lv_iconst (v := 5) hx hb d_Tre_addName_31 (by decide) ?_
  obtain ⟨g11, e1, h⟩ := bd_some h
  refine cpF_2_18 X hP hD hS hl.1.symm (X.2.2.2.2.2.2.1.use q5_108) e1 ⟨Nat.le_of_ble_eq_true rfl, Nat.le_of_ble_eq_true rfl⟩ d_Tre_addName_32 (fun H locs hP hD hS => ?_)
  refine lv_aload_n hx hb d_Tre_addName_35 rfl (lv_at hl 2 rfl) ?_
  refine lv_iconst (v := 0) hx hb d_Tre_addName_36 (by decide) ?_
  obtain ⟨v12, e1, h⟩ := bd_some h
  refine fx_i X (fx_runN X (m_FF_hashOf_2 e1 _) (As := [.ref (ad 13), .int (0 : Int32)]) hP hD kn_Tre_94 ⟨Nat.le_of_ble_eq_true rfl, Nat.le_of_ble_eq_true rfl⟩ rfl hl.1 rfl (Nat.le_of_ble_eq_true rfl) d_Tre_addName_37) hD hS (fun H locs hP hD hS => ?_)
  refine lv_istore hx hb d_Tre_addName_40 hl (by decide) rfl (fun ls hl => ?_)
  have hl : lv_has ls 7 [(4, .int v12), (0, .ref (ad 7)), (1, .int x1), (2, .ref (ad 13)), (3, .int x3)] := hl
  refine lv_iload hx hb d_Tre_addName_42 (lv_at hl 0 rfl) ?_
  refine lv_bipush (v := 48) hx hb d_Tre_addName_44 (by decide) ?_
  refine lv_irem hx hb d_Tre_addName_46 (by decide) ?_
  refine lv_istore hx hb d_Tre_addName_47 hl (by decide) rfl (fun ls hl => ?_)
  have hl : lv_has ls 7 [(5, .int (v12 - v12 / (48 : Int32) * (48 : Int32))), (4, .int v12), (0, .ref (ad 7)), (1, .int x1), (2, .ref (ad 13)), (3, .int x3)] := hl
  refine lv_aload_n hx hb d_Tre_addName_49 rfl (lv_at hl 2 rfl) ?_
  refine gF_tre_device X hP d_Tre_addName_50 ?_
  refine lv_aload_n hx hb d_Tre_addName_53 rfl (lv_at hl 2 rfl) ?_
  refine gF_tre_table X hP d_Tre_addName_54 ?_
  refine lv_iload_n hx hb d_Tre_addName_57 rfl (lv_at hl 3 rfl) ?_
  obtain ⟨v13, e1, h⟩ := bd_some h
  refine fx_i X (fx_runV (As := [.int x1]) X (m_Tab_placeOf e1 _) hP hD kv_Tre_30 ⟨Nat.le_of_ble_eq_true rfl, Nat.le_of_ble_eq_true rfl⟩ 4 rfl rfl rfl hl.1 rfl (Nat.le_of_ble_eq_true rfl) d_Tre_addName_58) hD hS (fun H locs hP hD hS => ?_)
  refine lv_aload_n hx hb d_Tre_addName_61 rfl (lv_at hl 2 rfl) ?_
  refine gF_tre_inode X hP d_Tre_addName_62 ?_
  obtain ⟨p14, e1, h⟩ := bd_some h
  refine fx_v X (fx_runV (As := [.int v13, .ref (ad 28)]) X (m_Dev_load_17 e1 _) hP hD kv_Tre_84 ⟨Nat.le_of_ble_eq_true rfl, Nat.le_of_ble_eq_true rfl⟩ 3 rfl rfl rfl hl.1 rfl (Nat.le_of_ble_eq_true rfl) d_Tre_addName_65) hD hS (fun H locs hP hD hS => ?_)
  refine lv_iconst (v := 0) hx hb d_Tre_addName_68 (by decide) ?_
  refine lv_istore hx hb d_Tre_addName_69 hl (by decide) rfl (fun ls hl => ?_)
  have hl : lv_has ls 7 [(6, .int (0 : Int32)), (5, .int (v12 - v12 / (48 : Int32) * (48 : Int32))), (4, .int v12), (0, .ref (ad 7)), (1, .int x1), (2, .ref (ad 13)), (3, .int x3)] := hl
  exact v_Tre_addName_71_2 X  _ _ _ _ _ _ _ _ _ hP hD hS (lv_sub hl [3, 4, 2, 1, 0] rfl) h
theorem d_Tre_addNew_0 : decode prog_10_method_8_code 0 = .ok (.aload_n 0, 1) := by decide +kernel
theorem d_Tre_addNew_1 : decode prog_10_method_8_code 1 = .ok (.getfield 15, 3) := by decide +kernel
theorem d_Tre_addNew_4 : decode prog_10_method_8_code 4 = .ok (.invokevirtual 61, 3) := by decide +kernel
theorem d_Tre_addNew_7 : decode prog_10_method_8_code 7 = .ok (.istore 4, 2) := by decide +kernel
theorem d_Tre_addNew_9 : decode prog_10_method_8_code 9 = .ok (.aload_n 0, 1) := by decide +kernel
theorem d_Tre_addNew_10 : decode prog_10_method_8_code 10 = .ok (.iload 4, 2) := by decide +kernel
theorem d_Tre_addNew_12 : decode prog_10_method_8_code 12 = .ok (.iload_n 3, 1) := by decide +kernel
theorem d_Tre_addNew_13 : decode prog_10_method_8_code 13 = .ok (.iload_n 3, 1) := by decide +kernel
theorem d_Tre_addNew_14 : decode prog_10_method_8_code 14 = .ok (.iconst 2, 1) := by decide +kernel
theorem d_Tre_addNew_15 : decode prog_10_method_8_code 15 = .ok (.if_icmp .ne 7, 3) := by decide +kernel
theorem d_Tre_addNew_18 : decode prog_10_method_8_code 18 = .ok (.iload_n 1, 1) := by decide +kernel
theorem d_Tre_addNew_19 : decode prog_10_method_8_code 19 = .ok (.goto 4, 3) := by decide +kernel
theorem d_Tre_addNew_22 : decode prog_10_method_8_code 22 = .ok (.iconst 1, 1) := by decide +kernel
theorem d_Tre_addNew_23 : decode prog_10_method_8_code 23 = .ok (.invokevirtual 57, 3) := by decide +kernel
theorem d_Tre_addNew_26 : decode prog_10_method_8_code 26 = .ok (.aload_n 0, 1) := by decide +kernel
theorem d_Tre_addNew_27 : decode prog_10_method_8_code 27 = .ok (.getfield 15, 3) := by decide +kernel
theorem d_Tre_addNew_30 : decode prog_10_method_8_code 30 = .ok (.iload 4, 2) := by decide +kernel
theorem d_Tre_addNew_32 : decode prog_10_method_8_code 32 = .ok (.invokevirtual 65, 3) := by decide +kernel
theorem d_Tre_addNew_35 : decode prog_10_method_8_code 35 = .ok (.aload_n 0, 1) := by decide +kernel
theorem d_Tre_addNew_36 : decode prog_10_method_8_code 36 = .ok (.iload_n 1, 1) := by decide +kernel
theorem d_Tre_addNew_37 : decode prog_10_method_8_code 37 = .ok (.aload_n 2, 1) := by decide +kernel
theorem d_Tre_addNew_38 : decode prog_10_method_8_code 38 = .ok (.iload 4, 2) := by decide +kernel
theorem d_Tre_addNew_40 : decode prog_10_method_8_code 40 = .ok (.invokevirtual 69, 3) := by decide +kernel
theorem d_Tre_addNew_43 : decode prog_10_method_8_code 43 = .ok (.iload 4, 2) := by decide +kernel
theorem d_Tre_addNew_45 : decode prog_10_method_8_code 45 = .ok (.ireturn, 1) := by decide +kernel
set_option maxHeartbeats 4000000 in
set_option maxRecDepth 100000 in
theorem v_Tre_addNew_23_2 {p : Program} {l : Launch} {e : Env} {s : State} {m : MethodId} {args : Array Value} {below : List Frame} {meth : Method} {c : Code} {D : va_G} {ad : Nat → Nat} {ca : Nat → ClassId} {A : Nat → Prop} {FU : Nat} {q : Int32 × St} (X : FX p s m meth c prog_10_method_8_code 5 (some .int) "FlashFiles$Tree" D (tyF ca) A) {y1 : Int32} {y4 : Int32} {z0 : Int32} {z1 : Int32} {z2 : Int32} {g : St} {H : Heap} {locs : List Loc} {ls : Array Slot} (hP : va_P D cls (wF ad ca g) H) (hD : va_D A (wF ad ca g)) (hS : va_S A s.heap H locs) (hl : lv_has ls 5 [(0, .ref (ad 7)), (1, .int y1), (2, .ref (ad 13)), (4, .int y4)]) (h : Tre_addNew_b23 FU 2 y1 y4 z0 z1 z2 g = some q) : W p l e (rmN 5) s m args below meth c H locs 0 0 (MQ below (fxQi D (tyF ca) A (wF ad ca q.2) q.1) args s 0 0 A) (F0 m 23 ls [.int z0, .int z1, .int z2, .ref (ad 7)]) := by
  have hx := X.1
  have hb := X.2.1
  unfold Tre_addNew_b23 at h
  obtain ⟨p1, e1, h⟩ := bd_some h
  refine fx_v X (fx_runV (As := [.int z2, .int z1, .int z0]) X (m_Tre_putNew e1 _) hP hD kv_Tre_57 ⟨Nat.le_of_ble_eq_true rfl, Nat.le_of_ble_eq_true rfl⟩ 7 rfl rfl rfl hl.1 rfl (Nat.le_of_ble_eq_true rfl) d_Tre_addNew_23) hD hS (fun H locs hP hD hS => ?_)
  refine lv_aload_n hx hb d_Tre_addNew_26 rfl (lv_at hl 0 rfl) ?_
  refine gF_tre_table X hP d_Tre_addNew_27 ?_
  refine lv_iload hx hb d_Tre_addNew_30 (lv_at hl 3 rfl) ?_
  obtain ⟨p2, e1, h⟩ := bd_some h
  refine fx_v X (fx_runV (As := [.int y4]) X (m_Tab_stir e1 _) hP hD kv_Tre_65 ⟨Nat.le_of_ble_eq_true rfl, Nat.le_of_ble_eq_true rfl⟩ 4 rfl rfl rfl hl.1 rfl (Nat.le_of_ble_eq_true rfl) d_Tre_addNew_32) hD hS (fun H locs hP hD hS => ?_)
  refine lv_aload_n hx hb d_Tre_addNew_35 rfl (lv_at hl 0 rfl) ?_
  refine lv_iload_n hx hb d_Tre_addNew_36 rfl (lv_at hl 1 rfl) ?_
  refine lv_aload_n hx hb d_Tre_addNew_37 rfl (lv_at hl 2 rfl) ?_
  refine lv_iload hx hb d_Tre_addNew_38 (lv_at hl 3 rfl) ?_
  obtain ⟨p3, e1, h⟩ := bd_some h
  refine fx_v X (fx_runV (As := [.int y1, .ref (ad 13), .int y4]) X (m_Tre_addName_2 e1 _) hP hD kv_Tre_69 ⟨Nat.le_of_ble_eq_true rfl, Nat.le_of_ble_eq_true rfl⟩ 7 rfl rfl rfl hl.1 rfl (Nat.le_of_ble_eq_true rfl) d_Tre_addNew_40) hD hS (fun H locs hP hD hS => ?_)
  refine lv_iload hx hb d_Tre_addNew_43 (lv_at hl 3 rfl) ?_
  cases h
  exact fx_iret X hP hD hS d_Tre_addNew_45
set_option maxHeartbeats 4000000 in
set_option maxRecDepth 100000 in
theorem m_Tre_addNew_2 {l : Launch} {D : va_G} {ad : Nat → Nat} {ca : Nat → ClassId} {FU : Nat} {x1 : Int32} {x3 : Int32} {g : St} {q : Int32 × St} (h : Tre_addNew FU 2 x1 x3 g = some q) : CI l ⟨"FlashFiles$Tree", "addNew", "(I[II)I"⟩ prog_10_method_8_code 5 5 (some .int) D (tyF ca) (wF ad ca g) [.ref (ad 7), .int x1, .ref (ad 13), .int x3] q.1 (wF ad ca q.2) := by
  intro sz
  refine Met.fx (Qc := fun A => fxQi D (tyF ca) A (wF ad ca q.2) q.1) (by decide) (Nat.le_of_ble_eq_true rfl) ?_
  intro p e s m below meth c A ls X hP hD hl
  have hl : lv_has ls 5 [(0, .ref (ad 7)), (1, .int x1), (2, .ref (ad 13)), (3, .int x3)] := hl
  have hS : va_S A s.heap s.heap [] := va_S.rf
  have hx := X.1
  have hb := X.2.1
  unfold Tre_addNew at h
  refine lv_aload_n hx hb d_Tre_addNew_0 rfl (lv_at hl 0 rfl) ?_
  refine gF_tre_table X hP d_Tre_addNew_1 ?_
  obtain ⟨v4, e1, h⟩ := bd_some h
  refine fx_i X (fx_runV (As := []) X (m_Tab_lowestId e1 _) hP hD kv_Tre_61 ⟨Nat.le_of_ble_eq_true rfl, Nat.le_of_ble_eq_true rfl⟩ 4 rfl rfl rfl hl.1 rfl (Nat.le_of_ble_eq_true rfl) d_Tre_addNew_4) hD hS (fun H locs hP hD hS => ?_)
  refine lv_istore hx hb d_Tre_addNew_7 hl (by decide) rfl (fun ls hl => ?_)
  have hl : lv_has ls 5 [(4, .int v4), (0, .ref (ad 7)), (1, .int x1), (2, .ref (ad 13)), (3, .int x3)] := hl
  refine lv_aload_n hx hb d_Tre_addNew_9 rfl (lv_at hl 1 rfl) ?_
  refine lv_iload hx hb d_Tre_addNew_10 (lv_at hl 0 rfl) ?_
  refine lv_iload_n hx hb d_Tre_addNew_12 rfl (lv_at hl 4 rfl) ?_
  refine lv_iload_n hx hb d_Tre_addNew_13 rfl (lv_at hl 4 rfl) ?_
  refine lv_iconst (v := 2) hx hb d_Tre_addNew_14 (by decide) ?_
  refine lv_icmp_ne (tgt := 22) hx hb d_Tre_addNew_15 (by decide) (fun hc => ?_) (fun hc => ?_)
  · have h := if_f hc h
    refine lv_iconst (v := 1) hx hb d_Tre_addNew_22 (by decide) ?_
    exact v_Tre_addNew_23_2 X  hP hD hS (lv_sub hl [1, 2, 3, 0] rfl) h
  · have h := if_t hc h
    refine lv_iload_n hx hb d_Tre_addNew_18 rfl (lv_at hl 2 rfl) ?_
    refine lv_goto (tgt := 23) hx hb d_Tre_addNew_19 (by decide) ?_
    exact v_Tre_addNew_23_2 X  hP hD hS (lv_sub hl [1, 2, 3, 0] rfl) h
set_option maxHeartbeats 4000000 in
set_option maxRecDepth 100000 in
theorem v_Tre_addName_114_3 {p : Program} {l : Launch} {e : Env} {s : State} {m : MethodId} {args : Array Value} {below : List Frame} {meth : Method} {c : Code} {D : va_G} {ad : Nat → Nat} {ca : Nat → ClassId} {A : Nat → Prop} {FU : Nat} {q : St} (X : FX p s m meth c prog_10_method_18_code 7 none "FlashFiles$Tree" D (tyF ca) A) {y1 : Int32} {y4 : Int32} {y5 : Int32} {g : St} {H : Heap} {locs : List Loc} {ls : Array Slot} (hP : va_P D cls (wF ad ca g) H) (hD : va_D A (wF ad ca g)) (hS : va_S A s.heap H locs) (hl : lv_has ls 7 [(0, .ref (ad 7)), (1, .int y1), (4, .int y4), (5, .int y5)]) (h : Tre_addName_b114 FU 3 y1 y4 y5 g = some q) : W p l e (rmN 4) s m args below meth c H locs 0 0 (MQ below (fxQv D (tyF ca) A (wF ad ca q)) args s 0 0 A) (F0 m 114 ls []) := by
  have hx := X.1
  have hb := X.2.1
  unfold Tre_addName_b114 at h
  refine lv_aload_n hx hb d_Tre_addName_114 rfl (lv_at hl 0 rfl) ?_
  refine gF_tre_inode X hP d_Tre_addName_115 ?_
  refine lv_bipush (v := 6) hx hb d_Tre_addName_118 (by decide) ?_
  refine lv_iload hx hb d_Tre_addName_120 (lv_at hl 3 rfl) ?_
  refine lv_iadd hx hb d_Tre_addName_122 ?_
  refine lv_iload hx hb d_Tre_addName_123 (lv_at hl 2 rfl) ?_
  refine lv_bipush (v := 12) hx hb d_Tre_addName_125 (by decide) ?_
  refine lv_ishl hx hb d_Tre_addName_127 ?_
  refine lv_aload_n hx hb d_Tre_addName_128 rfl (lv_at hl 0 rfl) ?_
  refine gF_tre_log X hP d_Tre_addName_129 ?_
  refine lv_aload_n hx hb d_Tre_addName_132 rfl (lv_at hl 0 rfl) ?_
  refine gF_tre_entry X hP d_Tre_addName_133 ?_
  obtain ⟨p1, e1, h⟩ := bd_some h
  refine fx_i X (fx_runV (As := [.ref (ad 29)]) X (m_Log_putData_18 e1 _) hP hD kv_Tre_108 ⟨Nat.le_of_ble_eq_true rfl, Nat.le_of_ble_eq_true rfl⟩ 5 rfl rfl rfl hl.1 rfl (Nat.le_of_ble_eq_true rfl) d_Tre_addName_136) hD hS (fun H locs hP hD hS => ?_)
  refine lv_ior hx hb d_Tre_addName_139 ?_
  obtain ⟨g2, e1, h⟩ := bd_some h
  refine sF_17 X hP hD hS e1 d_Tre_addName_140 (fun H locs hP hD hS => ?_)
  refine lv_aload_n hx hb d_Tre_addName_141 rfl (lv_at hl 0 rfl) ?_
  refine gF_tre_inode X hP d_Tre_addName_142 ?_
  refine lv_iconst (v := 1) hx hb d_Tre_addName_145 (by decide) ?_
  refine lv_dup2_11 hx hb d_Tre_addName_146 rfl rfl ?_
  obtain ⟨v3, e1, h⟩ := bd_some h
  refine rF_17 X hP e1 d_Tre_addName_147 ?_
  refine lv_iconst (v := 1) hx hb d_Tre_addName_148 (by decide) ?_
  refine lv_iadd hx hb d_Tre_addName_149 ?_
  obtain ⟨g4, e1, h⟩ := bd_some h
  refine sF_17 X hP hD hS e1 d_Tre_addName_150 (fun H locs hP hD hS => ?_)
  refine lv_aload_n hx hb d_Tre_addName_151 rfl (lv_at hl 0 rfl) ?_
  refine gF_tre_log X hP d_Tre_addName_152 ?_
  refine lv_iload_n hx hb d_Tre_addName_155 rfl (lv_at hl 1 rfl) ?_
  refine lv_aload_n hx hb d_Tre_addName_156 rfl (lv_at hl 0 rfl) ?_
  refine gF_tre_inode X hP d_Tre_addName_157 ?_
  refine lv_iconst (v := 0) hx hb d_Tre_addName_160 (by decide) ?_
  obtain ⟨p5, e1, h⟩ := bd_some h
  refine fx_v X (fx_runV (As := [.int y1, .ref (ad 28), .int (0 : Int32)]) X (m_Log_putNode_17 e1 _) hP hD kv_Tre_79 ⟨Nat.le_of_ble_eq_true rfl, Nat.le_of_ble_eq_true rfl⟩ 5 rfl rfl rfl hl.1 rfl (Nat.le_of_ble_eq_true rfl) d_Tre_addName_161) hD hS (fun H locs hP hD hS => ?_)
  cases h
  exact fx_vret X hP hD hS d_Tre_addName_164
set_option maxHeartbeats 4000000 in
set_option maxRecDepth 100000 in
theorem v_Tre_addName_106_3 {p : Program} {l : Launch} {e : Env} {s : State} {m : MethodId} {args : Array Value} {below : List Frame} {meth : Method} {c : Code} {D : va_G} {ad : Nat → Nat} {ca : Nat → ClassId} {A : Nat → Prop} {FU : Nat} {q : St} (X : FX p s m meth c prog_10_method_18_code 7 none "FlashFiles$Tree" D (tyF ca) A) {k71 : Int32 → Int32 → Int32 → Int32 → St → Option (St)} (hk71 : ∀ (y1 y4 y5 y6 : Int32) (g : St) (H : Heap) (locs : List Loc) (ls : Array Slot), va_P D cls (wF ad ca g) H → va_D A (wF ad ca g) → va_S A s.heap H locs → lv_has ls 7 [(0, .ref (ad 7)), (1, .int y1), (4, .int y4), (5, .int y5), (6, .int y6)] → k71 y1 y4 y5 y6 g = some q → W p l e (rmN 4) s m args below meth c H locs 0 0 (MQ below (fxQv D (tyF ca) A (wF ad ca q)) args s 0 0 A) (F0 m 71 ls [])) {y1 : Int32} {y4 : Int32} {y6 : Int32} {z0 : Int32} {g : St} {H : Heap} {locs : List Loc} {ls : Array Slot} (hP : va_P D cls (wF ad ca g) H) (hD : va_D A (wF ad ca g)) (hS : va_S A s.heap H locs) (hl : lv_has ls 7 [(0, .ref (ad 7)), (1, .int y1), (4, .int y4), (6, .int y6)]) (h : Tre_addName_b106 FU 3 k71 y1 y4 y6 z0 g = some q) : W p l e (rmN 4) s m args below meth c H locs 0 0 (MQ below (fxQv D (tyF ca) A (wF ad ca q)) args s 0 0 A) (F0 m 106 ls [.int z0]) := by
  have hx := X.1
  have hb := X.2.1
  unfold Tre_addName_b106 at h
  refine lv_istore hx hb d_Tre_addName_106 hl (by decide) rfl (fun ls hl => ?_)
  have hl : lv_has ls 7 [(5, .int z0), (0, .ref (ad 7)), (1, .int y1), (4, .int y4), (6, .int y6)] := hl
  refine lv_iinc (k := 4) (v := (y6 + (1 : Int32))) hx hb d_Tre_addName_108 hl rfl (oi_1 _) (by decide) rfl (fun ls hl => ?_)
  have hl : lv_has ls 7 [(6, .int (y6 + (1 : Int32))), (5, .int z0), (0, .ref (ad 7)), (1, .int y1), (4, .int y4)] := hl
  refine lv_goto (tgt := 71) hx hb d_Tre_addName_111 (by decide) ?_
  exact hk71 _ _ _ _ _ _ _ _ hP hD hS (lv_sub hl [2, 3, 4, 1, 0] rfl) h
set_option maxHeartbeats 4000000 in
set_option maxRecDepth 100000 in
theorem v_Tre_addName_71_3 {p : Program} {l : Launch} {e : Env} {s : State} {m : MethodId} {args : Array Value} {below : List Frame} {meth : Method} {c : Code} {D : va_G} {ad : Nat → Nat} {ca : Nat → ClassId} {A : Nat → Prop} {FU : Nat} {q : St} (X : FX p s m meth c prog_10_method_18_code 7 none "FlashFiles$Tree" D (tyF ca) A) : ∀ (n : Nat), ∀ (y1 y4 y5 y6 : Int32) (g : St) (H : Heap) (locs : List Loc) (ls : Array Slot), va_P D cls (wF ad ca g) H → va_D A (wF ad ca g) → va_S A s.heap H locs → lv_has ls 7 [(0, .ref (ad 7)), (1, .int y1), (4, .int y4), (5, .int y5), (6, .int y6)] → Tre_addName_b71 FU 3 n y1 y4 y5 y6 g = some q → W p l e (rmN 4) s m args below meth c H locs 0 0 (MQ below (fxQv D (tyF ca) A (wF ad ca q)) args s 0 0 A) (F0 m 71 ls []) := by
  have hx := X.1
  have hb := X.2.1
  intro n
  induction n with
  | zero =>
    intro y1 y4 y5 y6 g H locs ls hP hD hS hl h
    cases h
  | succ n ih =>
    intro y1 y4 y5 y6 g H locs ls hP hD hS hl h
    have h := h
    rw [Tre_addName_b71.eq_2] at h
    refine lv_iload hx hb d_Tre_addName_71 (lv_at hl 4 rfl) ?_
    refine lv_bipush (v := 48) hx hb d_Tre_addName_73 (by decide) ?_
    refine lv_icmp_ge (tgt := 114) hx hb d_Tre_addName_75 (by decide) (fun hc => ?_) (fun hc => ?_)
    · have h := if_t hc h
      exact v_Tre_addName_114_3 X  hP hD hS (lv_sub hl [0, 1, 2, 3] rfl) h
    · have h := if_f hc h
      refine lv_aload_n hx hb d_Tre_addName_78 rfl (lv_at hl 0 rfl) ?_
      refine gF_tre_inode X hP d_Tre_addName_79 ?_
      refine lv_bipush (v := 6) hx hb d_Tre_addName_82 (by decide) ?_
      refine lv_iload hx hb d_Tre_addName_84 (lv_at hl 3 rfl) ?_
      refine lv_iadd hx hb d_Tre_addName_86 ?_
      obtain ⟨v6, e1, h⟩ := bd_some h
      refine rF_17 X hP e1 d_Tre_addName_87 ?_
      refine lv_if_eq (tgt := 114) hx hb d_Tre_addName_88 (by decide) (fun hc => ?_) (fun hc => ?_)
      · have h := if_t hc h
        exact v_Tre_addName_114_3 X  hP hD hS (lv_sub hl [0, 1, 2, 3] rfl) h
      · have h := if_f hc h
        refine lv_iload hx hb d_Tre_addName_91 (lv_at hl 3 rfl) ?_
        refine lv_bipush (v := 47) hx hb d_Tre_addName_93 (by decide) ?_
        refine lv_icmp_ne (tgt := 102) hx hb d_Tre_addName_95 (by decide) (fun hc => ?_) (fun hc => ?_)
        · have h := if_f hc h
          refine lv_iload hx hb d_Tre_addName_102 (lv_at hl 3 rfl) ?_
          refine lv_iconst (v := 1) hx hb d_Tre_addName_104 (by decide) ?_
          refine lv_iadd hx hb d_Tre_addName_105 ?_
          exact v_Tre_addName_106_3 X ih hP hD hS (lv_sub hl [0, 1, 2, 4] rfl) h
        · have h := if_t hc h
          refine lv_iconst (v := 0) hx hb d_Tre_addName_98 (by decide) ?_
          refine lv_goto (tgt := 106) hx hb d_Tre_addName_99 (by decide) ?_
          exact v_Tre_addName_106_3 X ih hP hD hS (lv_sub hl [0, 1, 2, 4] rfl) h
set_option maxHeartbeats 4000000 in
set_option maxRecDepth 100000 in
theorem m_Tre_addName_3 {l : Launch} {D : va_G} {ad : Nat → Nat} {ca : Nat → ClassId} {FU : Nat} {x1 : Int32} {x3 : Int32} {g : St} {q : St} (h : Tre_addName FU 3 x1 x3 g = some q) : CV l ⟨"FlashFiles$Tree", "addName", "(I[II)V"⟩ prog_10_method_18_code 7 4 D (tyF ca) (wF ad ca g) [.ref (ad 7), .int x1, .ref (ad 14), .int x3] (wF ad ca q) := by
  intro sz
  refine Met.fx (Qc := fun A => fxQv D (tyF ca) A (wF ad ca q)) (by decide) (Nat.le_of_ble_eq_true rfl) ?_
  intro p e s m below meth c A ls X hP hD hl
  have hl : lv_has ls 7 [(0, .ref (ad 7)), (1, .int x1), (2, .ref (ad 14)), (3, .int x3)] := hl
  have hS : va_S A s.heap s.heap [] := va_S.rf
  have hx := X.1
  have hb := X.2.1
  unfold Tre_addName at h
  refine lv_aload_n hx hb d_Tre_addName_0 rfl (lv_at hl 0 rfl) ?_
  refine gF_tre_entry X hP d_Tre_addName_1 ?_
  refine lv_iconst (v := 0) hx hb d_Tre_addName_4 (by decide) ?_
  obtain ⟨p7, e1, h⟩ := bd_some h
  refine fx_v X (fx_runS X (m_Arr_fill_0_18 e1 _) (As := [.ref (ad 29), .int (0 : Int32)]) hP hD ks_Tre_73 ⟨Nat.le_of_ble_eq_true rfl, Nat.le_of_ble_eq_true rfl⟩ rfl hl.1 rfl (Nat.le_of_ble_eq_true rfl) d_Tre_addName_5) hD hS (fun H locs hP hD hS => ?_)
  refine lv_aload_n hx hb d_Tre_addName_8 rfl (lv_at hl 0 rfl) ?_
  refine gF_tre_entry X hP d_Tre_addName_9 ?_
  refine lv_iconst (v := 0) hx hb d_Tre_addName_12 (by decide) ?_
  refine lv_iload_n hx hb d_Tre_addName_13 rfl (lv_at hl 3 rfl) ?_
  obtain ⟨g8, e1, h⟩ := bd_some h
  refine sF_18 X hP hD hS e1 d_Tre_addName_14 (fun H locs hP hD hS => ?_)
  refine lv_aload_n hx hb d_Tre_addName_15 rfl (lv_at hl 0 rfl) ?_
  refine gF_tre_entry X hP d_Tre_addName_16 ?_
  refine lv_iconst (v := 1) hx hb d_Tre_addName_19 (by decide) ?_
  refine lv_aload_n hx hb d_Tre_addName_20 rfl (lv_at hl 2 rfl) ?_
  refine lv_iconst (v := 5) hx hb d_Tre_addName_21 (by decide) ?_
  obtain ⟨v9, e1, h⟩ := bd_some h
  refine rF_3 X hP e1 d_Tre_addName_22 ?_
  obtain ⟨g10, e1, h⟩ := bd_some h
  refine sF_18 X hP hD hS e1 d_Tre_addName_23 (fun H locs hP hD hS => ?_)
  refine lv_aload_n hx hb d_Tre_addName_24 rfl (lv_at hl 2 rfl) ?_
  refine lv_iconst (v := 0) hx hb d_Tre_addName_25 (by decide) ?_
  refine lv_aload_n hx hb d_Tre_addName_26 rfl (lv_at hl 0 rfl) ?_
  refine gF_tre_entry X hP d_Tre_addName_27 ?_
  refine lv_iconst (v := 2) hx hb d_Tre_addName_30 (by decide) ?_
  refine lv_iconst (v := 5) hx hb d_Tre_addName_31 (by decide) ?_
  obtain ⟨g11, e1, h⟩ := bd_some h
  refine cpF_3_18 X hP hD hS hl.1.symm (X.2.2.2.2.2.2.1.use q5_108) e1 ⟨Nat.le_of_ble_eq_true rfl, Nat.le_of_ble_eq_true rfl⟩ d_Tre_addName_32 (fun H locs hP hD hS => ?_)
  refine lv_aload_n hx hb d_Tre_addName_35 rfl (lv_at hl 2 rfl) ?_
  refine lv_iconst (v := 0) hx hb d_Tre_addName_36 (by decide) ?_
  obtain ⟨v12, e1, h⟩ := bd_some h
  refine fx_i X (fx_runN X (m_FF_hashOf_3 e1 _) (As := [.ref (ad 14), .int (0 : Int32)]) hP hD kn_Tre_94 ⟨Nat.le_of_ble_eq_true rfl, Nat.le_of_ble_eq_true rfl⟩ rfl hl.1 rfl (Nat.le_of_ble_eq_true rfl) d_Tre_addName_37) hD hS (fun H locs hP hD hS => ?_)
  refine lv_istore hx hb d_Tre_addName_40 hl (by decide) rfl (fun ls hl => ?_)
  have hl : lv_has ls 7 [(4, .int v12), (0, .ref (ad 7)), (1, .int x1), (2, .ref (ad 14)), (3, .int x3)] := hl
  refine lv_iload hx hb d_Tre_addName_42 (lv_at hl 0 rfl) ?_
  refine lv_bipush (v := 48) hx hb d_Tre_addName_44 (by decide) ?_
  refine lv_irem hx hb d_Tre_addName_46 (by decide) ?_
  refine lv_istore hx hb d_Tre_addName_47 hl (by decide) rfl (fun ls hl => ?_)
  have hl : lv_has ls 7 [(5, .int (v12 - v12 / (48 : Int32) * (48 : Int32))), (4, .int v12), (0, .ref (ad 7)), (1, .int x1), (2, .ref (ad 14)), (3, .int x3)] := hl
  refine lv_aload_n hx hb d_Tre_addName_49 rfl (lv_at hl 2 rfl) ?_
  refine gF_tre_device X hP d_Tre_addName_50 ?_
  refine lv_aload_n hx hb d_Tre_addName_53 rfl (lv_at hl 2 rfl) ?_
  refine gF_tre_table X hP d_Tre_addName_54 ?_
  refine lv_iload_n hx hb d_Tre_addName_57 rfl (lv_at hl 3 rfl) ?_
  obtain ⟨v13, e1, h⟩ := bd_some h
  refine fx_i X (fx_runV (As := [.int x1]) X (m_Tab_placeOf e1 _) hP hD kv_Tre_30 ⟨Nat.le_of_ble_eq_true rfl, Nat.le_of_ble_eq_true rfl⟩ 4 rfl rfl rfl hl.1 rfl (Nat.le_of_ble_eq_true rfl) d_Tre_addName_58) hD hS (fun H locs hP hD hS => ?_)
  refine lv_aload_n hx hb d_Tre_addName_61 rfl (lv_at hl 2 rfl) ?_
  refine gF_tre_inode X hP d_Tre_addName_62 ?_
  obtain ⟨p14, e1, h⟩ := bd_some h
  refine fx_v X (fx_runV (As := [.int v13, .ref (ad 28)]) X (m_Dev_load_17 e1 _) hP hD kv_Tre_84 ⟨Nat.le_of_ble_eq_true rfl, Nat.le_of_ble_eq_true rfl⟩ 3 rfl rfl rfl hl.1 rfl (Nat.le_of_ble_eq_true rfl) d_Tre_addName_65) hD hS (fun H locs hP hD hS => ?_)
  refine lv_iconst (v := 0) hx hb d_Tre_addName_68 (by decide) ?_
  refine lv_istore hx hb d_Tre_addName_69 hl (by decide) rfl (fun ls hl => ?_)
  have hl : lv_has ls 7 [(6, .int (0 : Int32)), (5, .int (v12 - v12 / (48 : Int32) * (48 : Int32))), (4, .int v12), (0, .ref (ad 7)), (1, .int x1), (2, .ref (ad 14)), (3, .int x3)] := hl
  exact v_Tre_addName_71_3 X  _ _ _ _ _ _ _ _ _ hP hD hS (lv_sub hl [3, 4, 2, 1, 0] rfl) h
theorem d_Tre_tellName_0 : decode prog_10_method_20_code 0 = .ok (.aload_n 3, 1) := by decide +kernel
theorem d_Tre_tellName_1 : decode prog_10_method_20_code 1 = .ok (.iconst 0, 1) := by decide +kernel
theorem d_Tre_tellName_2 : decode prog_10_method_20_code 2 = .ok (.invokevirtual 115, 3) := by decide +kernel
theorem d_Tre_tellName_5 : decode prog_10_method_20_code 5 = .ok (.iload_n 2, 1) := by decide +kernel
theorem d_Tre_tellName_6 : decode prog_10_method_20_code 6 = .ok (.aload_n 0, 1) := by decide +kernel
theorem d_Tre_tellName_7 : decode prog_10_method_20_code 7 = .ok (.iload_n 1, 1) := by decide +kernel
theorem d_Tre_tellName_8 : decode prog_10_method_20_code 8 = .ok (.iconst 1, 1) := by decide +kernel
theorem d_Tre_tellName_9 : decode prog_10_method_20_code 9 = .ok (.invokevirtual 42, 3) := by decide +kernel
theorem d_Tre_tellName_12 : decode prog_10_method_20_code 12 = .ok (.if_icmp .lt 5, 3) := by decide +kernel
theorem d_Tre_tellName_15 : decode prog_10_method_20_code 15 = .ok (.iconst (-1), 1) := by decide +kernel
theorem d_Tre_tellName_16 : decode prog_10_method_20_code 16 = .ok (.ireturn, 1) := by decide +kernel
theorem d_Tre_tellName_17 : decode prog_10_method_20_code 17 = .ok (.aload_n 0, 1) := by decide +kernel
theorem d_Tre_tellName_18 : decode prog_10_method_20_code 18 = .ok (.getfield 9, 3) := by decide +kernel
theorem d_Tre_tellName_21 : decode prog_10_method_20_code 21 = .ok (.aload_n 0, 1) := by decide +kernel
theorem d_Tre_tellName_22 : decode prog_10_method_20_code 22 = .ok (.getfield 15, 3) := by decide +kernel
theorem d_Tre_tellName_25 : decode prog_10_method_20_code 25 = .ok (.iload_n 1, 1) := by decide +kernel
theorem d_Tre_tellName_26 : decode prog_10_method_20_code 26 = .ok (.invokevirtual 30, 3) := by decide +kernel
theorem d_Tre_tellName_29 : decode prog_10_method_20_code 29 = .ok (.aload_n 0, 1) := by decide +kernel
theorem d_Tre_tellName_30 : decode prog_10_method_20_code 30 = .ok (.getfield 23, 3) := by decide +kernel
theorem d_Tre_tellName_33 : decode prog_10_method_20_code 33 = .ok (.invokevirtual 84, 3) := by decide +kernel
theorem d_Tre_tellName_36 : decode prog_10_method_20_code 36 = .ok (.iconst 0, 1) := by decide +kernel
theorem d_Tre_tellName_37 : decode prog_10_method_20_code 37 = .ok (.istore 4, 2) := by decide +kernel
theorem d_Tre_tellName_39 : decode prog_10_method_20_code 39 = .ok (.iload 4, 2) := by decide +kernel
theorem d_Tre_tellName_41 : decode prog_10_method_20_code 41 = .ok (.bipush 48, 2) := by decide +kernel
theorem d_Tre_tellName_43 : decode prog_10_method_20_code 43 = .ok (.if_icmp .ge 96, 3) := by decide +kernel
theorem d_Tre_tellName_46 : decode prog_10_method_20_code 46 = .ok (.aload_n 0, 1) := by decide +kernel
theorem d_Tre_tellName_47 : decode prog_10_method_20_code 47 = .ok (.getfield 23, 3) := by decide +kernel
theorem d_Tre_tellName_50 : decode prog_10_method_20_code 50 = .ok (.bipush 6, 2) := by decide +kernel
theorem d_Tre_tellName_52 : decode prog_10_method_20_code 52 = .ok (.iload 4, 2) := by decide +kernel
theorem d_Tre_tellName_54 : decode prog_10_method_20_code 54 = .ok (.iadd, 1) := by decide +kernel
theorem d_Tre_tellName_55 : decode prog_10_method_20_code 55 = .ok (.iaload, 1) := by decide +kernel
theorem d_Tre_tellName_56 : decode prog_10_method_20_code 56 = .ok (.sipush 4095, 3) := by decide +kernel
theorem d_Tre_tellName_59 : decode prog_10_method_20_code 59 = .ok (.iand, 1) := by decide +kernel
theorem d_Tre_tellName_60 : decode prog_10_method_20_code 60 = .ok (.istore 5, 2) := by decide +kernel
theorem d_Tre_tellName_62 : decode prog_10_method_20_code 62 = .ok (.iload 5, 2) := by decide +kernel
theorem d_Tre_tellName_64 : decode prog_10_method_20_code 64 = .ok (.ifCond .eq 69, 3) := by decide +kernel
theorem d_Tre_tellName_67 : decode prog_10_method_20_code 67 = .ok (.aload_n 0, 1) := by decide +kernel
theorem d_Tre_tellName_68 : decode prog_10_method_20_code 68 = .ok (.iload 5, 2) := by decide +kernel
theorem d_Tre_tellName_70 : decode prog_10_method_20_code 70 = .ok (.invokevirtual 120, 3) := by decide +kernel
theorem d_Tre_tellName_73 : decode prog_10_method_20_code 73 = .ok (.iload_n 2, 1) := by decide +kernel
theorem d_Tre_tellName_74 : decode prog_10_method_20_code 74 = .ok (.if_icmp .ne 59, 3) := by decide +kernel
theorem d_Tre_tellName_77 : decode prog_10_method_20_code 77 = .ok (.aload_n 0, 1) := by decide +kernel
theorem d_Tre_tellName_78 : decode prog_10_method_20_code 78 = .ok (.getfield 9, 3) := by decide +kernel
theorem d_Tre_tellName_81 : decode prog_10_method_20_code 81 = .ok (.iload 5, 2) := by decide +kernel
theorem d_Tre_tellName_83 : decode prog_10_method_20_code 83 = .ok (.aload_n 0, 1) := by decide +kernel
theorem d_Tre_tellName_84 : decode prog_10_method_20_code 84 = .ok (.getfield 27, 3) := by decide +kernel
theorem d_Tre_tellName_87 : decode prog_10_method_20_code 87 = .ok (.invokevirtual 84, 3) := by decide +kernel
theorem d_Tre_tellName_90 : decode prog_10_method_20_code 90 = .ok (.aload_n 0, 1) := by decide +kernel
theorem d_Tre_tellName_91 : decode prog_10_method_20_code 91 = .ok (.getfield 27, 3) := by decide +kernel
theorem d_Tre_tellName_94 : decode prog_10_method_20_code 94 = .ok (.iconst 1, 1) := by decide +kernel
theorem d_Tre_tellName_95 : decode prog_10_method_20_code 95 = .ok (.iaload, 1) := by decide +kernel
theorem d_Tre_tellName_96 : decode prog_10_method_20_code 96 = .ok (.bipush 20, 2) := by decide +kernel
theorem d_Tre_tellName_98 : decode prog_10_method_20_code 98 = .ok (.invokestatic 123, 3) := by decide +kernel
theorem d_Tre_tellName_101 : decode prog_10_method_20_code 101 = .ok (.istore 6, 2) := by decide +kernel
theorem d_Tre_tellName_103 : decode prog_10_method_20_code 103 = .ok (.iconst 0, 1) := by decide +kernel
theorem d_Tre_tellName_104 : decode prog_10_method_20_code 104 = .ok (.istore 7, 2) := by decide +kernel
theorem d_Tre_tellName_106 : decode prog_10_method_20_code 106 = .ok (.iload 7, 2) := by decide +kernel
theorem d_Tre_tellName_108 : decode prog_10_method_20_code 108 = .ok (.iload 6, 2) := by decide +kernel
theorem d_Tre_tellName_110 : decode prog_10_method_20_code 110 = .ok (.if_icmp .ge 23, 3) := by decide +kernel
theorem d_Tre_tellName_113 : decode prog_10_method_20_code 113 = .ok (.aload_n 3, 1) := by decide +kernel
theorem d_Tre_tellName_114 : decode prog_10_method_20_code 114 = .ok (.aload_n 0, 1) := by decide +kernel
theorem d_Tre_tellName_115 : decode prog_10_method_20_code 115 = .ok (.getfield 27, 3) := by decide +kernel
theorem d_Tre_tellName_118 : decode prog_10_method_20_code 118 = .ok (.iconst 2, 1) := by decide +kernel
theorem d_Tre_tellName_119 : decode prog_10_method_20_code 119 = .ok (.iload 7, 2) := by decide +kernel
theorem d_Tre_tellName_121 : decode prog_10_method_20_code 121 = .ok (.invokestatic 128, 3) := by decide +kernel
theorem d_Tre_tellName_124 : decode prog_10_method_20_code 124 = .ok (.invokevirtual 132, 3) := by decide +kernel
theorem d_Tre_tellName_127 : decode prog_10_method_20_code 127 = .ok (.iinc 7 1, 3) := by decide +kernel
theorem d_Tre_tellName_130 : decode prog_10_method_20_code 130 = .ok (.goto (-24), 3) := by decide +kernel
theorem d_Tre_tellName_133 : decode prog_10_method_20_code 133 = .ok (.iinc 4 1, 3) := by decide +kernel
theorem d_Tre_tellName_136 : decode prog_10_method_20_code 136 = .ok (.goto (-97), 3) := by decide +kernel
theorem d_Tre_tellName_139 : decode prog_10_method_20_code 139 = .ok (.aload_n 3, 1) := by decide +kernel
theorem d_Tre_tellName_140 : decode prog_10_method_20_code 140 = .ok (.invokevirtual 135, 3) := by decide +kernel
theorem d_Tre_tellName_143 : decode prog_10_method_20_code 143 = .ok (.ireturn, 1) := by decide +kernel
set_option maxHeartbeats 4000000 in
set_option maxRecDepth 100000 in
theorem v_Tre_tellName_133_1 {p : Program} {l : Launch} {e : Env} {s : State} {m : MethodId} {args : Array Value} {below : List Frame} {meth : Method} {c : Code} {D : va_G} {ad : Nat → Nat} {ca : Nat → ClassId} {A : Nat → Prop} {FU : Nat} {q : Int32 × St} (X : FX p s m meth c prog_10_method_20_code 8 (some .int) "FlashFiles$Tree" D (tyF ca) A) {k39 : Int32 → Int32 → St → Option (Int32 × St)} (hk39 : ∀ (y2 y4 : Int32) (g : St) (H : Heap) (locs : List Loc) (ls : Array Slot), va_P D cls (wF ad ca g) H → va_D A (wF ad ca g) → va_S A s.heap H locs → lv_has ls 8 [(0, .ref (ad 7)), (2, .int y2), (3, .ref (ad 2)), (4, .int y4)] → k39 y2 y4 g = some q → W p l e (rmN 4) s m args below meth c H locs 0 0 (MQ below (fxQi D (tyF ca) A (wF ad ca q.2) q.1) args s 0 0 A) (F0 m 39 ls [])) {y2 : Int32} {y4 : Int32} {g : St} {H : Heap} {locs : List Loc} {ls : Array Slot} (hP : va_P D cls (wF ad ca g) H) (hD : va_D A (wF ad ca g)) (hS : va_S A s.heap H locs) (hl : lv_has ls 8 [(0, .ref (ad 7)), (2, .int y2), (3, .ref (ad 2)), (4, .int y4)]) (h : Tre_tellName_b133 FU 1 k39 y2 y4 g = some q) : W p l e (rmN 4) s m args below meth c H locs 0 0 (MQ below (fxQi D (tyF ca) A (wF ad ca q.2) q.1) args s 0 0 A) (F0 m 133 ls []) := by
  have hx := X.1
  have hb := X.2.1
  unfold Tre_tellName_b133 at h
  refine lv_iinc (k := 3) (v := (y4 + (1 : Int32))) hx hb d_Tre_tellName_133 hl rfl (oi_1 _) (by decide) rfl (fun ls hl => ?_)
  have hl : lv_has ls 8 [(4, .int (y4 + (1 : Int32))), (0, .ref (ad 7)), (2, .int y2), (3, .ref (ad 2))] := hl
  refine lv_goto (tgt := 39) hx hb d_Tre_tellName_136 (by decide) ?_
  exact hk39 _ _ _ _ _ _ hP hD hS (lv_sub hl [1, 2, 3, 0] rfl) h
set_option maxHeartbeats 4000000 in
set_option maxRecDepth 100000 in
theorem v_Tre_tellName_106_1 {p : Program} {l : Launch} {e : Env} {s : State} {m : MethodId} {args : Array Value} {below : List Frame} {meth : Method} {c : Code} {D : va_G} {ad : Nat → Nat} {ca : Nat → ClassId} {A : Nat → Prop} {FU : Nat} {q : Int32 × St} (X : FX p s m meth c prog_10_method_20_code 8 (some .int) "FlashFiles$Tree" D (tyF ca) A) {k39 : Int32 → Int32 → St → Option (Int32 × St)} (hk39 : ∀ (y2 y4 : Int32) (g : St) (H : Heap) (locs : List Loc) (ls : Array Slot), va_P D cls (wF ad ca g) H → va_D A (wF ad ca g) → va_S A s.heap H locs → lv_has ls 8 [(0, .ref (ad 7)), (2, .int y2), (3, .ref (ad 2)), (4, .int y4)] → k39 y2 y4 g = some q → W p l e (rmN 4) s m args below meth c H locs 0 0 (MQ below (fxQi D (tyF ca) A (wF ad ca q.2) q.1) args s 0 0 A) (F0 m 39 ls [])) : ∀ (n : Nat), ∀ (y2 y4 y6 y7 : Int32) (g : St) (H : Heap) (locs : List Loc) (ls : Array Slot), va_P D cls (wF ad ca g) H → va_D A (wF ad ca g) → va_S A s.heap H locs → lv_has ls 8 [(0, .ref (ad 7)), (2, .int y2), (3, .ref (ad 2)), (4, .int y4), (6, .int y6), (7, .int y7)] → Tre_tellName_b106 FU 1 k39 n y2 y4 y6 y7 g = some q → W p l e (rmN 4) s m args below meth c H locs 0 0 (MQ below (fxQi D (tyF ca) A (wF ad ca q.2) q.1) args s 0 0 A) (F0 m 106 ls []) := by
  have hx := X.1
  have hb := X.2.1
  intro n
  induction n with
  | zero =>
    intro y2 y4 y6 y7 g H locs ls hP hD hS hl h
    cases h
  | succ n ih =>
    intro y2 y4 y6 y7 g H locs ls hP hD hS hl h
    have h := h
    rw [Tre_tellName_b106.eq_2] at h
    refine lv_iload hx hb d_Tre_tellName_106 (lv_at hl 5 rfl) ?_
    refine lv_iload hx hb d_Tre_tellName_108 (lv_at hl 4 rfl) ?_
    refine lv_icmp_ge (tgt := 133) hx hb d_Tre_tellName_110 (by decide) (fun hc => ?_) (fun hc => ?_)
    · have h := if_t hc h
      exact v_Tre_tellName_133_1 X hk39 hP hD hS (lv_sub hl [0, 1, 2, 3] rfl) h
    · have h := if_f hc h
      refine lv_aload_n hx hb d_Tre_tellName_113 rfl (lv_at hl 2 rfl) ?_
      refine lv_aload_n hx hb d_Tre_tellName_114 rfl (lv_at hl 0 rfl) ?_
      refine gF_tre_entry X hP d_Tre_tellName_115 ?_
      refine lv_iconst (v := 2) hx hb d_Tre_tellName_118 (by decide) ?_
      refine lv_iload hx hb d_Tre_tellName_119 (lv_at hl 5 rfl) ?_
      obtain ⟨v1, e1, h⟩ := bd_some h
      refine fx_i X (fx_runN X (m_FF_getByte_18 e1 _) (As := [.ref (ad 29), .int (2 : Int32), .int y7]) hP hD kn_Tre_128 ⟨Nat.le_of_ble_eq_true rfl, Nat.le_of_ble_eq_true rfl⟩ rfl hl.1 rfl (Nat.le_of_ble_eq_true rfl) d_Tre_tellName_121) hD hS (fun H locs hP hD hS => ?_)
      obtain ⟨p2, e1, h⟩ := bd_some h
      refine fx_v X (fx_runV (As := [.int v1]) X (m_Row_add_1 e1 _) hP hD kv_Tre_132 ⟨Nat.le_of_ble_eq_true rfl, Nat.le_of_ble_eq_true rfl⟩ 2 rfl rfl rfl hl.1 rfl (Nat.le_of_ble_eq_true rfl) d_Tre_tellName_124) hD hS (fun H locs hP hD hS => ?_)
      refine lv_iinc (k := 5) (v := (y7 + (1 : Int32))) hx hb d_Tre_tellName_127 hl rfl (oi_1 _) (by decide) rfl (fun ls hl => ?_)
      have hl : lv_has ls 8 [(7, .int (y7 + (1 : Int32))), (0, .ref (ad 7)), (2, .int y2), (3, .ref (ad 2)), (4, .int y4), (6, .int y6)] := hl
      refine lv_goto (tgt := 106) hx hb d_Tre_tellName_130 (by decide) ?_
      exact ih _ _ _ _ _ _ _ _ hP hD hS (lv_sub hl [1, 2, 3, 4, 5, 0] rfl) h
set_option maxHeartbeats 4000000 in
set_option maxRecDepth 100000 in
theorem v_Tre_tellName_39_1 {p : Program} {l : Launch} {e : Env} {s : State} {m : MethodId} {args : Array Value} {below : List Frame} {meth : Method} {c : Code} {D : va_G} {ad : Nat → Nat} {ca : Nat → ClassId} {A : Nat → Prop} {FU : Nat} {q : Int32 × St} (X : FX p s m meth c prog_10_method_20_code 8 (some .int) "FlashFiles$Tree" D (tyF ca) A) : ∀ (n : Nat), ∀ (y2 y4 : Int32) (g : St) (H : Heap) (locs : List Loc) (ls : Array Slot), va_P D cls (wF ad ca g) H → va_D A (wF ad ca g) → va_S A s.heap H locs → lv_has ls 8 [(0, .ref (ad 7)), (2, .int y2), (3, .ref (ad 2)), (4, .int y4)] → Tre_tellName_b39 FU 1 n y2 y4 g = some q → W p l e (rmN 4) s m args below meth c H locs 0 0 (MQ below (fxQi D (tyF ca) A (wF ad ca q.2) q.1) args s 0 0 A) (F0 m 39 ls []) := by
  have hx := X.1
  have hb := X.2.1
  intro n
  induction n with
  | zero =>
    intro y2 y4 g H locs ls hP hD hS hl h
    cases h
  | succ n ih =>
    intro y2 y4 g H locs ls hP hD hS hl h
    have h := h
    rw [Tre_tellName_b39.eq_2] at h
    refine lv_iload hx hb d_Tre_tellName_39 (lv_at hl 3 rfl) ?_
    refine lv_bipush (v := 48) hx hb d_Tre_tellName_41 (by decide) ?_
    refine lv_icmp_ge (tgt := 139) hx hb d_Tre_tellName_43 (by decide) (fun hc => ?_) (fun hc => ?_)
    · have h := if_t hc h
      refine lv_aload_n hx hb d_Tre_tellName_139 rfl (lv_at hl 2 rfl) ?_
      obtain ⟨v3, e1, h⟩ := bd_some h
      refine fx_i X (fx_runV (As := []) X (m_Row_length_1 e1 _) hP hD kv_Tre_135 ⟨Nat.le_of_ble_eq_true rfl, Nat.le_of_ble_eq_true rfl⟩ 2 rfl rfl rfl hl.1 rfl (Nat.le_of_ble_eq_true rfl) d_Tre_tellName_140) hD hS (fun H locs hP hD hS => ?_)
      cases h
      exact fx_iret X hP hD hS d_Tre_tellName_143
    · have h := if_f hc h
      refine lv_aload_n hx hb d_Tre_tellName_46 rfl (lv_at hl 0 rfl) ?_
      refine gF_tre_inode X hP d_Tre_tellName_47 ?_
      refine lv_bipush (v := 6) hx hb d_Tre_tellName_50 (by decide) ?_
      refine lv_iload hx hb d_Tre_tellName_52 (lv_at hl 3 rfl) ?_
      refine lv_iadd hx hb d_Tre_tellName_54 ?_
      obtain ⟨v4, e1, h⟩ := bd_some h
      refine rF_17 X hP e1 d_Tre_tellName_55 ?_
      refine lv_sipush (v := 4095) hx hb d_Tre_tellName_56 (by decide) ?_
      refine lv_iand hx hb d_Tre_tellName_59 ?_
      refine lv_istore hx hb d_Tre_tellName_60 hl (by decide) rfl (fun ls hl => ?_)
      have hl : lv_has ls 8 [(5, .int (v4 &&& (4095 : Int32))), (0, .ref (ad 7)), (2, .int y2), (3, .ref (ad 2)), (4, .int y4)] := hl
      refine lv_iload hx hb d_Tre_tellName_62 (lv_at hl 0 rfl) ?_
      refine lv_if_eq (tgt := 133) hx hb d_Tre_tellName_64 (by decide) (fun hc => ?_) (fun hc => ?_)
      · have h := if_t hc h
        exact v_Tre_tellName_133_1 X ih hP hD hS (lv_sub hl [1, 2, 3, 4] rfl) h
      · have h := if_f hc h
        refine lv_aload_n hx hb d_Tre_tellName_67 rfl (lv_at hl 1 rfl) ?_
        refine lv_iload hx hb d_Tre_tellName_68 (lv_at hl 0 rfl) ?_
        obtain ⟨v5, e1, h⟩ := bd_some h
        refine fx_i X (fx_runV (As := [.int (v4 &&& (4095 : Int32))]) X (m_Tre_namesBefore e1 _) hP hD kv_Tre_120 ⟨Nat.le_of_ble_eq_true rfl, Nat.le_of_ble_eq_true rfl⟩ 7 rfl rfl rfl hl.1 rfl (Nat.le_of_ble_eq_true rfl) d_Tre_tellName_70) hD hS (fun H locs hP hD hS => ?_)
        refine lv_iload_n hx hb d_Tre_tellName_73 rfl (lv_at hl 2 rfl) ?_
        refine lv_icmp_ne (tgt := 133) hx hb d_Tre_tellName_74 (by decide) (fun hc => ?_) (fun hc => ?_)
        · have h := if_f hc h
          exact v_Tre_tellName_133_1 X ih hP hD hS (lv_sub hl [1, 2, 3, 4] rfl) h
        · have h := if_t hc h
          refine lv_aload_n hx hb d_Tre_tellName_77 rfl (lv_at hl 1 rfl) ?_
          refine gF_tre_device X hP d_Tre_tellName_78 ?_
          refine lv_iload hx hb d_Tre_tellName_81 (lv_at hl 0 rfl) ?_
          refine lv_aload_n hx hb d_Tre_tellName_83 rfl (lv_at hl 1 rfl) ?_
          refine gF_tre_entry X hP d_Tre_tellName_84 ?_
          obtain ⟨p6, e1, h⟩ := bd_some h
          refine fx_v X (fx_runV (As := [.int (v4 &&& (4095 : Int32)), .ref (ad 29)]) X (m_Dev_load_18 e1 _) hP hD kv_Tre_84 ⟨Nat.le_of_ble_eq_true rfl, Nat.le_of_ble_eq_true rfl⟩ 3 rfl rfl rfl hl.1 rfl (Nat.le_of_ble_eq_true rfl) d_Tre_tellName_87) hD hS (fun H locs hP hD hS => ?_)
          refine lv_aload_n hx hb d_Tre_tellName_90 rfl (lv_at hl 1 rfl) ?_
          refine gF_tre_entry X hP d_Tre_tellName_91 ?_
          refine lv_iconst (v := 1) hx hb d_Tre_tellName_94 (by decide) ?_
          obtain ⟨v7, e1, h⟩ := bd_some h
          refine rF_18 X hP e1 d_Tre_tellName_95 ?_
          refine lv_bipush (v := 20) hx hb d_Tre_tellName_96 (by decide) ?_
          refine va_mmin hx hb (X.2.2.1.trans hl.1.symm) X.2.2.2.2.2.1 (X.2.2.2.2.2.2.1.use q6_175) (X.2.2.2.2.2.2.1.use q2_193) (X.2.2.2.2.2.2.1.use q1_16) (X.2.2.2.2.2.2.1.use math_min) (Nat.le_of_ble_eq_true rfl) (Nat.le_of_ble_eq_true rfl) (Nat.zero_le _) (Nat.zero_le _) d_Tre_tellName_98 ?_
          refine lv_istore hx hb d_Tre_tellName_101 hl (by decide) rfl (fun ls hl => ?_)
          have hl : lv_has ls 8 [(6, .int (if (20 : Int32) < v7 then (20 : Int32) else v7)), (5, .int (v4 &&& (4095 : Int32))), (0, .ref (ad 7)), (2, .int y2), (3, .ref (ad 2)), (4, .int y4)] := hl
          refine lv_iconst (v := 0) hx hb d_Tre_tellName_103 (by decide) ?_
          refine lv_istore hx hb d_Tre_tellName_104 hl (by decide) rfl (fun ls hl => ?_)
          have hl : lv_has ls 8 [(7, .int (0 : Int32)), (6, .int (if (20 : Int32) < v7 then (20 : Int32) else v7)), (5, .int (v4 &&& (4095 : Int32))), (0, .ref (ad 7)), (2, .int y2), (3, .ref (ad 2)), (4, .int y4)] := hl
          exact v_Tre_tellName_106_1 X ih _ _ _ _ _ _ _ _ _ hP hD hS (lv_sub hl [3, 4, 5, 6, 1, 0] rfl) h
set_option maxHeartbeats 4000000 in
set_option maxRecDepth 100000 in
theorem m_Tre_tellName_1 {l : Launch} {D : va_G} {ad : Nat → Nat} {ca : Nat → ClassId} {FU : Nat} {x1 : Int32} {x2 : Int32} {g : St} {q : Int32 × St} (h : Tre_tellName FU 1 x1 x2 g = some q) : CI l ⟨"FlashFiles$Tree", "tellName", "(IILFlashFiles$Row;)I"⟩ prog_10_method_20_code 8 4 (some .int) D (tyF ca) (wF ad ca g) [.ref (ad 7), .int x1, .int x2, .ref (ad 2)] q.1 (wF ad ca q.2) := by
  intro sz
  refine Met.fx (Qc := fun A => fxQi D (tyF ca) A (wF ad ca q.2) q.1) (by decide) (Nat.le_of_ble_eq_true rfl) ?_
  intro p e s m below meth c A ls X hP hD hl
  have hl : lv_has ls 8 [(0, .ref (ad 7)), (1, .int x1), (2, .int x2), (3, .ref (ad 2))] := hl
  have hS : va_S A s.heap s.heap [] := va_S.rf
  have hx := X.1
  have hb := X.2.1
  unfold Tre_tellName at h
  refine lv_aload_n hx hb d_Tre_tellName_0 rfl (lv_at hl 3 rfl) ?_
  refine lv_iconst (v := 0) hx hb d_Tre_tellName_1 (by decide) ?_
  obtain ⟨p8, e1, h⟩ := bd_some h
  refine fx_v X (fx_runV (As := [.int (0 : Int32)]) X (m_Row_setLength_1 e1 _) hP hD kv_Tre_115 ⟨Nat.le_of_ble_eq_true rfl, Nat.le_of_ble_eq_true rfl⟩ 2 rfl rfl rfl hl.1 rfl (Nat.le_of_ble_eq_true rfl) d_Tre_tellName_2) hD hS (fun H locs hP hD hS => ?_)
  refine lv_iload_n hx hb d_Tre_tellName_5 rfl (lv_at hl 2 rfl) ?_
  refine lv_aload_n hx hb d_Tre_tellName_6 rfl (lv_at hl 0 rfl) ?_
  refine lv_iload_n hx hb d_Tre_tellName_7 rfl (lv_at hl 1 rfl) ?_
  refine lv_iconst (v := 1) hx hb d_Tre_tellName_8 (by decide) ?_
  obtain ⟨v9, e1, h⟩ := bd_some h
  refine fx_i X (fx_runV (As := [.int x1, .int (1 : Int32)]) X (m_Tre_wordOf e1 _) hP hD kv_Tre_42 ⟨Nat.le_of_ble_eq_true rfl, Nat.le_of_ble_eq_true rfl⟩ 7 rfl rfl rfl hl.1 rfl (Nat.le_of_ble_eq_true rfl) d_Tre_tellName_9) hD hS (fun H locs hP hD hS => ?_)
  refine lv_icmp_lt (tgt := 17) hx hb d_Tre_tellName_12 (by decide) (fun hc => ?_) (fun hc => ?_)
  · have h := if_t hc h
    refine lv_aload_n hx hb d_Tre_tellName_17 rfl (lv_at hl 0 rfl) ?_
    refine gF_tre_device X hP d_Tre_tellName_18 ?_
    refine lv_aload_n hx hb d_Tre_tellName_21 rfl (lv_at hl 0 rfl) ?_
    refine gF_tre_table X hP d_Tre_tellName_22 ?_
    refine lv_iload_n hx hb d_Tre_tellName_25 rfl (lv_at hl 1 rfl) ?_
    obtain ⟨v10, e1, h⟩ := bd_some h
    refine fx_i X (fx_runV (As := [.int x1]) X (m_Tab_placeOf e1 _) hP hD kv_Tre_30 ⟨Nat.le_of_ble_eq_true rfl, Nat.le_of_ble_eq_true rfl⟩ 4 rfl rfl rfl hl.1 rfl (Nat.le_of_ble_eq_true rfl) d_Tre_tellName_26) hD hS (fun H locs hP hD hS => ?_)
    refine lv_aload_n hx hb d_Tre_tellName_29 rfl (lv_at hl 0 rfl) ?_
    refine gF_tre_inode X hP d_Tre_tellName_30 ?_
    obtain ⟨p11, e1, h⟩ := bd_some h
    refine fx_v X (fx_runV (As := [.int v10, .ref (ad 28)]) X (m_Dev_load_17 e1 _) hP hD kv_Tre_84 ⟨Nat.le_of_ble_eq_true rfl, Nat.le_of_ble_eq_true rfl⟩ 3 rfl rfl rfl hl.1 rfl (Nat.le_of_ble_eq_true rfl) d_Tre_tellName_33) hD hS (fun H locs hP hD hS => ?_)
    refine lv_iconst (v := 0) hx hb d_Tre_tellName_36 (by decide) ?_
    refine lv_istore hx hb d_Tre_tellName_37 hl (by decide) rfl (fun ls hl => ?_)
    have hl : lv_has ls 8 [(4, .int (0 : Int32)), (0, .ref (ad 7)), (1, .int x1), (2, .int x2), (3, .ref (ad 2))] := hl
    exact v_Tre_tellName_39_1 X  _ _ _ _ _ _ _ hP hD hS (lv_sub hl [1, 3, 4, 0] rfl) h
  · have h := if_f hc h
    refine lv_iconst (v := -1) hx hb d_Tre_tellName_15 (by decide) ?_
    cases h
    exact fx_iret X hP hD hS d_Tre_tellName_16
