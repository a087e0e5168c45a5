theorem d_Chk_used_0 : decode prog_2_method_2_code 0 = .ok (.aload_n 0, 1) := by decide +kernel
theorem d_Chk_used_1 : decode prog_2_method_2_code 1 = .ok (.getfield 38, 3) := by decide +kernel
theorem d_Chk_used_4 : decode prog_2_method_2_code 4 = .ok (.ireturn, 1) := by decide +kernel
set_option maxHeartbeats 4000000 in
set_option maxRecDepth 100000 in
theorem m_Chk_used {l : Launch} {D : va_G} {ad : Nat → Nat} {ca : Nat → ClassId} {FU : Nat} {g : St} {q : Int32} (h : Chk_used FU  g = some q) : CI l ⟨"FlashFiles$Checkpoints", "used", "()I"⟩ prog_2_method_2_code 1 1 (some .int) D (tyF ca) (wF ad ca g) [.ref (ad 9)] q (wF ad ca g) := by
  intro sz
  refine Met.fx (Qc := fun A => fxQi D (tyF ca) A (wF ad ca g) q) (by decide) (Nat.le_of_ble_eq_true rfl) ?_
  intro p e s m below meth c A ls X hP hD hl
  have hl : lv_has ls 1 [(0, .ref (ad 9))] := hl
  have hS : va_S A s.heap s.heap [] := va_S.rf
  have hx := X.1
  have hb := X.2.1
  unfold Chk_used at h
  refine lv_aload_n hx hb d_Chk_used_0 rfl (lv_at hl 0 rfl) ?_
  refine gF_chk_used X hP d_Chk_used_1 ?_
  cases h
  exact fx_iret X hP hD hS d_Chk_used_4
theorem d_Chk_fresh_0 : decode prog_2_method_3_code 0 = .ok (.aload_n 0, 1) := by decide +kernel
theorem d_Chk_fresh_1 : decode prog_2_method_3_code 1 = .ok (.getfield 42, 3) := by decide +kernel
theorem d_Chk_fresh_4 : decode prog_2_method_3_code 4 = .ok (.ireturn, 1) := by decide +kernel
set_option maxHeartbeats 4000000 in
set_option maxRecDepth 100000 in
theorem m_Chk_fresh {l : Launch} {D : va_G} {ad : Nat → Nat} {ca : Nat → ClassId} {FU : Nat} {g : St} {q : Int32} (h : Chk_fresh FU  g = some q) : CI l ⟨"FlashFiles$Checkpoints", "fresh", "()I"⟩ prog_2_method_3_code 1 1 (some .int) D (tyF ca) (wF ad ca g) [.ref (ad 9)] q (wF ad ca g) := by
  intro sz
  refine Met.fx (Qc := fun A => fxQi D (tyF ca) A (wF ad ca g) q) (by decide) (Nat.le_of_ble_eq_true rfl) ?_
  intro p e s m below meth c A ls X hP hD hl
  have hl : lv_has ls 1 [(0, .ref (ad 9))] := hl
  have hS : va_S A s.heap s.heap [] := va_S.rf
  have hx := X.1
  have hb := X.2.1
  unfold Chk_fresh at h
  refine lv_aload_n hx hb d_Chk_fresh_0 rfl (lv_at hl 0 rfl) ?_
  refine gF_chk_fresh X hP d_Chk_fresh_1 ?_
  cases h
  exact fx_iret X hP hD hS d_Chk_fresh_4
theorem d_Chk_taken_0 : decode prog_2_method_4_code 0 = .ok (.aload_n 0, 1) := by decide +kernel
theorem d_Chk_taken_1 : decode prog_2_method_4_code 1 = .ok (.getfield 45, 3) := by decide +kernel
theorem d_Chk_taken_4 : decode prog_2_method_4_code 4 = .ok (.ireturn, 1) := by decide +kernel
set_option maxHeartbeats 4000000 in
set_option maxRecDepth 100000 in
theorem m_Chk_taken {l : Launch} {D : va_G} {ad : Nat → Nat} {ca : Nat → ClassId} {FU : Nat} {g : St} {q : Int32} (h : Chk_taken FU  g = some q) : CI l ⟨"FlashFiles$Checkpoints", "taken", "()I"⟩ prog_2_method_4_code 1 1 (some .int) D (tyF ca) (wF ad ca g) [.ref (ad 9)] q (wF ad ca g) := by
  intro sz
  refine Met.fx (Qc := fun A => fxQi D (tyF ca) A (wF ad ca g) q) (by decide) (Nat.le_of_ble_eq_true rfl) ?_
  intro p e s m below meth c A ls X hP hD hl
  have hl : lv_has ls 1 [(0, .ref (ad 9))] := hl
  have hS : va_S A s.heap s.heap [] := va_S.rf
  have hx := X.1
  have hb := X.2.1
  unfold Chk_taken at h
  refine lv_aload_n hx hb d_Chk_taken_0 rfl (lv_at hl 0 rfl) ?_
  refine gF_chk_taken X hP d_Chk_taken_1 ?_
  cases h
  exact fx_iret X hP hD hS d_Chk_taken_4
theorem d_Chk_fits_0 : decode prog_2_method_5_code 0 = .ok (.aload_n 0, 1) := by decide +kernel
theorem d_Chk_fits_1 : decode prog_2_method_5_code 1 = .ok (.getfield 38, 3) := by decide +kernel
theorem d_Chk_fits_4 : decode prog_2_method_5_code 4 = .ok (.aload_n 0, 1) := by decide +kernel
theorem d_Chk_fits_5 : decode prog_2_method_5_code 5 = .ok (.getfield 42, 3) := by decide +kernel
theorem d_Chk_fits_8 : decode prog_2_method_5_code 8 = .ok (.iadd, 1) := by decide +kernel
theorem d_Chk_fits_9 : decode prog_2_method_5_code 9 = .ok (.iload_n 1, 1) := by decide +kernel
theorem d_Chk_fits_10 : decode prog_2_method_5_code 10 = .ok (.iadd, 1) := by decide +kernel
theorem d_Chk_fits_11 : decode prog_2_method_5_code 11 = .ok (.aload_n 0, 1) := by decide +kernel
theorem d_Chk_fits_12 : decode prog_2_method_5_code 12 = .ok (.getfield 48, 3) := by decide +kernel
theorem d_Chk_fits_15 : decode prog_2_method_5_code 15 = .ok (.if_icmp .gt 7, 3) := by decide +kernel
theorem d_Chk_fits_18 : decode prog_2_method_5_code 18 = .ok (.iconst 1, 1) := by decide +kernel
theorem d_Chk_fits_19 : decode prog_2_method_5_code 19 = .ok (.goto 4, 3) := by decide +kernel
theorem d_Chk_fits_22 : decode prog_2_method_5_code 22 = .ok (.iconst 0, 1) := by decide +kernel
theorem d_Chk_fits_23 : decode prog_2_method_5_code 23 = .ok (.ireturn, 1) := by decide +kernel
set_option maxHeartbeats 4000000 in
set_option maxRecDepth 100000 in
theorem m_Chk_fits {l : Launch} {D : va_G} {ad : Nat → Nat} {ca : Nat → ClassId} {FU : Nat} {x1 : Int32} {g : St} {q : Int32} (h : Chk_fits FU x1 g = some q) : CI l ⟨"FlashFiles$Checkpoints", "fits", "(I)Z"⟩ prog_2_method_5_code 2 1 (some .boolean) D (tyF ca) (wF ad ca g) [.ref (ad 9), .int x1] q (wF ad ca g) := by
  intro sz
  refine Met.fx (Qc := fun A => fxQi D (tyF ca) A (wF ad ca g) q) (by decide) (Nat.le_of_ble_eq_true rfl) ?_
  intro p e s m below meth c A ls X hP hD hl
  have hl : lv_has ls 2 [(0, .ref (ad 9)), (1, .int x1)] := hl
  have hS : va_S A s.heap s.heap [] := va_S.rf
  have hx := X.1
  have hb := X.2.1
  unfold Chk_fits at h
  refine lv_aload_n hx hb d_Chk_fits_0 rfl (lv_at hl 0 rfl) ?_
  refine gF_chk_used X hP d_Chk_fits_1 ?_
  refine lv_aload_n hx hb d_Chk_fits_4 rfl (lv_at hl 0 rfl) ?_
  refine gF_chk_fresh X hP d_Chk_fits_5 ?_
  refine lv_iadd hx hb d_Chk_fits_8 ?_
  refine lv_iload_n hx hb d_Chk_fits_9 rfl (lv_at hl 1 rfl) ?_
  refine lv_iadd hx hb d_Chk_fits_10 ?_
  refine lv_aload_n hx hb d_Chk_fits_11 rfl (lv_at hl 0 rfl) ?_
  refine gF_chk_room X hP d_Chk_fits_12 ?_
  refine lv_icmp_gt (tgt := 22) hx hb d_Chk_fits_15 (by decide) (fun hc => ?_) (fun hc => ?_)
  · have h := if_t hc h
    refine lv_iconst (v := 0) hx hb d_Chk_fits_22 (by decide) ?_
    cases h
    exact fx_zret X hP hD hS (Or.inl rfl) d_Chk_fits_23
  · have h := if_f hc h
    refine lv_iconst (v := 1) hx hb d_Chk_fits_18 (by decide) ?_
    refine lv_goto (tgt := 23) hx hb d_Chk_fits_19 (by decide) ?_
    cases h
    exact fx_zret X hP hD hS (Or.inr rfl) d_Chk_fits_23
theorem d_Chk_addFresh_0 : decode prog_2_method_6_code 0 = .ok (.aload_n 0, 1) := by decide +kernel
theorem d_Chk_addFresh_1 : decode prog_2_method_6_code 1 = .ok (.dup, 1) := by decide +kernel
theorem d_Chk_addFresh_2 : decode prog_2_method_6_code 2 = .ok (.getfield 42, 3) := by decide +kernel
theorem d_Chk_addFresh_5 : decode prog_2_method_6_code 5 = .ok (.iload_n 1, 1) := by decide +kernel
theorem d_Chk_addFresh_6 : decode prog_2_method_6_code 6 = .ok (.iadd, 1) := by decide +kernel
theorem d_Chk_addFresh_7 : decode prog_2_method_6_code 7 = .ok (.putfield 42, 3) := by decide +kernel
theorem d_Chk_addFresh_10 : decode prog_2_method_6_code 10 = .ok (.return_, 1) := by decide +kernel
set_option maxHeartbeats 4000000 in
set_option maxRecDepth 100000 in
theorem m_Chk_addFresh {l : Launch} {D : va_G} {ad : Nat → Nat} {ca : Nat → ClassId} {FU : Nat} {x1 : Int32} {g : St} {q : St} (h : Chk_addFresh FU x1 g = some q) : CV l ⟨"FlashFiles$Checkpoints", "addFresh", "(I)V"⟩ prog_2_method_6_code 2 1 D (tyF ca) (wF ad ca g) [.ref (ad 9), .int x1] (wF ad ca q) := by
  intro sz
  refine Met.fx (Qc := fun A => fxQv D (tyF ca) A (wF ad ca q)) (by decide) (Nat.le_of_ble_eq_true rfl) ?_
  intro p e s m below meth c A ls X hP hD hl
  have hl : lv_has ls 2 [(0, .ref (ad 9)), (1, .int x1)] := hl
  have hS : va_S A s.heap s.heap [] := va_S.rf
  have hx := X.1
  have hb := X.2.1
  unfold Chk_addFresh at h
  refine lv_aload_n hx hb d_Chk_addFresh_0 rfl (lv_at hl 0 rfl) ?_
  refine lv_dup hx hb d_Chk_addFresh_1 rfl ?_
  refine gF_chk_fresh X hP d_Chk_addFresh_2 ?_
  refine lv_iload_n hx hb d_Chk_addFresh_5 rfl (lv_at hl 1 rfl) ?_
  refine lv_iadd hx hb d_Chk_addFresh_6 ?_
  obtain ⟨g1, e1, h⟩ := nx_some h
  refine uF_chk_fresh X hP hD hS e1 d_Chk_addFresh_7 (fun H locs hP hD hS => ?_)
  cases h
  exact fx_vret X hP hD hS d_Chk_addFresh_10
theorem d_Chk_forget_0 : decode prog_2_method_7_code 0 = .ok (.aload_n 0, 1) := by decide +kernel
theorem d_Chk_forget_1 : decode prog_2_method_7_code 1 = .ok (.iconst 0, 1) := by decide +kernel
theorem d_Chk_forget_2 : decode prog_2_method_7_code 2 = .ok (.putfield 48, 3) := by decide +kernel
theorem d_Chk_forget_5 : decode prog_2_method_7_code 5 = .ok (.aload_n 0, 1) := by decide +kernel
theorem d_Chk_forget_6 : decode prog_2_method_7_code 6 = .ok (.iconst 0, 1) := by decide +kernel
theorem d_Chk_forget_7 : decode prog_2_method_7_code 7 = .ok (.putfield 38, 3) := by decide +kernel
theorem d_Chk_forget_10 : decode prog_2_method_7_code 10 = .ok (.aload_n 0, 1) := by decide +kernel
theorem d_Chk_forget_11 : decode prog_2_method_7_code 11 = .ok (.iconst 0, 1) := by decide +kernel
theorem d_Chk_forget_12 : decode prog_2_method_7_code 12 = .ok (.putfield 42, 3) := by decide +kernel
theorem d_Chk_forget_15 : decode prog_2_method_7_code 15 = .ok (.aload_n 0, 1) := by decide +kernel
theorem d_Chk_forget_16 : decode prog_2_method_7_code 16 = .ok (.iconst 0, 1) := by decide +kernel
theorem d_Chk_forget_17 : decode prog_2_method_7_code 17 = .ok (.putfield 45, 3) := by decide +kernel
theorem d_Chk_forget_20 : decode prog_2_method_7_code 20 = .ok (.return_, 1) := by decide +kernel
set_option maxHeartbeats 4000000 in
set_option maxRecDepth 100000 in
theorem m_Chk_forget {l : Launch} {D : va_G} {ad : Nat → Nat} {ca : Nat → ClassId} {FU : Nat} {g : St} {q : St} (h : Chk_forget FU  g = some q) : CV l ⟨"FlashFiles$Checkpoints", "forget", "()V"⟩ prog_2_method_7_code 1 1 D (tyF ca) (wF ad ca g) [.ref (ad 9)] (wF ad ca q) := by
  intro sz
  refine Met.fx (Qc := fun A => fxQv D (tyF ca) A (wF ad ca q)) (by decide) (Nat.le_of_ble_eq_true rfl) ?_
  intro p e s m below meth c A ls X hP hD hl
  have hl : lv_has ls 1 [(0, .ref (ad 9))] := hl
  have hS : va_S A s.heap s.heap [] := va_S.rf
  have hx := X.1
  have hb := X.2.1
  unfold Chk_forget at h
  refine lv_aload_n hx hb d_Chk_forget_0 rfl (lv_at hl 0 rfl) ?_
  refine lv_iconst (v := 0) hx hb d_Chk_forget_1 (by decide) ?_
  obtain ⟨g1, e1, h⟩ := nx_some h
  refine uF_chk_room X hP hD hS e1 d_Chk_forget_2 (fun H locs hP hD hS => ?_)
  refine lv_aload_n hx hb d_Chk_forget_5 rfl (lv_at hl 0 rfl) ?_
  refine lv_iconst (v := 0) hx hb d_Chk_forget_6 (by decide) ?_
  obtain ⟨g2, e1, h⟩ := nx_some h
  refine uF_chk_used X hP hD hS e1 d_Chk_forget_7 (fun H locs hP hD hS => ?_)
  refine lv_aload_n hx hb d_Chk_forget_10 rfl (lv_at hl 0 rfl) ?_
  refine lv_iconst (v := 0) hx hb d_Chk_forget_11 (by decide) ?_
  obtain ⟨g3, e1, h⟩ := nx_some h
  refine uF_chk_fresh X hP hD hS e1 d_Chk_forget_12 (fun H locs hP hD hS => ?_)
  refine lv_aload_n hx hb d_Chk_forget_15 rfl (lv_at hl 0 rfl) ?_
  refine lv_iconst (v := 0) hx hb d_Chk_forget_16 (by decide) ?_
  obtain ⟨g4, e1, h⟩ := nx_some h
  refine uF_chk_taken X hP hD hS e1 d_Chk_forget_17 (fun H locs hP hD hS => ?_)
  cases h
  exact fx_vret X hP hD hS d_Chk_forget_20
theorem d_Chk_readSuper_0 : decode prog_2_method_9_code 0 = .ok (.aload_n 0, 1) := by decide +kernel
theorem d_Chk_readSuper_1 : decode prog_2_method_9_code 1 = .ok (.getfield 9, 3) := by decide +kernel
theorem d_Chk_readSuper_4 : decode prog_2_method_9_code 4 = .ok (.iconst 0, 1) := by decide +kernel
theorem d_Chk_readSuper_5 : decode prog_2_method_9_code 5 = .ok (.iconst 0, 1) := by decide +kernel
theorem d_Chk_readSuper_6 : decode prog_2_method_9_code 6 = .ok (.invokevirtual 84, 3) := by decide +kernel
theorem d_Chk_readSuper_9 : decode prog_2_method_9_code 9 = .ok (.istore_n 1, 1) := by decide +kernel
theorem d_Chk_readSuper_10 : decode prog_2_method_9_code 10 = .ok (.aload_n 0, 1) := by decide +kernel
theorem d_Chk_readSuper_11 : decode prog_2_method_9_code 11 = .ok (.getfield 19, 3) := by decide +kernel
theorem d_Chk_readSuper_14 : decode prog_2_method_9_code 14 = .ok (.iload_n 1, 1) := by decide +kernel
theorem d_Chk_readSuper_15 : decode prog_2_method_9_code 15 = .ok (.invokevirtual 88, 3) := by decide +kernel
theorem d_Chk_readSuper_18 : decode prog_2_method_9_code 18 = .ok (.aload_n 0, 1) := by decide +kernel
theorem d_Chk_readSuper_19 : decode prog_2_method_9_code 19 = .ok (.bipush 16, 2) := by decide +kernel
theorem d_Chk_readSuper_21 : decode prog_2_method_9_code 21 = .ok (.iload_n 1, 1) := by decide +kernel
theorem d_Chk_readSuper_22 : decode prog_2_method_9_code 22 = .ok (.aload_n 0, 1) := by decide +kernel
theorem d_Chk_readSuper_23 : decode prog_2_method_9_code 23 = .ok (.getfield 9, 3) := by decide +kernel
theorem d_Chk_readSuper_26 : decode prog_2_method_9_code 26 = .ok (.iconst 0, 1) := by decide +kernel
theorem d_Chk_readSuper_27 : decode prog_2_method_9_code 27 = .ok (.iconst 1, 1) := by decide +kernel
theorem d_Chk_readSuper_28 : decode prog_2_method_9_code 28 = .ok (.invokevirtual 84, 3) := by decide +kernel
theorem d_Chk_readSuper_31 : decode prog_2_method_9_code 31 = .ok (.isub, 1) := by decide +kernel
theorem d_Chk_readSuper_32 : decode prog_2_method_9_code 32 = .ok (.imul, 1) := by decide +kernel
theorem d_Chk_readSuper_33 : decode prog_2_method_9_code 33 = .ok (.putfield 48, 3) := by decide +kernel
theorem d_Chk_readSuper_36 : decode prog_2_method_9_code 36 = .ok (.return_, 1) := by decide +kernel
set_option maxHeartbeats 4000000 in
set_option maxRecDepth 100000 in
theorem m_Chk_readSuper {l : Launch} {D : va_G} {ad : Nat → Nat} {ca : Nat → ClassId} {FU : Nat} {g : St} {q : St} (h : Chk_readSuper FU  g = some q) : CV l ⟨"FlashFiles$Checkpoints", "readSuper", "()V"⟩ prog_2_method_9_code 2 2 D (tyF ca) (wF ad ca g) [.ref (ad 9)] (wF ad ca q) := by
  intro sz
  refine Met.fx (Qc := fun A => fxQv D (tyF ca) A (wF ad ca q)) (by decide) (Nat.le_of_ble_eq_true rfl) ?_
  intro p e s m below meth c A ls X hP hD hl
  have hl : lv_has ls 2 [(0, .ref (ad 9))] := hl
  have hS : va_S A s.heap s.heap [] := va_S.rf
  have hx := X.1
  have hb := X.2.1
  unfold Chk_readSuper at h
  refine lv_aload_n hx hb d_Chk_readSuper_0 rfl (lv_at hl 0 rfl) ?_
  refine gF_chk_device X hP d_Chk_readSuper_1 ?_
  refine lv_iconst (v := 0) hx hb d_Chk_readSuper_4 (by decide) ?_
  refine lv_iconst (v := 0) hx hb d_Chk_readSuper_5 (by decide) ?_
  obtain ⟨v1, e1, h⟩ := bd_some h
  refine fx_i X (fx_runV (As := [.int (0 : Int32), .int (0 : Int32)]) X (m_Dev_word e1 _) hP hD kv_Chk_84 ⟨Nat.le_of_ble_eq_true rfl, Nat.le_of_ble_eq_true rfl⟩ 3 rfl rfl rfl hl.1 rfl (Nat.le_of_ble_eq_true rfl) d_Chk_readSuper_6) hD hS (fun H locs hP hD hS => ?_)
  refine lv_istore_n hx hb d_Chk_readSuper_9 rfl hl (by decide) rfl (fun ls hl => ?_)
  have hl : lv_has ls 2 [(1, .int v1), (0, .ref (ad 9))] := hl
  refine lv_aload_n hx hb d_Chk_readSuper_10 rfl (lv_at hl 1 rfl) ?_
  refine gF_chk_log X hP d_Chk_readSuper_11 ?_
  refine lv_iload_n hx hb d_Chk_readSuper_14 rfl (lv_at hl 0 rfl) ?_
  obtain ⟨p2, e1, h⟩ := bd_some h
  refine fx_v X (fx_runV (As := [.int v1]) X (m_Log_setSegments e1 _) hP hD kv_Chk_88 ⟨Nat.le_of_ble_eq_true rfl, Nat.le_of_ble_eq_true rfl⟩ 5 rfl rfl rfl hl.1 rfl (Nat.le_of_ble_eq_true rfl) d_Chk_readSuper_15) hD hS (fun H locs hP hD hS => ?_)
  refine lv_aload_n hx hb d_Chk_readSuper_18 rfl (lv_at hl 1 rfl) ?_
  refine lv_bipush (v := 16) hx hb d_Chk_readSuper_19 (by decide) ?_
  refine lv_iload_n hx hb d_Chk_readSuper_21 rfl (lv_at hl 0 rfl) ?_
  refine lv_aload_n hx hb d_Chk_readSuper_22 rfl (lv_at hl 1 rfl) ?_
  refine gF_chk_device X hP d_Chk_readSuper_23 ?_
  refine lv_iconst (v := 0) hx hb d_Chk_readSuper_26 (by decide) ?_
  refine lv_iconst (v := 1) hx hb d_Chk_readSuper_27 (by decide) ?_
  obtain ⟨v3, e1, h⟩ := bd_some h
  refine fx_i X (fx_runV (As := [.int (0 : Int32), .int (1 : Int32)]) X (m_Dev_word e1 _) hP hD kv_Chk_84 ⟨Nat.le_of_ble_eq_true rfl, Nat.le_of_ble_eq_true rfl⟩ 3 rfl rfl rfl hl.1 rfl (Nat.le_of_ble_eq_true rfl) d_Chk_readSuper_28) hD hS (fun H locs hP hD hS => ?_)
  refine lv_isub hx hb d_Chk_readSuper_31 ?_
  refine lv_imul hx hb d_Chk_readSuper_32 ?_
  obtain ⟨g4, e1, h⟩ := nx_some h
  refine uF_chk_room X hP hD hS e1 d_Chk_readSuper_33 (fun H locs hP hD hS => ?_)
  cases h
  exact fx_vret X hP hD hS d_Chk_readSuper_36
theorem d_Chk_startAnew_0 : decode prog_2_method_8_code 0 = .ok (.aload_n 0, 1) := by decide +kernel
theorem d_Chk_startAnew_1 : decode prog_2_method_8_code 1 = .ok (.getfield 9, 3) := by decide +kernel
theorem d_Chk_startAnew_4 : decode prog_2_method_8_code 4 = .ok (.invokevirtual 51, 3) := by decide +kernel
theorem d_Chk_startAnew_7 : decode prog_2_method_8_code 7 = .ok (.aload_n 0, 1) := by decide +kernel
theorem d_Chk_startAnew_8 : decode prog_2_method_8_code 8 = .ok (.getfield 31, 3) := by decide +kernel
theorem d_Chk_startAnew_11 : decode prog_2_method_8_code 11 = .ok (.iconst 0, 1) := by decide +kernel
theorem d_Chk_startAnew_12 : decode prog_2_method_8_code 12 = .ok (.invokestatic 56, 3) := by decide +kernel
theorem d_Chk_startAnew_15 : decode prog_2_method_8_code 15 = .ok (.aload_n 0, 1) := by decide +kernel
theorem d_Chk_startAnew_16 : decode prog_2_method_8_code 16 = .ok (.getfield 31, 3) := by decide +kernel
theorem d_Chk_startAnew_19 : decode prog_2_method_8_code 19 = .ok (.iconst 0, 1) := by decide +kernel
theorem d_Chk_startAnew_20 : decode prog_2_method_8_code 20 = .ok (.iload_n 1, 1) := by decide +kernel
theorem d_Chk_startAnew_21 : decode prog_2_method_8_code 21 = .ok (.iastore, 1) := by decide +kernel
theorem d_Chk_startAnew_22 : decode prog_2_method_8_code 22 = .ok (.aload_n 0, 1) := by decide +kernel
theorem d_Chk_startAnew_23 : decode prog_2_method_8_code 23 = .ok (.getfield 31, 3) := by decide +kernel
theorem d_Chk_startAnew_26 : decode prog_2_method_8_code 26 = .ok (.iconst 1, 1) := by decide +kernel
theorem d_Chk_startAnew_27 : decode prog_2_method_8_code 27 = .ok (.iload_n 2, 1) := by decide +kernel
theorem d_Chk_startAnew_28 : decode prog_2_method_8_code 28 = .ok (.iastore, 1) := by decide +kernel
theorem d_Chk_startAnew_29 : decode prog_2_method_8_code 29 = .ok (.aload_n 0, 1) := by decide +kernel
theorem d_Chk_startAnew_30 : decode prog_2_method_8_code 30 = .ok (.getfield 9, 3) := by decide +kernel
theorem d_Chk_startAnew_33 : decode prog_2_method_8_code 33 = .ok (.iconst 0, 1) := by decide +kernel
theorem d_Chk_startAnew_34 : decode prog_2_method_8_code 34 = .ok (.aload_n 0, 1) := by decide +kernel
theorem d_Chk_startAnew_35 : decode prog_2_method_8_code 35 = .ok (.getfield 31, 3) := by decide +kernel
theorem d_Chk_startAnew_38 : decode prog_2_method_8_code 38 = .ok (.iconst 0, 1) := by decide +kernel
theorem d_Chk_startAnew_39 : decode prog_2_method_8_code 39 = .ok (.invokevirtual 62, 3) := by decide +kernel
theorem d_Chk_startAnew_42 : decode prog_2_method_8_code 42 = .ok (.aload_n 0, 1) := by decide +kernel
theorem d_Chk_startAnew_43 : decode prog_2_method_8_code 43 = .ok (.getfield 15, 3) := by decide +kernel
theorem d_Chk_startAnew_46 : decode prog_2_method_8_code 46 = .ok (.invokevirtual 66, 3) := by decide +kernel
theorem d_Chk_startAnew_49 : decode prog_2_method_8_code 49 = .ok (.aload_n 0, 1) := by decide +kernel
theorem d_Chk_startAnew_50 : decode prog_2_method_8_code 50 = .ok (.getfield 19, 3) := by decide +kernel
theorem d_Chk_startAnew_53 : decode prog_2_method_8_code 53 = .ok (.invokevirtual 71, 3) := by decide +kernel
theorem d_Chk_startAnew_56 : decode prog_2_method_8_code 56 = .ok (.aload_n 0, 1) := by decide +kernel
theorem d_Chk_startAnew_57 : decode prog_2_method_8_code 57 = .ok (.invokevirtual 74, 3) := by decide +kernel
theorem d_Chk_startAnew_60 : decode prog_2_method_8_code 60 = .ok (.aload_n 0, 1) := by decide +kernel
theorem d_Chk_startAnew_61 : decode prog_2_method_8_code 61 = .ok (.invokevirtual 75, 3) := by decide +kernel
theorem d_Chk_startAnew_64 : decode prog_2_method_8_code 64 = .ok (.aload_n 0, 1) := by decide +kernel
theorem d_Chk_startAnew_65 : decode prog_2_method_8_code 65 = .ok (.getfield 19, 3) := by decide +kernel
theorem d_Chk_startAnew_68 : decode prog_2_method_8_code 68 = .ok (.invokevirtual 78, 3) := by decide +kernel
theorem d_Chk_startAnew_71 : decode prog_2_method_8_code 71 = .ok (.aload_n 0, 1) := by decide +kernel
theorem d_Chk_startAnew_72 : decode prog_2_method_8_code 72 = .ok (.getfield 19, 3) := by decide +kernel
theorem d_Chk_startAnew_75 : decode prog_2_method_8_code 75 = .ok (.invokevirtual 81, 3) := by decide +kernel
theorem d_Chk_startAnew_78 : decode prog_2_method_8_code 78 = .ok (.return_, 1) := by decide +kernel
set_option maxHeartbeats 4000000 in
set_option maxRecDepth 100000 in
theorem m_Chk_startAnew {l : Launch} {D : va_G} {ad : Nat → Nat} {ca : Nat → ClassId} {FU : Nat} {x1 : Int32} {x2 : Int32} {g : St} {q : St} (h : Chk_startAnew FU x1 x2 g = some q) : CV l ⟨"FlashFiles$Checkpoints", "startAnew", "(II)V"⟩ prog_2_method_8_code 3 7 D (tyF ca) (wF ad ca g) [.ref (ad 9), .int x1, .int x2] (wF ad ca q) := by
  intro sz
  refine Met.fx (Qc := fun A => fxQv D (tyF ca) A (wF ad ca q)) (by decide) (Nat.le_of_ble_eq_true rfl) ?_
  intro p e s m below meth c A ls X hP hD hl
  have hl : lv_has ls 3 [(0, .ref (ad 9)), (1, .int x1), (2, .int x2)] := hl
  have hS : va_S A s.heap s.heap [] := va_S.rf
  have hx := X.1
  have hb := X.2.1
  unfold Chk_startAnew at h
  refine lv_aload_n hx hb d_Chk_startAnew_0 rfl (lv_at hl 0 rfl) ?_
  refine gF_chk_device X hP d_Chk_startAnew_1 ?_
  obtain ⟨p1, e1, h⟩ := bd_some h
  refine fx_v X (fx_runV (As := []) X (m_Dev_restart e1 _) hP hD kv_Chk_51 ⟨Nat.le_of_ble_eq_true rfl, Nat.le_of_ble_eq_true rfl⟩ 3 rfl rfl rfl hl.1 rfl (Nat.le_of_ble_eq_true rfl) d_Chk_startAnew_4) hD hS (fun H locs hP hD hS => ?_)
  refine lv_aload_n hx hb d_Chk_startAnew_7 rfl (lv_at hl 0 rfl) ?_
  refine gF_chk_pack X hP d_Chk_startAnew_8 ?_
  refine lv_iconst (v := 0) hx hb d_Chk_startAnew_11 (by decide) ?_
  obtain ⟨p2, e1, h⟩ := bd_some h
  refine fx_v X (fx_runS X (m_Arr_fill_0_22 e1 _) (As := [.ref (ad 33), .int (0 : Int32)]) hP hD ks_Chk_56 ⟨Nat.le_of_ble_eq_true rfl, Nat.le_of_ble_eq_true rfl⟩ rfl hl.1 rfl (Nat.le_of_ble_eq_true rfl) d_Chk_startAnew_12) hD hS (fun H locs hP hD hS => ?_)
  refine lv_aload_n hx hb d_Chk_startAnew_15 rfl (lv_at hl 0 rfl) ?_
  refine gF_chk_pack X hP d_Chk_startAnew_16 ?_
  refine lv_iconst (v := 0) hx hb d_Chk_startAnew_19 (by decide) ?_
  refine lv_iload_n hx hb d_Chk_startAnew_20 rfl (lv_at hl 1 rfl) ?_
  obtain ⟨g3, e1, h⟩ := bd_some h
  refine sF_22 X hP hD hS e1 d_Chk_startAnew_21 (fun H locs hP hD hS => ?_)
  refine lv_aload_n hx hb d_Chk_startAnew_22 rfl (lv_at hl 0 rfl) ?_
  refine gF_chk_pack X hP d_Chk_startAnew_23 ?_
  refine lv_iconst (v := 1) hx hb d_Chk_startAnew_26 (by decide) ?_
  refine lv_iload_n hx hb d_Chk_startAnew_27 rfl (lv_at hl 2 rfl) ?_
  obtain ⟨g4, e1, h⟩ := bd_some h
  refine sF_22 X hP hD hS e1 d_Chk_startAnew_28 (fun H locs hP hD hS => ?_)
  refine lv_aload_n hx hb d_Chk_startAnew_29 rfl (lv_at hl 0 rfl) ?_
  refine gF_chk_device X hP d_Chk_startAnew_30 ?_
  refine lv_iconst (v := 0) hx hb d_Chk_startAnew_33 (by decide) ?_
  refine lv_aload_n hx hb d_Chk_startAnew_34 rfl (lv_at hl 0 rfl) ?_
  refine gF_chk_pack X hP d_Chk_startAnew_35 ?_
  refine lv_iconst (v := 0) hx hb d_Chk_startAnew_38 (by decide) ?_
  obtain ⟨p5, e1, h⟩ := bd_some h
  refine fx_v X (fx_runV (As := [.int (0 : Int32), .ref (ad 33), .int (0 : Int32)]) X (m_Dev_program_22 e1 _) hP hD kv_Chk_62 ⟨Nat.le_of_ble_eq_true rfl, Nat.le_of_ble_eq_true rfl⟩ 3 rfl rfl rfl hl.1 rfl (Nat.le_of_ble_eq_true rfl) d_Chk_startAnew_39) hD hS (fun H locs hP hD hS => ?_)
  refine lv_aload_n hx hb d_Chk_startAnew_42 rfl (lv_at hl 0 rfl) ?_
  refine gF_chk_table X hP d_Chk_startAnew_43 ?_
  obtain ⟨p6, e1, h⟩ := bd_some h
  refine fx_v X (fx_runV (As := []) X (m_Tab_forget e1 _) hP hD kv_Chk_66 ⟨Nat.le_of_ble_eq_true rfl, Nat.le_of_ble_eq_true rfl⟩ 4 rfl rfl rfl hl.1 rfl (Nat.le_of_ble_eq_true rfl) d_Chk_startAnew_46) hD hS (fun H locs hP hD hS => ?_)
  refine lv_aload_n hx hb d_Chk_startAnew_49 rfl (lv_at hl 0 rfl) ?_
  refine gF_chk_log X hP d_Chk_startAnew_50 ?_
  obtain ⟨p7, e1, h⟩ := bd_some h
  refine fx_v X (fx_runV (As := []) X (m_Log_forget e1 _) hP hD kv_Chk_71 ⟨Nat.le_of_ble_eq_true rfl, Nat.le_of_ble_eq_true rfl⟩ 5 rfl rfl rfl hl.1 rfl (Nat.le_of_ble_eq_true rfl) d_Chk_startAnew_53) hD hS (fun H locs hP hD hS => ?_)
  refine lv_aload_n hx hb d_Chk_startAnew_56 rfl (lv_at hl 0 rfl) ?_
  obtain ⟨p8, e1, h⟩ := bd_some h
  refine fx_v X (fx_runV (As := []) X (m_Chk_forget e1 _) hP hD kv_Chk_74 ⟨Nat.le_of_ble_eq_true rfl, Nat.le_of_ble_eq_true rfl⟩ 9 rfl rfl rfl hl.1 rfl (Nat.le_of_ble_eq_true rfl) d_Chk_startAnew_57) hD hS (fun H locs hP hD hS => ?_)
  refine lv_aload_n hx hb d_Chk_startAnew_60 rfl (lv_at hl 0 rfl) ?_
  obtain ⟨p9, e1, h⟩ := bd_some h
  refine fx_v X (fx_runV (As := []) X (m_Chk_readSuper e1 _) hP hD kv_Chk_75 ⟨Nat.le_of_ble_eq_true rfl, Nat.le_of_ble_eq_true rfl⟩ 9 rfl rfl rfl hl.1 rfl (Nat.le_of_ble_eq_true rfl) d_Chk_startAnew_61) hD hS (fun H locs hP hD hS => ?_)
  refine lv_aload_n hx hb d_Chk_startAnew_64 rfl (lv_at hl 0 rfl) ?_
  refine gF_chk_log X hP d_Chk_startAnew_65 ?_
  obtain ⟨p10, e1, h⟩ := bd_some h
  refine fx_v X (fx_runV (As := []) X (m_Log_freeDead e1 _) hP hD kv_Chk_78 ⟨Nat.le_of_ble_eq_true rfl, Nat.le_of_ble_eq_true rfl⟩ 5 rfl rfl rfl hl.1 rfl (Nat.le_of_ble_eq_true rfl) d_Chk_startAnew_68) hD hS (fun H locs hP hD hS => ?_)
  refine lv_aload_n hx hb d_Chk_startAnew_71 rfl (lv_at hl 0 rfl) ?_
  refine gF_chk_log X hP d_Chk_startAnew_72 ?_
  obtain ⟨p11, e1, h⟩ := bd_some h
  refine fx_v X (fx_runV (As := []) X (m_Log_openEnds e1 _) hP hD kv_Chk_81 ⟨Nat.le_of_ble_eq_true rfl, Nat.le_of_ble_eq_true rfl⟩ 5 rfl rfl rfl hl.1 rfl (Nat.le_of_ble_eq_true rfl) d_Chk_startAnew_75) hD hS (fun H locs hP hD hS => ?_)
  cases h
  exact fx_vret X hP hD hS d_Chk_startAnew_78
theorem d_Chk_fillPack_0 : decode prog_2_method_16_code 0 = .ok (.aload_n 0, 1) := by decide +kernel
theorem d_Chk_fillPack_1 : decode prog_2_method_16_code 1 = .ok (.getfield 31, 3) := by decide +kernel
theorem d_Chk_fillPack_4 : decode prog_2_method_16_code 4 = .ok (.iconst 0, 1) := by decide +kernel
theorem d_Chk_fillPack_5 : decode prog_2_method_16_code 5 = .ok (.invokestatic 56, 3) := by decide +kernel
theorem d_Chk_fillPack_8 : decode prog_2_method_16_code 8 = .ok (.aload_n 0, 1) := by decide +kernel
theorem d_Chk_fillPack_9 : decode prog_2_method_16_code 9 = .ok (.getfield 31, 3) := by decide +kernel
theorem d_Chk_fillPack_12 : decode prog_2_method_16_code 12 = .ok (.iconst 0, 1) := by decide +kernel
theorem d_Chk_fillPack_13 : decode prog_2_method_16_code 13 = .ok (.aload_n 0, 1) := by decide +kernel
theorem d_Chk_fillPack_14 : decode prog_2_method_16_code 14 = .ok (.getfield 19, 3) := by decide +kernel
theorem d_Chk_fillPack_17 : decode prog_2_method_16_code 17 = .ok (.invokevirtual 127, 3) := by decide +kernel
theorem d_Chk_fillPack_20 : decode prog_2_method_16_code 20 = .ok (.iconst 1, 1) := by decide +kernel
theorem d_Chk_fillPack_21 : decode prog_2_method_16_code 21 = .ok (.iadd, 1) := by decide +kernel
theorem d_Chk_fillPack_22 : decode prog_2_method_16_code 22 = .ok (.iastore, 1) := by decide +kernel
theorem d_Chk_fillPack_23 : decode prog_2_method_16_code 23 = .ok (.aload_n 0, 1) := by decide +kernel
theorem d_Chk_fillPack_24 : decode prog_2_method_16_code 24 = .ok (.getfield 31, 3) := by decide +kernel
theorem d_Chk_fillPack_27 : decode prog_2_method_16_code 27 = .ok (.iconst 1, 1) := by decide +kernel
theorem d_Chk_fillPack_28 : decode prog_2_method_16_code 28 = .ok (.aload_n 0, 1) := by decide +kernel
theorem d_Chk_fillPack_29 : decode prog_2_method_16_code 29 = .ok (.getfield 45, 3) := by decide +kernel
theorem d_Chk_fillPack_32 : decode prog_2_method_16_code 32 = .ok (.iastore, 1) := by decide +kernel
theorem d_Chk_fillPack_33 : decode prog_2_method_16_code 33 = .ok (.aload_n 0, 1) := by decide +kernel
theorem d_Chk_fillPack_34 : decode prog_2_method_16_code 34 = .ok (.getfield 31, 3) := by decide +kernel
theorem d_Chk_fillPack_37 : decode prog_2_method_16_code 37 = .ok (.iconst 2, 1) := by decide +kernel
theorem d_Chk_fillPack_38 : decode prog_2_method_16_code 38 = .ok (.aload_n 0, 1) := by decide +kernel
theorem d_Chk_fillPack_39 : decode prog_2_method_16_code 39 = .ok (.getfield 19, 3) := by decide +kernel
theorem d_Chk_fillPack_42 : decode prog_2_method_16_code 42 = .ok (.invokevirtual 144, 3) := by decide +kernel
theorem d_Chk_fillPack_45 : decode prog_2_method_16_code 45 = .ok (.iastore, 1) := by decide +kernel
theorem d_Chk_fillPack_46 : decode prog_2_method_16_code 46 = .ok (.iconst 0, 1) := by decide +kernel
theorem d_Chk_fillPack_47 : decode prog_2_method_16_code 47 = .ok (.istore_n 1, 1) := by decide +kernel
theorem d_Chk_fillPack_48 : decode prog_2_method_16_code 48 = .ok (.iload_n 1, 1) := by decide +kernel
theorem d_Chk_fillPack_49 : decode prog_2_method_16_code 49 = .ok (.aload_n 0, 1) := by decide +kernel
theorem d_Chk_fillPack_50 : decode prog_2_method_16_code 50 = .ok (.getfield 19, 3) := by decide +kernel
theorem d_Chk_fillPack_53 : decode prog_2_method_16_code 53 = .ok (.invokevirtual 147, 3) := by decide +kernel
theorem d_Chk_fillPack_56 : decode prog_2_method_16_code 56 = .ok (.if_icmp .ge 39, 3) := by decide +kernel
theorem d_Chk_fillPack_59 : decode prog_2_method_16_code 59 = .ok (.aload_n 0, 1) := by decide +kernel
theorem d_Chk_fillPack_60 : decode prog_2_method_16_code 60 = .ok (.getfield 19, 3) := by decide +kernel
theorem d_Chk_fillPack_63 : decode prog_2_method_16_code 63 = .ok (.iload_n 1, 1) := by decide +kernel
theorem d_Chk_fillPack_64 : decode prog_2_method_16_code 64 = .ok (.invokevirtual 150, 3) := by decide +kernel
theorem d_Chk_fillPack_67 : decode prog_2_method_16_code 67 = .ok (.ifCond .eq 22, 3) := by decide +kernel
theorem d_Chk_fillPack_70 : decode prog_2_method_16_code 70 = .ok (.aload_n 0, 1) := by decide +kernel
theorem d_Chk_fillPack_71 : decode prog_2_method_16_code 71 = .ok (.getfield 31, 3) := by decide +kernel
theorem d_Chk_fillPack_74 : decode prog_2_method_16_code 74 = .ok (.iconst 4, 1) := by decide +kernel
theorem d_Chk_fillPack_75 : decode prog_2_method_16_code 75 = .ok (.iload_n 1, 1) := by decide +kernel
theorem d_Chk_fillPack_76 : decode prog_2_method_16_code 76 = .ok (.iconst 5, 1) := by decide +kernel
theorem d_Chk_fillPack_77 : decode prog_2_method_16_code 77 = .ok (.ishr, 1) := by decide +kernel
theorem d_Chk_fillPack_78 : decode prog_2_method_16_code 78 = .ok (.iadd, 1) := by decide +kernel
theorem d_Chk_fillPack_79 : decode prog_2_method_16_code 79 = .ok (.dup2, 1) := by decide +kernel
theorem d_Chk_fillPack_80 : decode prog_2_method_16_code 80 = .ok (.iaload, 1) := by decide +kernel
theorem d_Chk_fillPack_81 : decode prog_2_method_16_code 81 = .ok (.iconst 1, 1) := by decide +kernel
theorem d_Chk_fillPack_82 : decode prog_2_method_16_code 82 = .ok (.iload_n 1, 1) := by decide +kernel
theorem d_Chk_fillPack_83 : decode prog_2_method_16_code 83 = .ok (.bipush 31, 2) := by decide +kernel
theorem d_Chk_fillPack_85 : decode prog_2_method_16_code 85 = .ok (.iand, 1) := by decide +kernel
theorem d_Chk_fillPack_86 : decode prog_2_method_16_code 86 = .ok (.ishl, 1) := by decide +kernel
theorem d_Chk_fillPack_87 : decode prog_2_method_16_code 87 = .ok (.ior, 1) := by decide +kernel
theorem d_Chk_fillPack_88 : decode prog_2_method_16_code 88 = .ok (.iastore, 1) := by decide +kernel
theorem d_Chk_fillPack_89 : decode prog_2_method_16_code 89 = .ok (.iinc 1 1, 3) := by decide +kernel
theorem d_Chk_fillPack_92 : decode prog_2_method_16_code 92 = .ok (.goto (-44), 3) := by decide +kernel
theorem d_Chk_fillPack_95 : decode prog_2_method_16_code 95 = .ok (.aload_n 0, 1) := by decide +kernel
theorem d_Chk_fillPack_96 : decode prog_2_method_16_code 96 = .ok (.getfield 15, 3) := by decide +kernel
theorem d_Chk_fillPack_99 : decode prog_2_method_16_code 99 = .ok (.aload_n 0, 1) := by decide +kernel
theorem d_Chk_fillPack_100 : decode prog_2_method_16_code 100 = .ok (.getfield 31, 3) := by decide +kernel
theorem d_Chk_fillPack_103 : decode prog_2_method_16_code 103 = .ok (.invokevirtual 154, 3) := by decide +kernel
theorem d_Chk_fillPack_106 : decode prog_2_method_16_code 106 = .ok (.aload_n 0, 1) := by decide +kernel
theorem d_Chk_fillPack_107 : decode prog_2_method_16_code 107 = .ok (.getfield 31, 3) := by decide +kernel
theorem d_Chk_fillPack_110 : decode prog_2_method_16_code 110 = .ok (.sipush 2112, 3) := by decide +kernel
theorem d_Chk_fillPack_113 : decode prog_2_method_16_code 113 = .ok (.aload_n 0, 1) := by decide +kernel
theorem d_Chk_fillPack_114 : decode prog_2_method_16_code 114 = .ok (.getfield 19, 3) := by decide +kernel
theorem d_Chk_fillPack_117 : decode prog_2_method_16_code 117 = .ok (.invokevirtual 127, 3) := by decide +kernel
theorem d_Chk_fillPack_120 : decode prog_2_method_16_code 120 = .ok (.iconst 1, 1) := by decide +kernel
theorem d_Chk_fillPack_121 : decode prog_2_method_16_code 121 = .ok (.iadd, 1) := by decide +kernel
theorem d_Chk_fillPack_122 : decode prog_2_method_16_code 122 = .ok (.iastore, 1) := by decide +kernel
theorem d_Chk_fillPack_123 : decode prog_2_method_16_code 123 = .ok (.return_, 1) := by decide +kernel
set_option maxHeartbeats 4000000 in
set_option maxRecDepth 100000 in
theorem v_Chk_fillPack_89 {p : Program} {l : Launch} {e : Env} {s : State} {m : MethodId} {args : Array Value} {below : List Frame} {meth : Method} {c : Code} {D : va_G} {ad : Nat → Nat} {ca : Nat → ClassId} {A : Nat → Prop} {FU : Nat} {q : St} (X : FX p s m meth c prog_2_method_16_code 2 none "FlashFiles$Checkpoints" D (tyF ca) A) {k48 : Int32 → St → Option (St)} (hk48 : ∀ (y1 : Int32) (g : St) (H : Heap) (locs : List Loc) (ls : Array Slot), va_P D cls (wF ad ca g) H → va_D A (wF ad ca g) → va_S A s.heap H locs → lv_has ls 2 [(0, .ref (ad 9)), (1, .int y1)] → k48 y1 g = some q → W p l e (rmN 4) s m args below meth c H locs 0 0 (MQ below (fxQv D (tyF ca) A (wF ad ca q)) args s 0 0 A) (F0 m 48 ls [])) {y1 : Int32} {g : St} {H : Heap} {locs : List Loc} {ls : Array Slot} (hP : va_P D cls (wF ad ca g) H) (hD : va_D A (wF ad ca g)) (hS : va_S A s.heap H locs) (hl : lv_has ls 2 [(0, .ref (ad 9)), (1, .int y1)]) (h : Chk_fillPack_b89 FU k48 y1 g = some q) : W p l e (rmN 4) s m args below meth c H locs 0 0 (MQ below (fxQv D (tyF ca) A (wF ad ca q)) args s 0 0 A) (F0 m 89 ls []) := by
  have hx := X.1
  have hb := X.2.1
  unfold Chk_fillPack_b89 at h
  refine lv_iinc (k := 1) (v := (y1 + (1 : Int32))) hx hb d_Chk_fillPack_89 hl rfl (oi_1 _) (by decide) rfl (fun ls hl => ?_)
  have hl : lv_has ls 2 [(1, .int (y1 + (1 : Int32))), (0, .ref (ad 9))] := hl
  refine lv_goto (tgt := 48) hx hb d_Chk_fillPack_92 (by decide) ?_
  exact hk48 _ _ _ _ _ hP hD hS (lv_sub hl [1, 0] rfl) h
set_option maxHeartbeats 4000000 in
set_option maxRecDepth 100000 in
theorem v_Chk_fillPack_48 {p : Program} {l : Launch} {e : Env} {s : State} {m : MethodId} {args : Array Value} {below : List Frame} {meth : Method} {c : Code} {D : va_G} {ad : Nat → Nat} {ca : Nat → ClassId} {A : Nat → Prop} {FU : Nat} {q : St} (X : FX p s m meth c prog_2_method_16_code 2 none "FlashFiles$Checkpoints" D (tyF ca) A) : ∀ (n : Nat), ∀ (y1 : Int32) (g : St) (H : Heap) (locs : List Loc) (ls : Array Slot), va_P D cls (wF ad ca g) H → va_D A (wF ad ca g) → va_S A s.heap H locs → lv_has ls 2 [(0, .ref (ad 9)), (1, .int y1)] → Chk_fillPack_b48 FU n y1 g = some q → W p l e (rmN 4) s m args below meth c H locs 0 0 (MQ below (fxQv D (tyF ca) A (wF ad ca q)) args s 0 0 A) (F0 m 48 ls []) := by
  have hx := X.1
  have hb := X.2.1
  intro n
  induction n with
  | zero =>
    intro y1 g H locs ls hP hD hS hl h
    cases h
  | succ n ih =>
    intro y1 g H locs ls hP hD hS hl h
    have h := h
    rw [Chk_fillPack_b48.eq_2] at h
    refine lv_iload_n hx hb d_Chk_fillPack_48 rfl (lv_at hl 1 rfl) ?_
    refine lv_aload_n hx hb d_Chk_fillPack_49 rfl (lv_at hl 0 rfl) ?_
    refine gF_chk_log X hP d_Chk_fillPack_50 ?_
    obtain ⟨v1, e1, h⟩ := bd_some h
    refine fx_i X (fx_runV (As := []) X (m_Log_segments e1 _) hP hD kv_Chk_147 ⟨Nat.le_of_ble_eq_true rfl, Nat.le_of_ble_eq_true rfl⟩ 5 rfl rfl rfl hl.1 rfl (Nat.le_of_ble_eq_true rfl) d_Chk_fillPack_53) hD hS (fun H locs hP hD hS => ?_)
    refine lv_icmp_ge (tgt := 95) hx hb d_Chk_fillPack_56 (by decide) (fun hc => ?_) (fun hc => ?_)
    · have h := if_t hc h
      refine lv_aload_n hx hb d_Chk_fillPack_95 rfl (lv_at hl 0 rfl) ?_
      refine gF_chk_table X hP d_Chk_fillPack_96 ?_
      refine lv_aload_n hx hb d_Chk_fillPack_99 rfl (lv_at hl 0 rfl) ?_
      refine gF_chk_pack X hP d_Chk_fillPack_100 ?_
      obtain ⟨p2, e1, h⟩ := bd_some h
      refine fx_v X (fx_runV (As := [.ref (ad 33)]) X (m_Tab_copyInto_22 e1 _) hP hD kv_Chk_154 ⟨Nat.le_of_ble_eq_true rfl, Nat.le_of_ble_eq_true rfl⟩ 4 rfl rfl rfl hl.1 rfl (Nat.le_of_ble_eq_true rfl) d_Chk_fillPack_103) hD hS (fun H locs hP hD hS => ?_)
      refine lv_aload_n hx hb d_Chk_fillPack_106 rfl (lv_at hl 0 rfl) ?_
      refine gF_chk_pack X hP d_Chk_fillPack_107 ?_
      refine lv_sipush (v := 2112) hx hb d_Chk_fillPack_110 (by decide) ?_
      refine lv_aload_n hx hb d_Chk_fillPack_113 rfl (lv_at hl 0 rfl) ?_
      refine gF_chk_log X hP d_Chk_fillPack_114 ?_
      obtain ⟨v3, e1, h⟩ := bd_some h
      refine fx_i X (fx_runV (As := []) X (m_Log_serial e1 _) hP hD kv_Chk_127 ⟨Nat.le_of_ble_eq_true rfl, Nat.le_of_ble_eq_true rfl⟩ 5 rfl rfl rfl hl.1 rfl (Nat.le_of_ble_eq_true rfl) d_Chk_fillPack_117) hD hS (fun H locs hP hD hS => ?_)
      refine lv_iconst (v := 1) hx hb d_Chk_fillPack_120 (by decide) ?_
      refine lv_iadd hx hb d_Chk_fillPack_121 ?_
      obtain ⟨g4, e1, h⟩ := bd_some h
      refine sF_22 X hP hD hS e1 d_Chk_fillPack_122 (fun H locs hP hD hS => ?_)
      cases h
      exact fx_vret X hP hD hS d_Chk_fillPack_123
    · have h := if_f hc h
      refine lv_aload_n hx hb d_Chk_fillPack_59 rfl (lv_at hl 0 rfl) ?_
      refine gF_chk_log X hP d_Chk_fillPack_60 ?_
      refine lv_iload_n hx hb d_Chk_fillPack_63 rfl (lv_at hl 1 rfl) ?_
      obtain ⟨v5, e1, h⟩ := bd_some h
      refine fx_i X (fx_runV (As := [.int y1]) X (m_Log_isDead e1 _) hP hD kv_Chk_150 ⟨Nat.le_of_ble_eq_true rfl, Nat.le_of_ble_eq_true rfl⟩ 5 rfl rfl rfl hl.1 rfl (Nat.le_of_ble_eq_true rfl) d_Chk_fillPack_64) hD hS (fun H locs hP hD hS => ?_)
      refine lv_if_eq (tgt := 89) hx hb d_Chk_fillPack_67 (by decide) (fun hc => ?_) (fun hc => ?_)
      · have h := if_t hc h
        exact v_Chk_fillPack_89 X ih hP hD hS (lv_sub hl [0, 1] rfl) h
      · have h := if_f hc h
        refine lv_aload_n hx hb d_Chk_fillPack_70 rfl (lv_at hl 0 rfl) ?_
        refine gF_chk_pack X hP d_Chk_fillPack_71 ?_
        refine lv_iconst (v := 4) hx hb d_Chk_fillPack_74 (by decide) ?_
        refine lv_iload_n hx hb d_Chk_fillPack_75 rfl (lv_at hl 1 rfl) ?_
        refine lv_iconst (v := 5) hx hb d_Chk_fillPack_76 (by decide) ?_
        refine lv_ishr hx hb d_Chk_fillPack_77 ?_
        refine lv_iadd hx hb d_Chk_fillPack_78 ?_
        refine lv_dup2_11 hx hb d_Chk_fillPack_79 rfl rfl ?_
        obtain ⟨v6, e1, h⟩ := bd_some h
        refine rF_22 X hP e1 d_Chk_fillPack_80 ?_
        refine lv_iconst (v := 1) hx hb d_Chk_fillPack_81 (by decide) ?_
        refine lv_iload_n hx hb d_Chk_fillPack_82 rfl (lv_at hl 1 rfl) ?_
        refine lv_bipush (v := 31) hx hb d_Chk_fillPack_83 (by decide) ?_
        refine lv_iand hx hb d_Chk_fillPack_85 ?_
        refine lv_ishl hx hb d_Chk_fillPack_86 ?_
        refine lv_ior hx hb d_Chk_fillPack_87 ?_
        obtain ⟨g7, e1, h⟩ := bd_some h
        refine sF_22 X hP hD hS e1 d_Chk_fillPack_88 (fun H locs hP hD hS => ?_)
        exact v_Chk_fillPack_89 X ih hP hD hS (lv_sub hl [0, 1] rfl) h
set_option maxHeartbeats 4000000 in
set_option maxRecDepth 100000 in
theorem m_Chk_fillPack {l : Launch} {D : va_G} {ad : Nat → Nat} {ca : Nat → ClassId} {FU : Nat} {g : St} {q : St} (h : Chk_fillPack FU  g = some q) : CV l ⟨"FlashFiles$Checkpoints", "fillPack", "()V"⟩ prog_2_method_16_code 2 4 D (tyF ca) (wF ad ca g) [.ref (ad 9)] (wF ad ca q) := by
  intro sz
  refine Met.fx (Qc := fun A => fxQv D (tyF ca) A (wF ad ca q)) (by decide) (Nat.le_of_ble_eq_true rfl) ?_
  intro p e s m below meth c A ls X hP hD hl
  have hl : lv_has ls 2 [(0, .ref (ad 9))] := hl
  have hS : va_S A s.heap s.heap [] := va_S.rf
  have hx := X.1
  have hb := X.2.1
  unfold Chk_fillPack at h
  refine lv_aload_n hx hb d_Chk_fillPack_0 rfl (lv_at hl 0 rfl) ?_
  refine gF_chk_pack X hP d_Chk_fillPack_1 ?_
  refine lv_iconst (v := 0) hx hb d_Chk_fillPack_4 (by decide) ?_
  obtain ⟨p8, e1, h⟩ := bd_some h
  refine fx_v X (fx_runS X (m_Arr_fill_0_22 e1 _) (As := [.ref (ad 33), .int (0 : Int32)]) hP hD ks_Chk_56 ⟨Nat.le_of_ble_eq_true rfl, Nat.le_of_ble_eq_true rfl⟩ rfl hl.1 rfl (Nat.le_of_ble_eq_true rfl) d_Chk_fillPack_5) hD hS (fun H locs hP hD hS => ?_)
  refine lv_aload_n hx hb d_Chk_fillPack_8 rfl (lv_at hl 0 rfl) ?_
  refine gF_chk_pack X hP d_Chk_fillPack_9 ?_
  refine lv_iconst (v := 0) hx hb d_Chk_fillPack_12 (by decide) ?_
  refine lv_aload_n hx hb d_Chk_fillPack_13 rfl (lv_at hl 0 rfl) ?_
  refine gF_chk_log X hP d_Chk_fillPack_14 ?_
  obtain ⟨v9, e1, h⟩ := bd_some h
  refine fx_i X (fx_runV (As := []) X (m_Log_serial e1 _) hP hD kv_Chk_127 ⟨Nat.le_of_ble_eq_true rfl, Nat.le_of_ble_eq_true rfl⟩ 5 rfl rfl rfl hl.1 rfl (Nat.le_of_ble_eq_true rfl) d_Chk_fillPack_17) hD hS (fun H locs hP hD hS => ?_)
  refine lv_iconst (v := 1) hx hb d_Chk_fillPack_20 (by decide) ?_
  refine lv_iadd hx hb d_Chk_fillPack_21 ?_
  obtain ⟨g10, e1, h⟩ := bd_some h
  refine sF_22 X hP hD hS e1 d_Chk_fillPack_22 (fun H locs hP hD hS => ?_)
  refine lv_aload_n hx hb d_Chk_fillPack_23 rfl (lv_at hl 0 rfl) ?_
  refine gF_chk_pack X hP d_Chk_fillPack_24 ?_
  refine lv_iconst (v := 1) hx hb d_Chk_fillPack_27 (by decide) ?_
  refine lv_aload_n hx hb d_Chk_fillPack_28 rfl (lv_at hl 0 rfl) ?_
  refine gF_chk_taken X hP d_Chk_fillPack_29 ?_
  obtain ⟨g11, e1, h⟩ := bd_some h
  refine sF_22 X hP hD hS e1 d_Chk_fillPack_32 (fun H locs hP hD hS => ?_)
  refine lv_aload_n hx hb d_Chk_fillPack_33 rfl (lv_at hl 0 rfl) ?_
  refine gF_chk_pack X hP d_Chk_fillPack_34 ?_
  refine lv_iconst (v := 2) hx hb d_Chk_fillPack_37 (by decide) ?_
  refine lv_aload_n hx hb d_Chk_fillPack_38 rfl (lv_at hl 0 rfl) ?_
  refine gF_chk_log X hP d_Chk_fillPack_39 ?_
  obtain ⟨v12, e1, h⟩ := bd_some h
  refine fx_i X (fx_runV (As := []) X (m_Log_nodeEnd e1 _) hP hD kv_Chk_144 ⟨Nat.le_of_ble_eq_true rfl, Nat.le_of_ble_eq_true rfl⟩ 5 rfl rfl rfl hl.1 rfl (Nat.le_of_ble_eq_true rfl) d_Chk_fillPack_42) hD hS (fun H locs hP hD hS => ?_)
  obtain ⟨g13, e1, h⟩ := bd_some h
  refine sF_22 X hP hD hS e1 d_Chk_fillPack_45 (fun H locs hP hD hS => ?_)
  refine lv_iconst (v := 0) hx hb d_Chk_fillPack_46 (by decide) ?_
  refine lv_istore_n hx hb d_Chk_fillPack_47 rfl hl (by decide) rfl (fun ls hl => ?_)
  have hl : lv_has ls 2 [(1, .int (0 : Int32)), (0, .ref (ad 9))] := hl
  exact v_Chk_fillPack_48 X  _ _ _ _ _ _ hP hD hS (lv_sub hl [1, 0] rfl) h
theorem d_Chk_storeBlocks_0 : decode prog_2_method_15_code 0 = .ok (.aload_n 0, 1) := by decide +kernel
theorem d_Chk_storeBlocks_1 : decode prog_2_method_15_code 1 = .ok (.getfield 19, 3) := by decide +kernel
theorem d_Chk_storeBlocks_4 : decode prog_2_method_15_code 4 = .ok (.invokevirtual 127, 3) := by decide +kernel
theorem d_Chk_storeBlocks_7 : decode prog_2_method_15_code 7 = .ok (.iconst 1, 1) := by decide +kernel
theorem d_Chk_storeBlocks_8 : decode prog_2_method_15_code 8 = .ok (.iadd, 1) := by decide +kernel
theorem d_Chk_storeBlocks_9 : decode prog_2_method_15_code 9 = .ok (.invokestatic 136, 3) := by decide +kernel
theorem d_Chk_storeBlocks_12 : decode prog_2_method_15_code 12 = .ok (.istore_n 2, 1) := by decide +kernel
theorem d_Chk_storeBlocks_13 : decode prog_2_method_15_code 13 = .ok (.aload_n 0, 1) := by decide +kernel
theorem d_Chk_storeBlocks_14 : decode prog_2_method_15_code 14 = .ok (.getfield 9, 3) := by decide +kernel
theorem d_Chk_storeBlocks_17 : decode prog_2_method_15_code 17 = .ok (.iload_n 2, 1) := by decide +kernel
theorem d_Chk_storeBlocks_18 : decode prog_2_method_15_code 18 = .ok (.bipush 34, 2) := by decide +kernel
theorem d_Chk_storeBlocks_20 : decode prog_2_method_15_code 20 = .ok (.invokevirtual 140, 3) := by decide +kernel
theorem d_Chk_storeBlocks_23 : decode prog_2_method_15_code 23 = .ok (.iconst 0, 1) := by decide +kernel
theorem d_Chk_storeBlocks_24 : decode prog_2_method_15_code 24 = .ok (.istore_n 3, 1) := by decide +kernel
theorem d_Chk_storeBlocks_25 : decode prog_2_method_15_code 25 = .ok (.iload_n 3, 1) := by decide +kernel
theorem d_Chk_storeBlocks_26 : decode prog_2_method_15_code 26 = .ok (.iload_n 1, 1) := by decide +kernel
theorem d_Chk_storeBlocks_27 : decode prog_2_method_15_code 27 = .ok (.if_icmp .ge 27, 3) := by decide +kernel
theorem d_Chk_storeBlocks_30 : decode prog_2_method_15_code 30 = .ok (.aload_n 0, 1) := by decide +kernel
theorem d_Chk_storeBlocks_31 : decode prog_2_method_15_code 31 = .ok (.getfield 9, 3) := by decide +kernel
theorem d_Chk_storeBlocks_34 : decode prog_2_method_15_code 34 = .ok (.iload_n 2, 1) := by decide +kernel
theorem d_Chk_storeBlocks_35 : decode prog_2_method_15_code 35 = .ok (.iload_n 3, 1) := by decide +kernel
theorem d_Chk_storeBlocks_36 : decode prog_2_method_15_code 36 = .ok (.iadd, 1) := by decide +kernel
theorem d_Chk_storeBlocks_37 : decode prog_2_method_15_code 37 = .ok (.aload_n 0, 1) := by decide +kernel
theorem d_Chk_storeBlocks_38 : decode prog_2_method_15_code 38 = .ok (.getfield 31, 3) := by decide +kernel
theorem d_Chk_storeBlocks_41 : decode prog_2_method_15_code 41 = .ok (.iload_n 3, 1) := by decide +kernel
theorem d_Chk_storeBlocks_42 : decode prog_2_method_15_code 42 = .ok (.bipush 64, 2) := by decide +kernel
theorem d_Chk_storeBlocks_44 : decode prog_2_method_15_code 44 = .ok (.imul, 1) := by decide +kernel
theorem d_Chk_storeBlocks_45 : decode prog_2_method_15_code 45 = .ok (.invokevirtual 62, 3) := by decide +kernel
theorem d_Chk_storeBlocks_48 : decode prog_2_method_15_code 48 = .ok (.iinc 3 1, 3) := by decide +kernel
theorem d_Chk_storeBlocks_51 : decode prog_2_method_15_code 51 = .ok (.goto (-26), 3) := by decide +kernel
theorem d_Chk_storeBlocks_54 : decode prog_2_method_15_code 54 = .ok (.return_, 1) := by decide +kernel
set_option maxHeartbeats 4000000 in
set_option maxRecDepth 100000 in
theorem v_Chk_storeBlocks_25 {p : Program} {l : Launch} {e : Env} {s : State} {m : MethodId} {args : Array Value} {below : List Frame} {meth : Method} {c : Code} {D : va_G} {ad : Nat → Nat} {ca : Nat → ClassId} {A : Nat → Prop} {FU : Nat} {q : St} (X : FX p s m meth c prog_2_method_15_code 4 none "FlashFiles$Checkpoints" D (tyF ca) A) : ∀ (n : Nat), ∀ (y1 y2 y3 : Int32) (g : St) (H : Heap) (locs : List Loc) (ls : Array Slot), va_P D cls (wF ad ca g) H → va_D A (wF ad ca g) → va_S A s.heap H locs → lv_has ls 4 [(0, .ref (ad 9)), (1, .int y1), (2, .int y2), (3, .int y3)] → Chk_storeBlocks_b25 FU n y1 y2 y3 g = some q → W p l e (rmN 5) s m args below meth c H locs 0 0 (MQ below (fxQv D (tyF ca) A (wF ad ca q)) args s 0 0 A) (F0 m 25 ls []) := by
  have hx := X.1
  have hb := X.2.1
  intro n
  induction n with
  | zero =>
    intro y1 y2 y3 g H locs ls hP hD hS hl h
    cases h
  | succ n ih =>
    intro y1 y2 y3 g H locs ls hP hD hS hl h
    have h := h
    rw [Chk_storeBlocks_b25.eq_2] at h
    refine lv_iload_n hx hb d_Chk_storeBlocks_25 rfl (lv_at hl 3 rfl) ?_
    refine lv_iload_n hx hb d_Chk_storeBlocks_26 rfl (lv_at hl 1 rfl) ?_
    refine lv_icmp_ge (tgt := 54) hx hb d_Chk_storeBlocks_27 (by decide) (fun hc => ?_) (fun hc => ?_)
    · have h := if_t hc h
      cases h
      exact fx_vret X hP hD hS d_Chk_storeBlocks_54
    · have h := if_f hc h
      refine lv_aload_n hx hb d_Chk_storeBlocks_30 rfl (lv_at hl 0 rfl) ?_
      refine gF_chk_device X hP d_Chk_storeBlocks_31 ?_
      refine lv_iload_n hx hb d_Chk_storeBlocks_34 rfl (lv_at hl 2 rfl) ?_
      refine lv_iload_n hx hb d_Chk_storeBlocks_35 rfl (lv_at hl 3 rfl) ?_
      refine lv_iadd hx hb d_Chk_storeBlocks_36 ?_
      refine lv_aload_n hx hb d_Chk_storeBlocks_37 rfl (lv_at hl 0 rfl) ?_
      refine gF_chk_pack X hP d_Chk_storeBlocks_38 ?_
      refine lv_iload_n hx hb d_Chk_storeBlocks_41 rfl (lv_at hl 3 rfl) ?_
      refine lv_bipush (v := 64) hx hb d_Chk_storeBlocks_42 (by decide) ?_
      refine lv_imul hx hb d_Chk_storeBlocks_44 ?_
      obtain ⟨p1, e1, h⟩ := bd_some h
      refine fx_v X (fx_runV (As := [.int (y2 + y3), .ref (ad 33), .int (y3 * (64 : Int32))]) X (m_Dev_program_22 e1 _) hP hD kv_Chk_62 ⟨Nat.le_of_ble_eq_true rfl, Nat.le_of_ble_eq_true rfl⟩ 3 rfl rfl rfl hl.1 rfl (Nat.le_of_ble_eq_true rfl) d_Chk_storeBlocks_45) hD hS (fun H locs hP hD hS => ?_)
      refine lv_iinc (k := 3) (v := (y3 + (1 : Int32))) hx hb d_Chk_storeBlocks_48 hl rfl (oi_1 _) (by decide) rfl (fun ls hl => ?_)
      have hl : lv_has ls 4 [(3, .int (y3 + (1 : Int32))), (0, .ref (ad 9)), (1, .int y1), (2, .int y2)] := hl
      refine lv_goto (tgt := 25) hx hb d_Chk_storeBlocks_51 (by decide) ?_
      exact ih _ _ _ _ _ _ _ hP hD hS (lv_sub hl [1, 2, 3, 0] rfl) h
set_option maxHeartbeats 4000000 in
set_option maxRecDepth 100000 in
theorem m_Chk_storeBlocks {l : Launch} {D : va_G} {ad : Nat → Nat} {ca : Nat → ClassId} {FU : Nat} {x1 : Int32} {g : St} {q : St} (h : Chk_storeBlocks FU x1 g = some q) : CV l ⟨"FlashFiles$Checkpoints", "storeBlocks", "(I)V"⟩ prog_2_method_15_code 4 5 D (tyF ca) (wF ad ca g) [.ref (ad 9), .int x1] (wF ad ca q) := by
  intro sz
  refine Met.fx (Qc := fun A => fxQv D (tyF ca) A (wF ad ca q)) (by decide) (Nat.le_of_ble_eq_true rfl) ?_
  intro p e s m below meth c A ls X hP hD hl
  have hl : lv_has ls 4 [(0, .ref (ad 9)), (1, .int x1)] := hl
  have hS : va_S A s.heap s.heap [] := va_S.rf
  have hx := X.1
  have hb := X.2.1
  unfold Chk_storeBlocks at h
  refine lv_aload_n hx hb d_Chk_storeBlocks_0 rfl (lv_at hl 0 rfl) ?_
  refine gF_chk_log X hP d_Chk_storeBlocks_1 ?_
  obtain ⟨v2, e1, h⟩ := bd_some h
  refine fx_i X (fx_runV (As := []) X (m_Log_serial e1 _) hP hD kv_Chk_127 ⟨Nat.le_of_ble_eq_true rfl, Nat.le_of_ble_eq_true rfl⟩ 5 rfl rfl rfl hl.1 rfl (Nat.le_of_ble_eq_true rfl) d_Chk_storeBlocks_4) hD hS (fun H locs hP hD hS => ?_)
  refine lv_iconst (v := 1) hx hb d_Chk_storeBlocks_7 (by decide) ?_
  refine lv_iadd hx hb d_Chk_storeBlocks_8 ?_
  obtain ⟨v3, e1, h⟩ := bd_some h
  refine fx_i X (fx_runN X (m_FF_beginOfPack e1 _) (As := [.int (v2 + (1 : Int32))]) hP hD kn_Chk_136 ⟨Nat.le_of_ble_eq_true rfl, Nat.le_of_ble_eq_true rfl⟩ rfl hl.1 rfl (Nat.le_of_ble_eq_true rfl) d_Chk_storeBlocks_9) hD hS (fun H locs hP hD hS => ?_)
  refine lv_istore_n hx hb d_Chk_storeBlocks_12 rfl hl (by decide) rfl (fun ls hl => ?_)
  have hl : lv_has ls 4 [(2, .int v3), (0, .ref (ad 9)), (1, .int x1)] := hl
  refine lv_aload_n hx hb d_Chk_storeBlocks_13 rfl (lv_at hl 1 rfl) ?_
  refine gF_chk_device X hP d_Chk_storeBlocks_14 ?_
  refine lv_iload_n hx hb d_Chk_storeBlocks_17 rfl (lv_at hl 0 rfl) ?_
  refine lv_bipush (v := 34) hx hb d_Chk_storeBlocks_18 (by decide) ?_
  obtain ⟨p4, e1, h⟩ := bd_some h
  refine fx_v X (fx_runV (As := [.int v3, .int (34 : Int32)]) X (m_Dev_erase e1 _) hP hD kv_Chk_140 ⟨Nat.le_of_ble_eq_true rfl, Nat.le_of_ble_eq_true rfl⟩ 3 rfl rfl rfl hl.1 rfl (Nat.le_of_ble_eq_true rfl) d_Chk_storeBlocks_20) hD hS (fun H locs hP hD hS => ?_)
  refine lv_iconst (v := 0) hx hb d_Chk_storeBlocks_23 (by decide) ?_
  refine lv_istore_n hx hb d_Chk_storeBlocks_24 rfl hl (by decide) rfl (fun ls hl => ?_)
  have hl : lv_has ls 4 [(3, .int (0 : Int32)), (2, .int v3), (0, .ref (ad 9)), (1, .int x1)] := hl
  exact v_Chk_storeBlocks_25 X  _ _ _ _ _ _ _ _ hP hD hS (lv_sub hl [2, 3, 1, 0] rfl) h
theorem d_Chk_commit_0 : decode prog_2_method_13_code 0 = .ok (.aload_n 0, 1) := by decide +kernel
theorem d_Chk_commit_1 : decode prog_2_method_13_code 1 = .ok (.invokevirtual 121, 3) := by decide +kernel
theorem d_Chk_commit_4 : decode prog_2_method_13_code 4 = .ok (.aload_n 0, 1) := by decide +kernel
theorem d_Chk_commit_5 : decode prog_2_method_13_code 5 = .ok (.bipush 34, 2) := by decide +kernel
theorem d_Chk_commit_7 : decode prog_2_method_13_code 7 = .ok (.invokevirtual 124, 3) := by decide +kernel
theorem d_Chk_commit_10 : decode prog_2_method_13_code 10 = .ok (.aload_n 0, 1) := by decide +kernel
theorem d_Chk_commit_11 : decode prog_2_method_13_code 11 = .ok (.getfield 19, 3) := by decide +kernel
theorem d_Chk_commit_14 : decode prog_2_method_13_code 14 = .ok (.aload_n 0, 1) := by decide +kernel
theorem d_Chk_commit_15 : decode prog_2_method_13_code 15 = .ok (.getfield 19, 3) := by decide +kernel
theorem d_Chk_commit_18 : decode prog_2_method_13_code 18 = .ok (.invokevirtual 127, 3) := by decide +kernel
theorem d_Chk_commit_21 : decode prog_2_method_13_code 21 = .ok (.iconst 1, 1) := by decide +kernel
theorem d_Chk_commit_22 : decode prog_2_method_13_code 22 = .ok (.iadd, 1) := by decide +kernel
theorem d_Chk_commit_23 : decode prog_2_method_13_code 23 = .ok (.invokevirtual 130, 3) := by decide +kernel
theorem d_Chk_commit_26 : decode prog_2_method_13_code 26 = .ok (.aload_n 0, 1) := by decide +kernel
theorem d_Chk_commit_27 : decode prog_2_method_13_code 27 = .ok (.getfield 19, 3) := by decide +kernel
theorem d_Chk_commit_30 : decode prog_2_method_13_code 30 = .ok (.invokevirtual 78, 3) := by decide +kernel
theorem d_Chk_commit_33 : decode prog_2_method_13_code 33 = .ok (.return_, 1) := by decide +kernel
set_option maxHeartbeats 4000000 in
set_option maxRecDepth 100000 in
theorem m_Chk_commit {l : Launch} {D : va_G} {ad : Nat → Nat} {ca : Nat → ClassId} {FU : Nat} {g : St} {q : St} (h : Chk_commit FU  g = some q) : CV l ⟨"FlashFiles$Checkpoints", "commit", "()V"⟩ prog_2_method_13_code 1 7 D (tyF ca) (wF ad ca g) [.ref (ad 9)] (wF ad ca q) := by
  intro sz
  refine Met.fx (Qc := fun A => fxQv D (tyF ca) A (wF ad ca q)) (by decide) (Nat.le_of_ble_eq_true rfl) ?_
  intro p e s m below meth c A ls X hP hD hl
  have hl : lv_has ls 1 [(0, .ref (ad 9))] := hl
  have hS : va_S A s.heap s.heap [] := va_S.rf
  have hx := X.1
  have hb := X.2.1
  unfold Chk_commit at h
  refine lv_aload_n hx hb d_Chk_commit_0 rfl (lv_at hl 0 rfl) ?_
  obtain ⟨p1, e1, h⟩ := bd_some h
  refine fx_v X (fx_runV (As := []) X (m_Chk_fillPack e1 _) hP hD kv_Chk_121 ⟨Nat.le_of_ble_eq_true rfl, Nat.le_of_ble_eq_true rfl⟩ 9 rfl rfl rfl hl.1 rfl (Nat.le_of_ble_eq_true rfl) d_Chk_commit_1) hD hS (fun H locs hP hD hS => ?_)
  refine lv_aload_n hx hb d_Chk_commit_4 rfl (lv_at hl 0 rfl) ?_
  refine lv_bipush (v := 34) hx hb d_Chk_commit_5 (by decide) ?_
  obtain ⟨p2, e1, h⟩ := bd_some h
  refine fx_v X (fx_runV (As := [.int (34 : Int32)]) X (m_Chk_storeBlocks e1 _) hP hD kv_Chk_124 ⟨Nat.le_of_ble_eq_true rfl, Nat.le_of_ble_eq_true rfl⟩ 9 rfl rfl rfl hl.1 rfl (Nat.le_of_ble_eq_true rfl) d_Chk_commit_7) hD hS (fun H locs hP hD hS => ?_)
  refine lv_aload_n hx hb d_Chk_commit_10 rfl (lv_at hl 0 rfl) ?_
  refine gF_chk_log X hP d_Chk_commit_11 ?_
  refine lv_aload_n hx hb d_Chk_commit_14 rfl (lv_at hl 0 rfl) ?_
  refine gF_chk_log X hP d_Chk_commit_15 ?_
  obtain ⟨v3, e1, h⟩ := bd_some h
  refine fx_i X (fx_runV (As := []) X (m_Log_serial e1 _) hP hD kv_Chk_127 ⟨Nat.le_of_ble_eq_true rfl, Nat.le_of_ble_eq_true rfl⟩ 5 rfl rfl rfl hl.1 rfl (Nat.le_of_ble_eq_true rfl) d_Chk_commit_18) hD hS (fun H locs hP hD hS => ?_)
  refine lv_iconst (v := 1) hx hb d_Chk_commit_21 (by decide) ?_
  refine lv_iadd hx hb d_Chk_commit_22 ?_
  obtain ⟨p4, e1, h⟩ := bd_some h
  refine fx_v X (fx_runV (As := [.int (v3 + (1 : Int32))]) X (m_Log_setSerial e1 _) hP hD kv_Chk_130 ⟨Nat.le_of_ble_eq_true rfl, Nat.le_of_ble_eq_true rfl⟩ 5 rfl rfl rfl hl.1 rfl (Nat.le_of_ble_eq_true rfl) d_Chk_commit_23) hD hS (fun H locs hP hD hS => ?_)
  refine lv_aload_n hx hb d_Chk_commit_26 rfl (lv_at hl 0 rfl) ?_
  refine gF_chk_log X hP d_Chk_commit_27 ?_
  obtain ⟨p5, e1, h⟩ := bd_some h
  refine fx_v X (fx_runV (As := []) X (m_Log_freeDead e1 _) hP hD kv_Chk_78 ⟨Nat.le_of_ble_eq_true rfl, Nat.le_of_ble_eq_true rfl⟩ 5 rfl rfl rfl hl.1 rfl (Nat.le_of_ble_eq_true rfl) d_Chk_commit_30) hD hS (fun H locs hP hD hS => ?_)
  cases h
  exact fx_vret X hP hD hS d_Chk_commit_33
theorem d_Chk_mustBeFree_0 : decode prog_2_method_11_code 0 = .ok (.iconst 0, 1) := by decide +kernel
theorem d_Chk_mustBeFree_1 : decode prog_2_method_11_code 1 = .ok (.aload_n 0, 1) := by decide +kernel
theorem d_Chk_mustBeFree_2 : decode prog_2_method_11_code 2 = .ok (.getfield 48, 3) := by decide +kernel
theorem d_Chk_mustBeFree_5 : decode prog_2_method_11_code 5 = .ok (.aload_n 0, 1) := by decide +kernel
theorem d_Chk_mustBeFree_6 : decode prog_2_method_11_code 6 = .ok (.getfield 38, 3) := by decide +kernel
theorem d_Chk_mustBeFree_9 : decode prog_2_method_11_code 9 = .ok (.isub, 1) := by decide +kernel
theorem d_Chk_mustBeFree_10 : decode prog_2_method_11_code 10 = .ok (.aload_n 0, 1) := by decide +kernel
theorem d_Chk_mustBeFree_11 : decode prog_2_method_11_code 11 = .ok (.getfield 42, 3) := by decide +kernel
theorem d_Chk_mustBeFree_14 : decode prog_2_method_11_code 14 = .ok (.isub, 1) := by decide +kernel
theorem d_Chk_mustBeFree_15 : decode prog_2_method_11_code 15 = .ok (.invokestatic 116, 3) := by decide +kernel
theorem d_Chk_mustBeFree_18 : decode prog_2_method_11_code 18 = .ok (.istore_n 1, 1) := by decide +kernel
theorem d_Chk_mustBeFree_19 : decode prog_2_method_11_code 19 = .ok (.iload_n 1, 1) := by decide +kernel
theorem d_Chk_mustBeFree_20 : decode prog_2_method_11_code 20 = .ok (.bipush 16, 2) := by decide +kernel
theorem d_Chk_mustBeFree_22 : decode prog_2_method_11_code 22 = .ok (.iadd, 1) := by decide +kernel
theorem d_Chk_mustBeFree_23 : decode prog_2_method_11_code 23 = .ok (.iconst 1, 1) := by decide +kernel
theorem d_Chk_mustBeFree_24 : decode prog_2_method_11_code 24 = .ok (.isub, 1) := by decide +kernel
theorem d_Chk_mustBeFree_25 : decode prog_2_method_11_code 25 = .ok (.bipush 16, 2) := by decide +kernel
theorem d_Chk_mustBeFree_27 : decode prog_2_method_11_code 27 = .ok (.idiv, 1) := by decide +kernel
theorem d_Chk_mustBeFree_28 : decode prog_2_method_11_code 28 = .ok (.iconst 2, 1) := by decide +kernel
theorem d_Chk_mustBeFree_29 : decode prog_2_method_11_code 29 = .ok (.iadd, 1) := by decide +kernel
theorem d_Chk_mustBeFree_30 : decode prog_2_method_11_code 30 = .ok (.bipush 8, 2) := by decide +kernel
theorem d_Chk_mustBeFree_32 : decode prog_2_method_11_code 32 = .ok (.iadd, 1) := by decide +kernel
theorem d_Chk_mustBeFree_33 : decode prog_2_method_11_code 33 = .ok (.ireturn, 1) := by decide +kernel
set_option maxHeartbeats 4000000 in
set_option maxRecDepth 100000 in
theorem m_Chk_mustBeFree {l : Launch} {D : va_G} {ad : Nat → Nat} {ca : Nat → ClassId} {FU : Nat} {g : St} {q : Int32} (h : Chk_mustBeFree FU  g = some q) : CI l ⟨"FlashFiles$Checkpoints", "mustBeFree", "()I"⟩ prog_2_method_11_code 2 1 (some .int) D (tyF ca) (wF ad ca g) [.ref (ad 9)] q (wF ad ca g) := by
  intro sz
  refine Met.fx (Qc := fun A => fxQi D (tyF ca) A (wF ad ca g) q) (by decide) (Nat.le_of_ble_eq_true rfl) ?_
  intro p e s m below meth c A ls X hP hD hl
  have hl : lv_has ls 2 [(0, .ref (ad 9))] := hl
  have hS : va_S A s.heap s.heap [] := va_S.rf
  have hx := X.1
  have hb := X.2.1
  unfold Chk_mustBeFree at h
  refine lv_iconst (v := 0) hx hb d_Chk_mustBeFree_0 (by decide) ?_
  refine lv_aload_n hx hb d_Chk_mustBeFree_1 rfl (lv_at hl 0 rfl) ?_
  refine gF_chk_room X hP d_Chk_mustBeFree_2 ?_
  refine lv_aload_n hx hb d_Chk_mustBeFree_5 rfl (lv_at hl 0 rfl) ?_
  refine gF_chk_used X hP d_Chk_mustBeFree_6 ?_
  refine lv_isub hx hb d_Chk_mustBeFree_9 ?_
  refine lv_aload_n hx hb d_Chk_mustBeFree_10 rfl (lv_at hl 0 rfl) ?_
  refine gF_chk_fresh X hP d_Chk_mustBeFree_11 ?_
  refine lv_isub hx hb d_Chk_mustBeFree_14 ?_
  refine va_mmax hx hb (X.2.2.1.trans hl.1.symm) X.2.2.2.2.2.1 (X.2.2.2.2.2.2.1.use q4_147) (X.2.2.2.2.2.2.1.use q2_190) (X.2.2.2.2.2.2.1.use q1_16) (X.2.2.2.2.2.2.1.use math_max) (Nat.le_of_ble_eq_true rfl) (Nat.le_of_ble_eq_true rfl) (Nat.zero_le _) (Nat.zero_le _) d_Chk_mustBeFree_15 ?_
  refine lv_istore_n hx hb d_Chk_mustBeFree_18 rfl hl (by decide) rfl (fun ls hl => ?_)
  have hl : lv_has ls 2 [(1, .int (if (0 : Int32) < (((g.1 16) - (g.1 17)) - (g.1 18)) then (((g.1 16) - (g.1 17)) - (g.1 18)) else (0 : Int32))), (0, .ref (ad 9))] := hl
  refine lv_iload_n hx hb d_Chk_mustBeFree_19 rfl (lv_at hl 0 rfl) ?_
  refine lv_bipush (v := 16) hx hb d_Chk_mustBeFree_20 (by decide) ?_
  refine lv_iadd hx hb d_Chk_mustBeFree_22 ?_
  refine lv_iconst (v := 1) hx hb d_Chk_mustBeFree_23 (by decide) ?_
  refine lv_isub hx hb d_Chk_mustBeFree_24 ?_
  refine lv_bipush (v := 16) hx hb d_Chk_mustBeFree_25 (by decide) ?_
  refine lv_idiv hx hb d_Chk_mustBeFree_27 (by decide) ?_
  refine lv_iconst (v := 2) hx hb d_Chk_mustBeFree_28 (by decide) ?_
  refine lv_iadd hx hb d_Chk_mustBeFree_29 ?_
  refine lv_bipush (v := 8) hx hb d_Chk_mustBeFree_30 (by decide) ?_
  refine lv_iadd hx hb d_Chk_mustBeFree_32 ?_
  cases h
  exact fx_iret X hP hD hS d_Chk_mustBeFree_33
theorem d_Chk_take_0 : decode prog_2_method_10_code 0 = .ok (.aload_n 0, 1) := by decide +kernel
theorem d_Chk_take_1 : decode prog_2_method_10_code 1 = .ok (.dup, 1) := by decide +kernel
theorem d_Chk_take_2 : decode prog_2_method_10_code 2 = .ok (.getfield 45, 3) := by decide +kernel
theorem d_Chk_take_5 : decode prog_2_method_10_code 5 = .ok (.iconst 1, 1) := by decide +kernel
theorem d_Chk_take_6 : decode prog_2_method_10_code 6 = .ok (.iadd, 1) := by decide +kernel
theorem d_Chk_take_7 : decode prog_2_method_10_code 7 = .ok (.putfield 45, 3) := by decide +kernel
theorem d_Chk_take_10 : decode prog_2_method_10_code 10 = .ok (.aload_n 0, 1) := by decide +kernel
theorem d_Chk_take_11 : decode prog_2_method_10_code 11 = .ok (.aload_n 0, 1) := by decide +kernel
theorem d_Chk_take_12 : decode prog_2_method_10_code 12 = .ok (.getfield 23, 3) := by decide +kernel
theorem d_Chk_take_15 : decode prog_2_method_10_code 15 = .ok (.invokevirtual 92, 3) := by decide +kernel
theorem d_Chk_take_18 : decode prog_2_method_10_code 18 = .ok (.putfield 38, 3) := by decide +kernel
theorem d_Chk_take_21 : decode prog_2_method_10_code 21 = .ok (.aload_n 0, 1) := by decide +kernel
theorem d_Chk_take_22 : decode prog_2_method_10_code 22 = .ok (.iconst 0, 1) := by decide +kernel
theorem d_Chk_take_23 : decode prog_2_method_10_code 23 = .ok (.putfield 42, 3) := by decide +kernel
theorem d_Chk_take_26 : decode prog_2_method_10_code 26 = .ok (.aload_n 0, 1) := by decide +kernel
theorem d_Chk_take_27 : decode prog_2_method_10_code 27 = .ok (.invokevirtual 98, 3) := by decide +kernel
theorem d_Chk_take_30 : decode prog_2_method_10_code 30 = .ok (.aload_n 0, 1) := by decide +kernel
theorem d_Chk_take_31 : decode prog_2_method_10_code 31 = .ok (.getfield 15, 3) := by decide +kernel
theorem d_Chk_take_34 : decode prog_2_method_10_code 34 = .ok (.invokevirtual 101, 3) := by decide +kernel
theorem d_Chk_take_37 : decode prog_2_method_10_code 37 = .ok (.iconst 0, 1) := by decide +kernel
theorem d_Chk_take_38 : decode prog_2_method_10_code 38 = .ok (.istore_n 1, 1) := by decide +kernel
theorem d_Chk_take_39 : decode prog_2_method_10_code 39 = .ok (.iload_n 1, 1) := by decide +kernel
theorem d_Chk_take_40 : decode prog_2_method_10_code 40 = .ok (.sipush 10000, 3) := by decide +kernel
theorem d_Chk_take_43 : decode prog_2_method_10_code 43 = .ok (.if_icmp .ge 54, 3) := by decide +kernel
theorem d_Chk_take_46 : decode prog_2_method_10_code 46 = .ok (.aload_n 0, 1) := by decide +kernel
theorem d_Chk_take_47 : decode prog_2_method_10_code 47 = .ok (.getfield 19, 3) := by decide +kernel
theorem d_Chk_take_50 : decode prog_2_method_10_code 50 = .ok (.invokevirtual 104, 3) := by decide +kernel
theorem d_Chk_take_53 : decode prog_2_method_10_code 53 = .ok (.aload_n 0, 1) := by decide +kernel
theorem d_Chk_take_54 : decode prog_2_method_10_code 54 = .ok (.invokevirtual 107, 3) := by decide +kernel
theorem d_Chk_take_57 : decode prog_2_method_10_code 57 = .ok (.if_icmp .ge 40, 3) := by decide +kernel
theorem d_Chk_take_60 : decode prog_2_method_10_code 60 = .ok (.aload_n 0, 1) := by decide +kernel
theorem d_Chk_take_61 : decode prog_2_method_10_code 61 = .ok (.getfield 27, 3) := by decide +kernel
theorem d_Chk_take_64 : decode prog_2_method_10_code 64 = .ok (.bipush 16, 2) := by decide +kernel
theorem d_Chk_take_66 : decode prog_2_method_10_code 66 = .ok (.aload_n 0, 1) := by decide +kernel
theorem d_Chk_take_67 : decode prog_2_method_10_code 67 = .ok (.getfield 19, 3) := by decide +kernel
theorem d_Chk_take_70 : decode prog_2_method_10_code 70 = .ok (.invokevirtual 104, 3) := by decide +kernel
theorem d_Chk_take_73 : decode prog_2_method_10_code 73 = .ok (.iconst 2, 1) := by decide +kernel
theorem d_Chk_take_74 : decode prog_2_method_10_code 74 = .ok (.isub, 1) := by decide +kernel
theorem d_Chk_take_75 : decode prog_2_method_10_code 75 = .ok (.imul, 1) := by decide +kernel
theorem d_Chk_take_76 : decode prog_2_method_10_code 76 = .ok (.bipush 32, 2) := by decide +kernel
theorem d_Chk_take_78 : decode prog_2_method_10_code 78 = .ok (.invokevirtual 110, 3) := by decide +kernel
theorem d_Chk_take_81 : decode prog_2_method_10_code 81 = .ok (.ifCond .ne 6, 3) := by decide +kernel
theorem d_Chk_take_84 : decode prog_2_method_10_code 84 = .ok (.goto 13, 3) := by decide +kernel
theorem d_Chk_take_87 : decode prog_2_method_10_code 87 = .ok (.aload_n 0, 1) := by decide +kernel
theorem d_Chk_take_88 : decode prog_2_method_10_code 88 = .ok (.invokevirtual 98, 3) := by decide +kernel
theorem d_Chk_take_91 : decode prog_2_method_10_code 91 = .ok (.iinc 1 1, 3) := by decide +kernel
theorem d_Chk_take_94 : decode prog_2_method_10_code 94 = .ok (.goto (-55), 3) := by decide +kernel
theorem d_Chk_take_97 : decode prog_2_method_10_code 97 = .ok (.return_, 1) := by decide +kernel
set_option maxHeartbeats 4000000 in
set_option maxRecDepth 100000 in
theorem v_Chk_take_39 {p : Program} {l : Launch} {e : Env} {s : State} {m : MethodId} {args : Array Value} {below : List Frame} {meth : Method} {c : Code} {D : va_G} {ad : Nat → Nat} {ca : Nat → ClassId} {A : Nat → Prop} {FU : Nat} {q : St} (X : FX p s m meth c prog_2_method_10_code 2 none "FlashFiles$Checkpoints" D (tyF ca) A) : ∀ (n : Nat), ∀ (y1 : Int32) (g : St) (H : Heap) (locs : List Loc) (ls : Array Slot), va_P D cls (wF ad ca g) H → va_D A (wF ad ca g) → va_S A s.heap H locs → lv_has ls 2 [(0, .ref (ad 9)), (1, .int y1)] → Chk_take_b39 FU n y1 g = some q → W p l e (rmN 8) s m args below meth c H locs 0 0 (MQ below (fxQv D (tyF ca) A (wF ad ca q)) args s 0 0 A) (F0 m 39 ls []) := by
  have hx := X.1
  have hb := X.2.1
  intro n
  induction n with
  | zero =>
    intro y1 g H locs ls hP hD hS hl h
    cases h
  | succ n ih =>
    intro y1 g H locs ls hP hD hS hl h
    have h := h
    rw [Chk_take_b39.eq_2] at h
    refine lv_iload_n hx hb d_Chk_take_39 rfl (lv_at hl 1 rfl) ?_
    refine lv_sipush (v := 10000) hx hb d_Chk_take_40 (by decide) ?_
    refine lv_icmp_ge (tgt := 97) hx hb d_Chk_take_43 (by decide) (fun hc => ?_) (fun hc => ?_)
    · have h := if_t hc h
      cases h
      exact fx_vret X hP hD hS d_Chk_take_97
    · have h := if_f hc h
      refine lv_aload_n hx hb d_Chk_take_46 rfl (lv_at hl 0 rfl) ?_
      refine gF_chk_log X hP d_Chk_take_47 ?_
      obtain ⟨v1, e1, h⟩ := bd_some h
      refine fx_i X (fx_runV (As := []) X (m_Log_freeSegments e1 _) hP hD kv_Chk_104 ⟨Nat.le_of_ble_eq_true rfl, Nat.le_of_ble_eq_true rfl⟩ 5 rfl rfl rfl hl.1 rfl (Nat.le_of_ble_eq_true rfl) d_Chk_take_50) hD hS (fun H locs hP hD hS => ?_)
      refine lv_aload_n hx hb d_Chk_take_53 rfl (lv_at hl 0 rfl) ?_
      obtain ⟨v2, e1, h⟩ := bd_some h
      refine fx_i X (fx_runV (As := []) X (m_Chk_mustBeFree e1 _) hP hD kv_Chk_107 ⟨Nat.le_of_ble_eq_true rfl, Nat.le_of_ble_eq_true rfl⟩ 9 rfl rfl rfl hl.1 rfl (Nat.le_of_ble_eq_true rfl) d_Chk_take_54) hD hS (fun H locs hP hD hS => ?_)
      refine lv_icmp_ge (tgt := 97) hx hb d_Chk_take_57 (by decide) (fun hc => ?_) (fun hc => ?_)
      · have h := if_t hc h
        cases h
        exact fx_vret X hP hD hS d_Chk_take_97
      · have h := if_f hc h
        refine lv_aload_n hx hb d_Chk_take_60 rfl (lv_at hl 0 rfl) ?_
        refine gF_chk_cleaner X hP d_Chk_take_61 ?_
        refine lv_bipush (v := 16) hx hb d_Chk_take_64 (by decide) ?_
        refine lv_aload_n hx hb d_Chk_take_66 rfl (lv_at hl 0 rfl) ?_
        refine gF_chk_log X hP d_Chk_take_67 ?_
        obtain ⟨v3, e1, h⟩ := bd_some h
        refine fx_i X (fx_runV (As := []) X (m_Log_freeSegments e1 _) hP hD kv_Chk_104 ⟨Nat.le_of_ble_eq_true rfl, Nat.le_of_ble_eq_true rfl⟩ 5 rfl rfl rfl hl.1 rfl (Nat.le_of_ble_eq_true rfl) d_Chk_take_70) hD hS (fun H locs hP hD hS => ?_)
        refine lv_iconst (v := 2) hx hb d_Chk_take_73 (by decide) ?_
        refine lv_isub hx hb d_Chk_take_74 ?_
        refine lv_imul hx hb d_Chk_take_75 ?_
        refine lv_bipush (v := 32) hx hb d_Chk_take_76 (by decide) ?_
        obtain ⟨p4, e1, h⟩ := bd_some h
        refine fx_i X (fx_runV (As := [.int ((16 : Int32) * (v3 - (2 : Int32))), .int (32 : Int32)]) X (m_Cle_emptySegments e1 _) hP hD kv_Chk_110 ⟨Nat.le_of_ble_eq_true rfl, Nat.le_of_ble_eq_true rfl⟩ 8 rfl rfl rfl hl.1 rfl (Nat.le_of_ble_eq_true rfl) d_Chk_take_78) hD hS (fun H locs hP hD hS => ?_)
        refine lv_if_ne (tgt := 87) hx hb d_Chk_take_81 (by decide) (fun hc => ?_) (fun hc => ?_)
        · have h := if_f hc h
          refine lv_aload_n hx hb d_Chk_take_87 rfl (lv_at hl 0 rfl) ?_
          obtain ⟨p5, e1, h⟩ := bd_some h
          refine fx_v X (fx_runV (As := []) X (m_Chk_commit e1 _) hP hD kv_Chk_98 ⟨Nat.le_of_ble_eq_true rfl, Nat.le_of_ble_eq_true rfl⟩ 9 rfl rfl rfl hl.1 rfl (Nat.le_of_ble_eq_true rfl) d_Chk_take_88) hD hS (fun H locs hP hD hS => ?_)
          refine lv_iinc (k := 1) (v := (y1 + (1 : Int32))) hx hb d_Chk_take_91 hl rfl (oi_1 _) (by decide) rfl (fun ls hl => ?_)
          have hl : lv_has ls 2 [(1, .int (y1 + (1 : Int32))), (0, .ref (ad 9))] := hl
          refine lv_goto (tgt := 39) hx hb d_Chk_take_94 (by decide) ?_
          exact ih _ _ _ _ _ hP hD hS (lv_sub hl [1, 0] rfl) h
        · have h := if_t hc h
          refine lv_goto (tgt := 97) hx hb d_Chk_take_84 (by decide) ?_
          cases h
          exact fx_vret X hP hD hS d_Chk_take_97
set_option maxHeartbeats 4000000 in
set_option maxRecDepth 100000 in
theorem m_Chk_take {l : Launch} {D : va_G} {ad : Nat → Nat} {ca : Nat → ClassId} {FU : Nat} {g : St} {q : St} (h : Chk_take FU  g = some q) : CV l ⟨"FlashFiles$Checkpoints", "take", "()V"⟩ prog_2_method_10_code 2 8 D (tyF ca) (wF ad ca g) [.ref (ad 9)] (wF ad ca q) := by
  intro sz
  refine Met.fx (Qc := fun A => fxQv D (tyF ca) A (wF ad ca q)) (by decide) (Nat.le_of_ble_eq_true rfl) ?_
  intro p e s m below meth c A ls X hP hD hl
  have hl : lv_has ls 2 [(0, .ref (ad 9))] := hl
  have hS : va_S A s.heap s.heap [] := va_S.rf
  have hx := X.1
  have hb := X.2.1
  unfold Chk_take at h
  refine lv_aload_n hx hb d_Chk_take_0 rfl (lv_at hl 0 rfl) ?_
  refine lv_dup hx hb d_Chk_take_1 rfl ?_
  refine gF_chk_taken X hP d_Chk_take_2 ?_
  refine lv_iconst (v := 1) hx hb d_Chk_take_5 (by decide) ?_
  refine lv_iadd hx hb d_Chk_take_6 ?_
  obtain ⟨g6, e1, h⟩ := nx_some h
  refine uF_chk_taken X hP hD hS e1 d_Chk_take_7 (fun H locs hP hD hS => ?_)
  refine lv_aload_n hx hb d_Chk_take_10 rfl (lv_at hl 0 rfl) ?_
  refine lv_aload_n hx hb d_Chk_take_11 rfl (lv_at hl 0 rfl) ?_
  refine gF_chk_tree X hP d_Chk_take_12 ?_
  obtain ⟨v7, e1, h⟩ := bd_some h
  refine fx_i X (fx_runV (As := []) X (m_Tre_blocksInUse e1 _) hP hD kv_Chk_92 ⟨Nat.le_of_ble_eq_true rfl, Nat.le_of_ble_eq_true rfl⟩ 7 rfl rfl rfl hl.1 rfl (Nat.le_of_ble_eq_true rfl) d_Chk_take_15) hD hS (fun H locs hP hD hS => ?_)
  obtain ⟨g8, e1, h⟩ := nx_some h
  refine uF_chk_used X hP hD hS e1 d_Chk_take_18 (fun H locs hP hD hS => ?_)
  refine lv_aload_n hx hb d_Chk_take_21 rfl (lv_at hl 0 rfl) ?_
  refine lv_iconst (v := 0) hx hb d_Chk_take_22 (by decide) ?_
  obtain ⟨g9, e1, h⟩ := nx_some h
  refine uF_chk_fresh X hP hD hS e1 d_Chk_take_23 (fun H locs hP hD hS => ?_)
  refine lv_aload_n hx hb d_Chk_take_26 rfl (lv_at hl 0 rfl) ?_
  obtain ⟨p10, e1, h⟩ := bd_some h
  refine fx_v X (fx_runV (As := []) X (m_Chk_commit e1 _) hP hD kv_Chk_98 ⟨Nat.le_of_ble_eq_true rfl, Nat.le_of_ble_eq_true rfl⟩ 9 rfl rfl rfl hl.1 rfl (Nat.le_of_ble_eq_true rfl) d_Chk_take_27) hD hS (fun H locs hP hD hS => ?_)
  refine lv_aload_n hx hb d_Chk_take_30 rfl (lv_at hl 0 rfl) ?_
  refine gF_chk_table X hP d_Chk_take_31 ?_
  obtain ⟨p11, e1, h⟩ := bd_some h
  refine fx_v X (fx_runV (As := []) X (m_Tab_settle e1 _) hP hD kv_Chk_101 ⟨Nat.le_of_ble_eq_true rfl, Nat.le_of_ble_eq_true rfl⟩ 4 rfl rfl rfl hl.1 rfl (Nat.le_of_ble_eq_true rfl) d_Chk_take_34) hD hS (fun H locs hP hD hS => ?_)
  refine lv_iconst (v := 0) hx hb d_Chk_take_37 (by decide) ?_
  refine lv_istore_n hx hb d_Chk_take_38 rfl hl (by decide) rfl (fun ls hl => ?_)
  have hl : lv_has ls 2 [(1, .int (0 : Int32)), (0, .ref (ad 9))] := hl
  exact v_Chk_take_39 X  _ _ _ _ _ _ hP hD hS (lv_sub hl [1, 0] rfl) h
theorem d_Chk_cleanWithin_0 : decode prog_2_method_12_code 0 = .ok (.aload_n 0, 1) := by decide +kernel
theorem d_Chk_cleanWithin_1 : decode prog_2_method_12_code 1 = .ok (.getfield 19, 3) := by decide +kernel
theorem d_Chk_cleanWithin_4 : decode prog_2_method_12_code 4 = .ok (.invokevirtual 104, 3) := by decide +kernel
theorem d_Chk_cleanWithin_7 : decode prog_2_method_12_code 7 = .ok (.aload_n 0, 1) := by decide +kernel
theorem d_Chk_cleanWithin_8 : decode prog_2_method_12_code 8 = .ok (.invokevirtual 107, 3) := by decide +kernel
theorem d_Chk_cleanWithin_11 : decode prog_2_method_12_code 11 = .ok (.isub, 1) := by decide +kernel
theorem d_Chk_cleanWithin_12 : decode prog_2_method_12_code 12 = .ok (.iconst 2, 1) := by decide +kernel
theorem d_Chk_cleanWithin_13 : decode prog_2_method_12_code 13 = .ok (.isub, 1) := by decide +kernel
theorem d_Chk_cleanWithin_14 : decode prog_2_method_12_code 14 = .ok (.istore_n 1, 1) := by decide +kernel
theorem d_Chk_cleanWithin_15 : decode prog_2_method_12_code 15 = .ok (.iload_n 1, 1) := by decide +kernel
theorem d_Chk_cleanWithin_16 : decode prog_2_method_12_code 16 = .ok (.ifCond .le 17, 3) := by decide +kernel
theorem d_Chk_cleanWithin_19 : decode prog_2_method_12_code 19 = .ok (.aload_n 0, 1) := by decide +kernel
theorem d_Chk_cleanWithin_20 : decode prog_2_method_12_code 20 = .ok (.getfield 27, 3) := by decide +kernel
theorem d_Chk_cleanWithin_23 : decode prog_2_method_12_code 23 = .ok (.bipush 16, 2) := by decide +kernel
theorem d_Chk_cleanWithin_25 : decode prog_2_method_12_code 25 = .ok (.iload_n 1, 1) := by decide +kernel
theorem d_Chk_cleanWithin_26 : decode prog_2_method_12_code 26 = .ok (.imul, 1) := by decide +kernel
theorem d_Chk_cleanWithin_27 : decode prog_2_method_12_code 27 = .ok (.bipush 8, 2) := by decide +kernel
theorem d_Chk_cleanWithin_29 : decode prog_2_method_12_code 29 = .ok (.invokevirtual 110, 3) := by decide +kernel
theorem d_Chk_cleanWithin_32 : decode prog_2_method_12_code 32 = .ok (.pop, 1) := by decide +kernel
theorem d_Chk_cleanWithin_33 : decode prog_2_method_12_code 33 = .ok (.return_, 1) := by decide +kernel
set_option maxHeartbeats 4000000 in
set_option maxRecDepth 100000 in
theorem m_Chk_cleanWithin {l : Launch} {D : va_G} {ad : Nat → Nat} {ca : Nat → ClassId} {FU : Nat} {g : St} {q : St} (h : Chk_cleanWithin FU  g = some q) : CV l ⟨"FlashFiles$Checkpoints", "cleanWithin", "()V"⟩ prog_2_method_12_code 2 6 D (tyF ca) (wF ad ca g) [.ref (ad 9)] (wF ad ca q) := by
  intro sz
  refine Met.fx (Qc := fun A => fxQv D (tyF ca) A (wF ad ca q)) (by decide) (Nat.le_of_ble_eq_true rfl) ?_
  intro p e s m below meth c A ls X hP hD hl
  have hl : lv_has ls 2 [(0, .ref (ad 9))] := hl
  have hS : va_S A s.heap s.heap [] := va_S.rf
  have hx := X.1
  have hb := X.2.1
  unfold Chk_cleanWithin at h
  refine lv_aload_n hx hb d_Chk_cleanWithin_0 rfl (lv_at hl 0 rfl) ?_
  refine gF_chk_log X hP d_Chk_cleanWithin_1 ?_
  obtain ⟨v1, e1, h⟩ := bd_some h
  refine fx_i X (fx_runV (As := []) X (m_Log_freeSegments e1 _) hP hD kv_Chk_104 ⟨Nat.le_of_ble_eq_true rfl, Nat.le_of_ble_eq_true rfl⟩ 5 rfl rfl rfl hl.1 rfl (Nat.le_of_ble_eq_true rfl) d_Chk_cleanWithin_4) hD hS (fun H locs hP hD hS => ?_)
  refine lv_aload_n hx hb d_Chk_cleanWithin_7 rfl (lv_at hl 0 rfl) ?_
  obtain ⟨v2, e1, h⟩ := bd_some h
  refine fx_i X (fx_runV (As := []) X (m_Chk_mustBeFree e1 _) hP hD kv_Chk_107 ⟨Nat.le_of_ble_eq_true rfl, Nat.le_of_ble_eq_true rfl⟩ 9 rfl rfl rfl hl.1 rfl (Nat.le_of_ble_eq_true rfl) d_Chk_cleanWithin_8) hD hS (fun H locs hP hD hS => ?_)
  refine lv_isub hx hb d_Chk_cleanWithin_11 ?_
  refine lv_iconst (v := 2) hx hb d_Chk_cleanWithin_12 (by decide) ?_
  refine lv_isub hx hb d_Chk_cleanWithin_13 ?_
  refine lv_istore_n hx hb d_Chk_cleanWithin_14 rfl hl (by decide) rfl (fun ls hl => ?_)
  have hl : lv_has ls 2 [(1, .int ((v1 - v2) - (2 : Int32))), (0, .ref (ad 9))] := hl
  refine lv_iload_n hx hb d_Chk_cleanWithin_15 rfl (lv_at hl 0 rfl) ?_
  refine lv_if_le (tgt := 33) hx hb d_Chk_cleanWithin_16 (by decide) (fun hc => ?_) (fun hc => ?_)
  · have h := if_t hc h
    cases h
    exact fx_vret X hP hD hS d_Chk_cleanWithin_33
  · have h := if_f hc h
    refine lv_aload_n hx hb d_Chk_cleanWithin_19 rfl (lv_at hl 1 rfl) ?_
    refine gF_chk_cleaner X hP d_Chk_cleanWithin_20 ?_
    refine lv_bipush (v := 16) hx hb d_Chk_cleanWithin_23 (by decide) ?_
    refine lv_iload_n hx hb d_Chk_cleanWithin_25 rfl (lv_at hl 0 rfl) ?_
    refine lv_imul hx hb d_Chk_cleanWithin_26 ?_
    refine lv_bipush (v := 8) hx hb d_Chk_cleanWithin_27 (by decide) ?_
    obtain ⟨p3, e1, h⟩ := bd_some h
    refine fx_i X (fx_runV (As := [.int ((16 : Int32) * ((v1 - v2) - (2 : Int32))), .int (8 : Int32)]) X (m_Cle_emptySegments e1 _) hP hD kv_Chk_110 ⟨Nat.le_of_ble_eq_true rfl, Nat.le_of_ble_eq_true rfl⟩ 8 rfl rfl rfl hl.1 rfl (Nat.le_of_ble_eq_true rfl) d_Chk_cleanWithin_29) hD hS (fun H locs hP hD hS => ?_)
    refine lv_pop hx hb d_Chk_cleanWithin_32 rfl ?_
    cases h
    exact fx_vret X hP hD hS d_Chk_cleanWithin_33
theorem d_Chk_storePart_0 : decode prog_2_method_14_code 0 = .ok (.aload_n 0, 1) := by decide +kernel
theorem d_Chk_storePart_1 : decode prog_2_method_14_code 1 = .ok (.invokevirtual 121, 3) := by decide +kernel
theorem d_Chk_storePart_4 : decode prog_2_method_14_code 4 = .ok (.aload_n 0, 1) := by decide +kernel
theorem d_Chk_storePart_5 : decode prog_2_method_14_code 5 = .ok (.iload_n 1, 1) := by decide +kernel
theorem d_Chk_storePart_6 : decode prog_2_method_14_code 6 = .ok (.bipush 33, 2) := by decide +kernel
theorem d_Chk_storePart_8 : decode prog_2_method_14_code 8 = .ok (.invokestatic 133, 3) := by decide +kernel
theorem d_Chk_storePart_11 : decode prog_2_method_14_code 11 = .ok (.invokevirtual 124, 3) := by decide +kernel
theorem d_Chk_storePart_14 : decode prog_2_method_14_code 14 = .ok (.return_, 1) := by decide +kernel
set_option maxHeartbeats 4000000 in
set_option maxRecDepth 100000 in
theorem m_Chk_storePart {l : Launch} {D : va_G} {ad : Nat → Nat} {ca : Nat → ClassId} {FU : Nat} {x1 : Int32} {g : St} {q : St} (h : Chk_storePart FU x1 g = some q) : CV l ⟨"FlashFiles$Checkpoints", "storePart", "(I)V"⟩ prog_2_method_14_code 2 6 D (tyF ca) (wF ad ca g) [.ref (ad 9), .int x1] (wF ad ca q) := by
  intro sz
  refine Met.fx (Qc := fun A => fxQv D (tyF ca) A (wF ad ca q)) (by decide) (Nat.le_of_ble_eq_true rfl) ?_
  intro p e s m below meth c A ls X hP hD hl
  have hl : lv_has ls 2 [(0, .ref (ad 9)), (1, .int x1)] := hl
  have hS : va_S A s.heap s.heap [] := va_S.rf
  have hx := X.1
  have hb := X.2.1
  unfold Chk_storePart at h
  refine lv_aload_n hx hb d_Chk_storePart_0 rfl (lv_at hl 0 rfl) ?_
  obtain ⟨p1, e1, h⟩ := bd_some h
  refine fx_v X (fx_runV (As := []) X (m_Chk_fillPack e1 _) hP hD kv_Chk_121 ⟨Nat.le_of_ble_eq_true rfl, Nat.le_of_ble_eq_true rfl⟩ 9 rfl rfl rfl hl.1 rfl (Nat.le_of_ble_eq_true rfl) d_Chk_storePart_1) hD hS (fun H locs hP hD hS => ?_)
  refine lv_aload_n hx hb d_Chk_storePart_4 rfl (lv_at hl 0 rfl) ?_
  refine lv_iload_n hx hb d_Chk_storePart_5 rfl (lv_at hl 1 rfl) ?_
  refine lv_bipush (v := 33) hx hb d_Chk_storePart_6 (by decide) ?_
  refine va_mmin hx hb (X.2.2.1.trans hl.1.symm) X.2.2.2.2.2.1 (X.2.2.2.2.2.2.1.use q5_66) (X.2.2.2.2.2.2.1.use q2_193) (X.2.2.2.2.2.2.1.use q1_16) (X.2.2.2.2.2.2.1.use math_min) (Nat.le_of_ble_eq_true rfl) (Nat.le_of_ble_eq_true rfl) (Nat.zero_le _) (Nat.zero_le _) d_Chk_storePart_8 ?_
  obtain ⟨p2, e1, h⟩ := bd_some h
  refine fx_v X (fx_runV (As := [.int (if (33 : Int32) < x1 then (33 : Int32) else x1)]) X (m_Chk_storeBlocks e1 _) hP hD kv_Chk_124 ⟨Nat.le_of_ble_eq_true rfl, Nat.le_of_ble_eq_true rfl⟩ 9 rfl rfl rfl hl.1 rfl (Nat.le_of_ble_eq_true rfl) d_Chk_storePart_11) hD hS (fun H locs hP hD hS => ?_)
  cases h
  exact fx_vret X hP hD hS d_Chk_storePart_14
theorem d_Chk_wholeSerial_0 : decode prog_2_method_17_code 0 = .ok (.iload_n 1, 1) := by decide +kernel
theorem d_Chk_wholeSerial_1 : decode prog_2_method_17_code 1 = .ok (.invokestatic 136, 3) := by decide +kernel
theorem d_Chk_wholeSerial_4 : decode prog_2_method_17_code 4 = .ok (.istore_n 2, 1) := by decide +kernel
theorem d_Chk_wholeSerial_5 : decode prog_2_method_17_code 5 = .ok (.aload_n 0, 1) := by decide +kernel
theorem d_Chk_wholeSerial_6 : decode prog_2_method_17_code 6 = .ok (.getfield 9, 3) := by decide +kernel
theorem d_Chk_wholeSerial_9 : decode prog_2_method_17_code 9 = .ok (.iload_n 2, 1) := by decide +kernel
theorem d_Chk_wholeSerial_10 : decode prog_2_method_17_code 10 = .ok (.iconst 0, 1) := by decide +kernel
theorem d_Chk_wholeSerial_11 : decode prog_2_method_17_code 11 = .ok (.invokevirtual 84, 3) := by decide +kernel
theorem d_Chk_wholeSerial_14 : decode prog_2_method_17_code 14 = .ok (.istore_n 3, 1) := by decide +kernel
theorem d_Chk_wholeSerial_15 : decode prog_2_method_17_code 15 = .ok (.aload_n 0, 1) := by decide +kernel
theorem d_Chk_wholeSerial_16 : decode prog_2_method_17_code 16 = .ok (.getfield 9, 3) := by decide +kernel
theorem d_Chk_wholeSerial_19 : decode prog_2_method_17_code 19 = .ok (.iload_n 2, 1) := by decide +kernel
theorem d_Chk_wholeSerial_20 : decode prog_2_method_17_code 20 = .ok (.bipush 34, 2) := by decide +kernel
theorem d_Chk_wholeSerial_22 : decode prog_2_method_17_code 22 = .ok (.iadd, 1) := by decide +kernel
theorem d_Chk_wholeSerial_23 : decode prog_2_method_17_code 23 = .ok (.iconst 1, 1) := by decide +kernel
theorem d_Chk_wholeSerial_24 : decode prog_2_method_17_code 24 = .ok (.isub, 1) := by decide +kernel
theorem d_Chk_wholeSerial_25 : decode prog_2_method_17_code 25 = .ok (.iconst 0, 1) := by decide +kernel
theorem d_Chk_wholeSerial_26 : decode prog_2_method_17_code 26 = .ok (.invokevirtual 84, 3) := by decide +kernel
theorem d_Chk_wholeSerial_29 : decode prog_2_method_17_code 29 = .ok (.iload_n 3, 1) := by decide +kernel
theorem d_Chk_wholeSerial_30 : decode prog_2_method_17_code 30 = .ok (.if_icmp .ne 7, 3) := by decide +kernel
theorem d_Chk_wholeSerial_33 : decode prog_2_method_17_code 33 = .ok (.iload_n 3, 1) := by decide +kernel
theorem d_Chk_wholeSerial_34 : decode prog_2_method_17_code 34 = .ok (.goto 4, 3) := by decide +kernel
theorem d_Chk_wholeSerial_37 : decode prog_2_method_17_code 37 = .ok (.iconst 0, 1) := by decide +kernel
theorem d_Chk_wholeSerial_38 : decode prog_2_method_17_code 38 = .ok (.ireturn, 1) := by decide +kernel
set_option maxHeartbeats 4000000 in
set_option maxRecDepth 100000 in
theorem m_Chk_wholeSerial {l : Launch} {D : va_G} {ad : Nat → Nat} {ca : Nat → ClassId} {FU : Nat} {x1 : Int32} {g : St} {q : Int32} (h : Chk_wholeSerial FU x1 g = some q) : CI l ⟨"FlashFiles$Checkpoints", "wholeSerial", "(I)I"⟩ prog_2_method_17_code 4 2 (some .int) D (tyF ca) (wF ad ca g) [.ref (ad 9), .int x1] q (wF ad ca g) := by
  intro sz
  refine Met.fx (Qc := fun A => fxQi D (tyF ca) A (wF ad ca g) q) (by decide) (Nat.le_of_ble_eq_true rfl) ?_
  intro p e s m below meth c A ls X hP hD hl
  have hl : lv_has ls 4 [(0, .ref (ad 9)), (1, .int x1)] := hl
  have hS : va_S A s.heap s.heap [] := va_S.rf
  have hx := X.1
  have hb := X.2.1
  unfold Chk_wholeSerial at h
  refine lv_iload_n hx hb d_Chk_wholeSerial_0 rfl (lv_at hl 1 rfl) ?_
  obtain ⟨v1, e1, h⟩ := bd_some h
  refine fx_i X (fx_runN X (m_FF_beginOfPack e1 _) (As := [.int x1]) hP hD kn_Chk_136 ⟨Nat.le_of_ble_eq_true rfl, Nat.le_of_ble_eq_true rfl⟩ rfl hl.1 rfl (Nat.le_of_ble_eq_true rfl) d_Chk_wholeSerial_1) hD hS (fun H locs hP hD hS => ?_)
  refine lv_istore_n hx hb d_Chk_wholeSerial_4 rfl hl (by decide) rfl (fun ls hl => ?_)
  have hl : lv_has ls 4 [(2, .int v1), (0, .ref (ad 9)), (1, .int x1)] := hl
  refine lv_aload_n hx hb d_Chk_wholeSerial_5 rfl (lv_at hl 1 rfl) ?_
  refine gF_chk_device X hP d_Chk_wholeSerial_6 ?_
  refine lv_iload_n hx hb d_Chk_wholeSerial_9 rfl (lv_at hl 0 rfl) ?_
  refine lv_iconst (v := 0) hx hb d_Chk_wholeSerial_10 (by decide) ?_
  obtain ⟨v2, e1, h⟩ := bd_some h
  refine fx_i X (fx_runV (As := [.int v1, .int (0 : Int32)]) X (m_Dev_word e1 _) hP hD kv_Chk_84 ⟨Nat.le_of_ble_eq_true rfl, Nat.le_of_ble_eq_true rfl⟩ 3 rfl rfl rfl hl.1 rfl (Nat.le_of_ble_eq_true rfl) d_Chk_wholeSerial_11) hD hS (fun H locs hP hD hS => ?_)
  refine lv_istore_n hx hb d_Chk_wholeSerial_14 rfl hl (by decide) rfl (fun ls hl => ?_)
  have hl : lv_has ls 4 [(3, .int v2), (2, .int v1), (0, .ref (ad 9)), (1, .int x1)] := hl
  refine lv_aload_n hx hb d_Chk_wholeSerial_15 rfl (lv_at hl 2 rfl) ?_
  refine gF_chk_device X hP d_Chk_wholeSerial_16 ?_
  refine lv_iload_n hx hb d_Chk_wholeSerial_19 rfl (lv_at hl 1 rfl) ?_
  refine lv_bipush (v := 34) hx hb d_Chk_wholeSerial_20 (by decide) ?_
  refine lv_iadd hx hb d_Chk_wholeSerial_22 ?_
  refine lv_iconst (v := 1) hx hb d_Chk_wholeSerial_23 (by decide) ?_
  refine lv_isub hx hb d_Chk_wholeSerial_24 ?_
  refine lv_iconst (v := 0) hx hb d_Chk_wholeSerial_25 (by decide) ?_
  obtain ⟨v3, e1, h⟩ := bd_some h
  refine fx_i X (fx_runV (As := [.int ((v1 + (34 : Int32)) - (1 : Int32)), .int (0 : Int32)]) X (m_Dev_word e1 _) hP hD kv_Chk_84 ⟨Nat.le_of_ble_eq_true rfl, Nat.le_of_ble_eq_true rfl⟩ 3 rfl rfl rfl hl.1 rfl (Nat.le_of_ble_eq_true rfl) d_Chk_wholeSerial_26) hD hS (fun H locs hP hD hS => ?_)
  refine lv_iload_n hx hb d_Chk_wholeSerial_29 rfl (lv_at hl 0 rfl) ?_
  refine lv_icmp_ne (tgt := 37) hx hb d_Chk_wholeSerial_30 (by decide) (fun hc => ?_) (fun hc => ?_)
  · have h := if_f hc h
    refine lv_iconst (v := 0) hx hb d_Chk_wholeSerial_37 (by decide) ?_
    cases h
    exact fx_iret X hP hD hS d_Chk_wholeSerial_38
  · have h := if_t hc h
    refine lv_iload_n hx hb d_Chk_wholeSerial_33 rfl (lv_at hl 0 rfl) ?_
    refine lv_goto (tgt := 38) hx hb d_Chk_wholeSerial_34 (by decide) ?_
    cases h
    exact fx_iret X hP hD hS d_Chk_wholeSerial_38
theorem d_Chk_goesOn_0 : decode prog_2_method_19_code 0 = .ok (.aload_n 0, 1) := by decide +kernel
theorem d_Chk_goesOn_1 : decode prog_2_method_19_code 1 = .ok (.getfield 9, 3) := by decide +kernel
theorem d_Chk_goesOn_4 : decode prog_2_method_19_code 4 = .ok (.iload_n 1, 1) := by decide +kernel
theorem d_Chk_goesOn_5 : decode prog_2_method_19_code 5 = .ok (.bipush 61, 2) := by decide +kernel
theorem d_Chk_goesOn_7 : decode prog_2_method_19_code 7 = .ok (.invokevirtual 84, 3) := by decide +kernel
theorem d_Chk_goesOn_10 : decode prog_2_method_19_code 10 = .ok (.istore_n 2, 1) := by decide +kernel
theorem d_Chk_goesOn_11 : decode prog_2_method_19_code 11 = .ok (.iload_n 1, 1) := by decide +kernel
theorem d_Chk_goesOn_12 : decode prog_2_method_19_code 12 = .ok (.invokestatic 176, 3) := by decide +kernel
theorem d_Chk_goesOn_15 : decode prog_2_method_19_code 15 = .ok (.ifCond .lt 39, 3) := by decide +kernel
theorem d_Chk_goesOn_18 : decode prog_2_method_19_code 18 = .ok (.aload_n 0, 1) := by decide +kernel
theorem d_Chk_goesOn_19 : decode prog_2_method_19_code 19 = .ok (.getfield 9, 3) := by decide +kernel
theorem d_Chk_goesOn_22 : decode prog_2_method_19_code 22 = .ok (.iload_n 1, 1) := by decide +kernel
theorem d_Chk_goesOn_23 : decode prog_2_method_19_code 23 = .ok (.bipush 62, 2) := by decide +kernel
theorem d_Chk_goesOn_25 : decode prog_2_method_19_code 25 = .ok (.invokevirtual 84, 3) := by decide +kernel
theorem d_Chk_goesOn_28 : decode prog_2_method_19_code 28 = .ok (.aload_n 0, 1) := by decide +kernel
theorem d_Chk_goesOn_29 : decode prog_2_method_19_code 29 = .ok (.getfield 19, 3) := by decide +kernel
theorem d_Chk_goesOn_32 : decode prog_2_method_19_code 32 = .ok (.invokevirtual 127, 3) := by decide +kernel
theorem d_Chk_goesOn_35 : decode prog_2_method_19_code 35 = .ok (.if_icmp .ne 19, 3) := by decide +kernel
theorem d_Chk_goesOn_38 : decode prog_2_method_19_code 38 = .ok (.iload_n 2, 1) := by decide +kernel
theorem d_Chk_goesOn_39 : decode prog_2_method_19_code 39 = .ok (.iconst 1, 1) := by decide +kernel
theorem d_Chk_goesOn_40 : decode prog_2_method_19_code 40 = .ok (.if_icmp .lt 14, 3) := by decide +kernel
theorem d_Chk_goesOn_43 : decode prog_2_method_19_code 43 = .ok (.iload_n 2, 1) := by decide +kernel
theorem d_Chk_goesOn_44 : decode prog_2_method_19_code 44 = .ok (.sipush 250, 3) := by decide +kernel
theorem d_Chk_goesOn_47 : decode prog_2_method_19_code 47 = .ok (.if_icmp .gt 7, 3) := by decide +kernel
theorem d_Chk_goesOn_50 : decode prog_2_method_19_code 50 = .ok (.iconst 1, 1) := by decide +kernel
theorem d_Chk_goesOn_51 : decode prog_2_method_19_code 51 = .ok (.goto 4, 3) := by decide +kernel
theorem d_Chk_goesOn_54 : decode prog_2_method_19_code 54 = .ok (.iconst 0, 1) := by decide +kernel
theorem d_Chk_goesOn_55 : decode prog_2_method_19_code 55 = .ok (.ireturn, 1) := by decide +kernel
set_option maxHeartbeats 4000000 in
set_option maxRecDepth 100000 in
theorem m_Chk_goesOn {l : Launch} {D : va_G} {ad : Nat → Nat} {ca : Nat → ClassId} {FU : Nat} {x1 : Int32} {g : St} {q : Int32} (h : Chk_goesOn FU x1 g = some q) : CI l ⟨"FlashFiles$Checkpoints", "goesOn", "(I)Z"⟩ prog_2_method_19_code 3 2 (some .boolean) D (tyF ca) (wF ad ca g) [.ref (ad 9), .int x1] q (wF ad ca g) := by
  intro sz
  refine Met.fx (Qc := fun A => fxQi D (tyF ca) A (wF ad ca g) q) (by decide) (Nat.le_of_ble_eq_true rfl) ?_
  intro p e s m below meth c A ls X hP hD hl
  have hl : lv_has ls 3 [(0, .ref (ad 9)), (1, .int x1)] := hl
  have hS : va_S A s.heap s.heap [] := va_S.rf
  have hx := X.1
  have hb := X.2.1
  unfold Chk_goesOn at h
  refine lv_aload_n hx hb d_Chk_goesOn_0 rfl (lv_at hl 0 rfl) ?_
  refine gF_chk_device X hP d_Chk_goesOn_1 ?_
  refine lv_iload_n hx hb d_Chk_goesOn_4 rfl (lv_at hl 1 rfl) ?_
  refine lv_bipush (v := 61) hx hb d_Chk_goesOn_5 (by decide) ?_
  obtain ⟨v1, e1, h⟩ := bd_some h
  refine fx_i X (fx_runV (As := [.int x1, .int (61 : Int32)]) X (m_Dev_word e1 _) hP hD kv_Chk_84 ⟨Nat.le_of_ble_eq_true rfl, Nat.le_of_ble_eq_true rfl⟩ 3 rfl rfl rfl hl.1 rfl (Nat.le_of_ble_eq_true rfl) d_Chk_goesOn_7) hD hS (fun H locs hP hD hS => ?_)
  refine lv_istore_n hx hb d_Chk_goesOn_10 rfl hl (by decide) rfl (fun ls hl => ?_)
  have hl : lv_has ls 3 [(2, .int v1), (0, .ref (ad 9)), (1, .int x1)] := hl
  refine lv_iload_n hx hb d_Chk_goesOn_11 rfl (lv_at hl 2 rfl) ?_
  obtain ⟨v2, e1, h⟩ := bd_some h
  refine fx_i X (fx_runN X (m_FF_segmentOf e1 _) (As := [.int x1]) hP hD kn_Chk_176 ⟨Nat.le_of_ble_eq_true rfl, Nat.le_of_ble_eq_true rfl⟩ rfl hl.1 rfl (Nat.le_of_ble_eq_true rfl) d_Chk_goesOn_12) hD hS (fun H locs hP hD hS => ?_)
  refine lv_if_lt (tgt := 54) hx hb d_Chk_goesOn_15 (by decide) (fun hc => ?_) (fun hc => ?_)
  · have h := if_t hc h
    refine lv_iconst (v := 0) hx hb d_Chk_goesOn_54 (by decide) ?_
    cases h
    exact fx_zret X hP hD hS (Or.inl rfl) d_Chk_goesOn_55
  · have h := if_f hc h
    refine lv_aload_n hx hb d_Chk_goesOn_18 rfl (lv_at hl 1 rfl) ?_
    refine gF_chk_device X hP d_Chk_goesOn_19 ?_
    refine lv_iload_n hx hb d_Chk_goesOn_22 rfl (lv_at hl 2 rfl) ?_
    refine lv_bipush (v := 62) hx hb d_Chk_goesOn_23 (by decide) ?_
    obtain ⟨v3, e1, h⟩ := bd_some h
    refine fx_i X (fx_runV (As := [.int x1, .int (62 : Int32)]) X (m_Dev_word e1 _) hP hD kv_Chk_84 ⟨Nat.le_of_ble_eq_true rfl, Nat.le_of_ble_eq_true rfl⟩ 3 rfl rfl rfl hl.1 rfl (Nat.le_of_ble_eq_true rfl) d_Chk_goesOn_25) hD hS (fun H locs hP hD hS => ?_)
    refine lv_aload_n hx hb d_Chk_goesOn_28 rfl (lv_at hl 1 rfl) ?_
    refine gF_chk_log X hP d_Chk_goesOn_29 ?_
    obtain ⟨v4, e1, h⟩ := bd_some h
    refine fx_i X (fx_runV (As := []) X (m_Log_serial e1 _) hP hD kv_Chk_127 ⟨Nat.le_of_ble_eq_true rfl, Nat.le_of_ble_eq_true rfl⟩ 5 rfl rfl rfl hl.1 rfl (Nat.le_of_ble_eq_true rfl) d_Chk_goesOn_32) hD hS (fun H locs hP hD hS => ?_)
    refine lv_icmp_ne (tgt := 54) hx hb d_Chk_goesOn_35 (by decide) (fun hc => ?_) (fun hc => ?_)
    · have h := if_f hc h
      refine lv_iconst (v := 0) hx hb d_Chk_goesOn_54 (by decide) ?_
      cases h
      exact fx_zret X hP hD hS (Or.inl rfl) d_Chk_goesOn_55
    · have h := if_t hc h
      refine lv_iload_n hx hb d_Chk_goesOn_38 rfl (lv_at hl 0 rfl) ?_
      refine lv_iconst (v := 1) hx hb d_Chk_goesOn_39 (by decide) ?_
      refine lv_icmp_lt (tgt := 54) hx hb d_Chk_goesOn_40 (by decide) (fun hc => ?_) (fun hc => ?_)
      · have h := if_t hc h
        refine lv_iconst (v := 0) hx hb d_Chk_goesOn_54 (by decide) ?_
        cases h
        exact fx_zret X hP hD hS (Or.inl rfl) d_Chk_goesOn_55
      · have h := if_f hc h
        refine lv_iload_n hx hb d_Chk_goesOn_43 rfl (lv_at hl 0 rfl) ?_
        refine lv_sipush (v := 250) hx hb d_Chk_goesOn_44 (by decide) ?_
        refine lv_icmp_gt (tgt := 54) hx hb d_Chk_goesOn_47 (by decide) (fun hc => ?_) (fun hc => ?_)
        · have h := if_t hc h
          refine lv_iconst (v := 0) hx hb d_Chk_goesOn_54 (by decide) ?_
          cases h
          exact fx_zret X hP hD hS (Or.inl rfl) d_Chk_goesOn_55
        · have h := if_f hc h
          refine lv_iconst (v := 1) hx hb d_Chk_goesOn_50 (by decide) ?_
          refine lv_goto (tgt := 55) hx hb d_Chk_goesOn_51 (by decide) ?_
          cases h
          exact fx_zret X hP hD hS (Or.inr rfl) d_Chk_goesOn_55
theorem d_Chk_bringForward_0 : decode prog_2_method_21_code 0 = .ok (.iload_n 1, 1) := by decide +kernel
theorem d_Chk_bringForward_1 : decode prog_2_method_21_code 1 = .ok (.istore_n 2, 1) := by decide +kernel
theorem d_Chk_bringForward_2 : decode prog_2_method_21_code 2 = .ok (.iconst 1, 1) := by decide +kernel
theorem d_Chk_bringForward_3 : decode prog_2_method_21_code 3 = .ok (.istore_n 3, 1) := by decide +kernel
theorem d_Chk_bringForward_4 : decode prog_2_method_21_code 4 = .ok (.iload_n 3, 1) := by decide +kernel
theorem d_Chk_bringForward_5 : decode prog_2_method_21_code 5 = .ok (.sipush 2117, 3) := by decide +kernel
theorem d_Chk_bringForward_8 : decode prog_2_method_21_code 8 = .ok (.if_icmp .gt 65, 3) := by decide +kernel
theorem d_Chk_bringForward_11 : decode prog_2_method_21_code 11 = .ok (.aload_n 0, 1) := by decide +kernel
theorem d_Chk_bringForward_12 : decode prog_2_method_21_code 12 = .ok (.iload_n 2, 1) := by decide +kernel
theorem d_Chk_bringForward_13 : decode prog_2_method_21_code 13 = .ok (.invokevirtual 179, 3) := by decide +kernel
theorem d_Chk_bringForward_16 : decode prog_2_method_21_code 16 = .ok (.ifCond .eq 57, 3) := by decide +kernel
theorem d_Chk_bringForward_19 : decode prog_2_method_21_code 19 = .ok (.iload_n 3, 1) := by decide +kernel
theorem d_Chk_bringForward_20 : decode prog_2_method_21_code 20 = .ok (.aload_n 0, 1) := by decide +kernel
theorem d_Chk_bringForward_21 : decode prog_2_method_21_code 21 = .ok (.getfield 35, 3) := by decide +kernel
theorem d_Chk_bringForward_24 : decode prog_2_method_21_code 24 = .ok (.aload_n 0, 1) := by decide +kernel
theorem d_Chk_bringForward_25 : decode prog_2_method_21_code 25 = .ok (.getfield 9, 3) := by decide +kernel
theorem d_Chk_bringForward_28 : decode prog_2_method_21_code 28 = .ok (.iload_n 2, 1) := by decide +kernel
theorem d_Chk_bringForward_29 : decode prog_2_method_21_code 29 = .ok (.bipush 61, 2) := by decide +kernel
theorem d_Chk_bringForward_31 : decode prog_2_method_21_code 31 = .ok (.invokevirtual 84, 3) := by decide +kernel
theorem d_Chk_bringForward_34 : decode prog_2_method_21_code 34 = .ok (.iaload, 1) := by decide +kernel
theorem d_Chk_bringForward_35 : decode prog_2_method_21_code 35 = .ok (.if_icmp .gt 21, 3) := by decide +kernel
theorem d_Chk_bringForward_38 : decode prog_2_method_21_code 38 = .ok (.aload_n 0, 1) := by decide +kernel
theorem d_Chk_bringForward_39 : decode prog_2_method_21_code 39 = .ok (.getfield 15, 3) := by decide +kernel
theorem d_Chk_bringForward_42 : decode prog_2_method_21_code 42 = .ok (.aload_n 0, 1) := by decide +kernel
theorem d_Chk_bringForward_43 : decode prog_2_method_21_code 43 = .ok (.getfield 9, 3) := by decide +kernel
theorem d_Chk_bringForward_46 : decode prog_2_method_21_code 46 = .ok (.iload_n 2, 1) := by decide +kernel
theorem d_Chk_bringForward_47 : decode prog_2_method_21_code 47 = .ok (.bipush 60, 2) := by decide +kernel
theorem d_Chk_bringForward_49 : decode prog_2_method_21_code 49 = .ok (.invokevirtual 84, 3) := by decide +kernel
theorem d_Chk_bringForward_52 : decode prog_2_method_21_code 52 = .ok (.iload_n 2, 1) := by decide +kernel
theorem d_Chk_bringForward_53 : decode prog_2_method_21_code 53 = .ok (.invokevirtual 161, 3) := by decide +kernel
theorem d_Chk_bringForward_56 : decode prog_2_method_21_code 56 = .ok (.aload_n 0, 1) := by decide +kernel
theorem d_Chk_bringForward_57 : decode prog_2_method_21_code 57 = .ok (.getfield 9, 3) := by decide +kernel
theorem d_Chk_bringForward_60 : decode prog_2_method_21_code 60 = .ok (.iload_n 2, 1) := by decide +kernel
theorem d_Chk_bringForward_61 : decode prog_2_method_21_code 61 = .ok (.bipush 63, 2) := by decide +kernel
theorem d_Chk_bringForward_63 : decode prog_2_method_21_code 63 = .ok (.invokevirtual 84, 3) := by decide +kernel
theorem d_Chk_bringForward_66 : decode prog_2_method_21_code 66 = .ok (.istore_n 2, 1) := by decide +kernel
theorem d_Chk_bringForward_67 : decode prog_2_method_21_code 67 = .ok (.iinc 3 1, 3) := by decide +kernel
theorem d_Chk_bringForward_70 : decode prog_2_method_21_code 70 = .ok (.goto (-66), 3) := by decide +kernel
theorem d_Chk_bringForward_73 : decode prog_2_method_21_code 73 = .ok (.return_, 1) := by decide +kernel
set_option maxHeartbeats 4000000 in
set_option maxRecDepth 100000 in
theorem v_Chk_bringForward_56 {p : Program} {l : Launch} {e : Env} {s : State} {m : MethodId} {args : Array Value} {below : List Frame} {meth : Method} {c : Code} {D : va_G} {ad : Nat → Nat} {ca : Nat → ClassId} {A : Nat → Prop} {FU : Nat} {q : St} (X : FX p s m meth c prog_2_method_21_code 4 none "FlashFiles$Checkpoints" D (tyF ca) A) {k4 : Int32 → Int32 → St → Option (St)} (hk4 : ∀ (y2 y3 : Int32) (g : St) (H : Heap) (locs : List Loc) (ls : Array Slot), va_P D cls (wF ad ca g) H → va_D A (wF ad ca g) → va_S A s.heap H locs → lv_has ls 4 [(0, .ref (ad 9)), (2, .int y2), (3, .int y3)] → k4 y2 y3 g = some q → W p l e (rmN 3) s m args below meth c H locs 0 0 (MQ below (fxQv D (tyF ca) A (wF ad ca q)) args s 0 0 A) (F0 m 4 ls [])) {y2 : Int32} {y3 : Int32} {g : St} {H : Heap} {locs : List Loc} {ls : Array Slot} (hP : va_P D cls (wF ad ca g) H) (hD : va_D A (wF ad ca g)) (hS : va_S A s.heap H locs) (hl : lv_has ls 4 [(0, .ref (ad 9)), (2, .int y2), (3, .int y3)]) (h : Chk_bringForward_b56 FU k4 y2 y3 g = some q) : W p l e (rmN 3) s m args below meth c H locs 0 0 (MQ below (fxQv D (tyF ca) A (wF ad ca q)) args s 0 0 A) (F0 m 56 ls []) := by
  have hx := X.1
  have hb := X.2.1
  unfold Chk_bringForward_b56 at h
  refine lv_aload_n hx hb d_Chk_bringForward_56 rfl (lv_at hl 0 rfl) ?_
  refine gF_chk_device X hP d_Chk_bringForward_57 ?_
  refine lv_iload_n hx hb d_Chk_bringForward_60 rfl (lv_at hl 1 rfl) ?_
  refine lv_bipush (v := 63) hx hb d_Chk_bringForward_61 (by decide) ?_
  obtain ⟨v1, e1, h⟩ := bd_some h
  refine fx_i X (fx_runV (As := [.int y2, .int (63 : Int32)]) X (m_Dev_word e1 _) hP hD kv_Chk_84 ⟨Nat.le_of_ble_eq_true rfl, Nat.le_of_ble_eq_true rfl⟩ 3 rfl rfl rfl hl.1 rfl (Nat.le_of_ble_eq_true rfl) d_Chk_bringForward_63) hD hS (fun H locs hP hD hS => ?_)
  refine lv_istore_n hx hb d_Chk_bringForward_66 rfl hl (by decide) rfl (fun ls hl => ?_)
  have hl : lv_has ls 4 [(2, .int v1), (0, .ref (ad 9)), (3, .int y3)] := hl
  refine lv_iinc (k := 2) (v := (y3 + (1 : Int32))) hx hb d_Chk_bringForward_67 hl rfl (oi_1 _) (by decide) rfl (fun ls hl => ?_)
  have hl : lv_has ls 4 [(3, .int (y3 + (1 : Int32))), (2, .int v1), (0, .ref (ad 9))] := hl
  refine lv_goto (tgt := 4) hx hb d_Chk_bringForward_70 (by decide) ?_
  exact hk4 _ _ _ _ _ _ hP hD hS (lv_sub hl [2, 1, 0] rfl) h
set_option maxHeartbeats 4000000 in
set_option maxRecDepth 100000 in
theorem v_Chk_bringForward_4 {p : Program} {l : Launch} {e : Env} {s : State} {m : MethodId} {args : Array Value} {below : List Frame} {meth : Method} {c : Code} {D : va_G} {ad : Nat → Nat} {ca : Nat → ClassId} {A : Nat → Prop} {FU : Nat} {q : St} (X : FX p s m meth c prog_2_method_21_code 4 none "FlashFiles$Checkpoints" D (tyF ca) A) : ∀ (n : Nat), ∀ (y2 y3 : Int32) (g : St) (H : Heap) (locs : List Loc) (ls : Array Slot), va_P D cls (wF ad ca g) H → va_D A (wF ad ca g) → va_S A s.heap H locs → lv_has ls 4 [(0, .ref (ad 9)), (2, .int y2), (3, .int y3)] → Chk_bringForward_b4 FU n y2 y3 g = some q → W p l e (rmN 3) s m args below meth c H locs 0 0 (MQ below (fxQv D (tyF ca) A (wF ad ca q)) args s 0 0 A) (F0 m 4 ls []) := by
  have hx := X.1
  have hb := X.2.1
  intro n
  induction n with
  | zero =>
    intro y2 y3 g H locs ls hP hD hS hl h
    cases h
  | succ n ih =>
    intro y2 y3 g H locs ls hP hD hS hl h
    have h := h
    rw [Chk_bringForward_b4.eq_2] at h
    refine lv_iload_n hx hb d_Chk_bringForward_4 rfl (lv_at hl 2 rfl) ?_
    refine lv_sipush (v := 2117) hx hb d_Chk_bringForward_5 (by decide) ?_
    refine lv_icmp_gt (tgt := 73) hx hb d_Chk_bringForward_8 (by decide) (fun hc => ?_) (fun hc => ?_)
    · have h := if_t hc h
      cases h
      exact fx_vret X hP hD hS d_Chk_bringForward_73
    · have h := if_f hc h
      refine lv_aload_n hx hb d_Chk_bringForward_11 rfl (lv_at hl 0 rfl) ?_
      refine lv_iload_n hx hb d_Chk_bringForward_12 rfl (lv_at hl 1 rfl) ?_
      obtain ⟨v2, e1, h⟩ := bd_some h
      refine fx_i X (fx_runV (As := [.int y2]) X (m_Chk_goesOn e1 _) hP hD kv_Chk_179 ⟨Nat.le_of_ble_eq_true rfl, Nat.le_of_ble_eq_true rfl⟩ 9 rfl rfl rfl hl.1 rfl (Nat.le_of_ble_eq_true rfl) d_Chk_bringForward_13) hD hS (fun H locs hP hD hS => ?_)
      refine lv_if_eq (tgt := 73) hx hb d_Chk_bringForward_16 (by decide) (fun hc => ?_) (fun hc => ?_)
      · have h := if_t hc h
        cases h
        exact fx_vret X hP hD hS d_Chk_bringForward_73
      · have h := if_f hc h
        refine lv_iload_n hx hb d_Chk_bringForward_19 rfl (lv_at hl 2 rfl) ?_
        refine lv_aload_n hx hb d_Chk_bringForward_20 rfl (lv_at hl 0 rfl) ?_
        refine gF_chk_lastMark X hP d_Chk_bringForward_21 ?_
        refine lv_aload_n hx hb d_Chk_bringForward_24 rfl (lv_at hl 0 rfl) ?_
        refine gF_chk_device X hP d_Chk_bringForward_25 ?_
        refine lv_iload_n hx hb d_Chk_bringForward_28 rfl (lv_at hl 1 rfl) ?_
        refine lv_bipush (v := 61) hx hb d_Chk_bringForward_29 (by decide) ?_
        obtain ⟨v3, e1, h⟩ := bd_some h
        refine fx_i X (fx_runV (As := [.int y2, .int (61 : Int32)]) X (m_Dev_word e1 _) hP hD kv_Chk_84 ⟨Nat.le_of_ble_eq_true rfl, Nat.le_of_ble_eq_true rfl⟩ 3 rfl rfl rfl hl.1 rfl (Nat.le_of_ble_eq_true rfl) d_Chk_bringForward_31) hD hS (fun H locs hP hD hS => ?_)
        obtain ⟨v4, e1, h⟩ := bd_some h
        refine rF_23 X hP e1 d_Chk_bringForward_34 ?_
        refine lv_icmp_gt (tgt := 56) hx hb d_Chk_bringForward_35 (by decide) (fun hc => ?_) (fun hc => ?_)
        · have h := if_t hc h
          exact v_Chk_bringForward_56 X ih hP hD hS (lv_sub hl [0, 1, 2] rfl) h
        · have h := if_f hc h
          refine lv_aload_n hx hb d_Chk_bringForward_38 rfl (lv_at hl 0 rfl) ?_
          refine gF_chk_table X hP d_Chk_bringForward_39 ?_
          refine lv_aload_n hx hb d_Chk_bringForward_42 rfl (lv_at hl 0 rfl) ?_
          refine gF_chk_device X hP d_Chk_bringForward_43 ?_
          refine lv_iload_n hx hb d_Chk_bringForward_46 rfl (lv_at hl 1 rfl) ?_
          refine lv_bipush (v := 60) hx hb d_Chk_bringForward_47 (by decide) ?_
          obtain ⟨v5, e1, h⟩ := bd_some h
          refine fx_i X (fx_runV (As := [.int y2, .int (60 : Int32)]) X (m_Dev_word e1 _) hP hD kv_Chk_84 ⟨Nat.le_of_ble_eq_true rfl, Nat.le_of_ble_eq_true rfl⟩ 3 rfl rfl rfl hl.1 rfl (Nat.le_of_ble_eq_true rfl) d_Chk_bringForward_49) hD hS (fun H locs hP hD hS => ?_)
          refine lv_iload_n hx hb d_Chk_bringForward_52 rfl (lv_at hl 1 rfl) ?_
          obtain ⟨p6, e1, h⟩ := bd_some h
          refine fx_v X (fx_runV (As := [.int v5, .int y2]) X (m_Tab_setPlace e1 _) hP hD kv_Chk_161 ⟨Nat.le_of_ble_eq_true rfl, Nat.le_of_ble_eq_true rfl⟩ 4 rfl rfl rfl hl.1 rfl (Nat.le_of_ble_eq_true rfl) d_Chk_bringForward_53) hD hS (fun H locs hP hD hS => ?_)
          exact v_Chk_bringForward_56 X ih hP hD hS (lv_sub hl [0, 1, 2] rfl) h
set_option maxHeartbeats 4000000 in
set_option maxRecDepth 100000 in
theorem m_Chk_bringForward {l : Launch} {D : va_G} {ad : Nat → Nat} {ca : Nat → ClassId} {FU : Nat} {x1 : Int32} {g : St} {q : St} (h : Chk_bringForward FU x1 g = some q) : CV l ⟨"FlashFiles$Checkpoints", "bringForward", "(I)V"⟩ prog_2_method_21_code 4 3 D (tyF ca) (wF ad ca g) [.ref (ad 9), .int x1] (wF ad ca q) := by
  intro sz
  refine Met.fx (Qc := fun A => fxQv D (tyF ca) A (wF ad ca q)) (by decide) (Nat.le_of_ble_eq_true rfl) ?_
  intro p e s m below meth c A ls X hP hD hl
  have hl : lv_has ls 4 [(0, .ref (ad 9)), (1, .int x1)] := hl
  have hS : va_S A s.heap s.heap [] := va_S.rf
  have hx := X.1
  have hb := X.2.1
  unfold Chk_bringForward at h
  refine lv_iload_n hx hb d_Chk_bringForward_0 rfl (lv_at hl 1 rfl) ?_
  refine lv_istore_n hx hb d_Chk_bringForward_1 rfl hl (by decide) rfl (fun ls hl => ?_)
  have hl : lv_has ls 4 [(2, .int x1), (0, .ref (ad 9)), (1, .int x1)] := hl
  refine lv_iconst (v := 1) hx hb d_Chk_bringForward_2 (by decide) ?_
  refine lv_istore_n hx hb d_Chk_bringForward_3 rfl hl (by decide) rfl (fun ls hl => ?_)
  have hl : lv_has ls 4 [(3, .int (1 : Int32)), (2, .int x1), (0, .ref (ad 9)), (1, .int x1)] := hl
  exact v_Chk_bringForward_4 X  _ _ _ _ _ _ _ hP hD hS (lv_sub hl [2, 1, 0] rfl) h
theorem d_Chk_claimNode_0 : decode prog_2_method_23_code 0 = .ok (.iload_n 1, 1) := by decide +kernel
theorem d_Chk_claimNode_1 : decode prog_2_method_23_code 1 = .ok (.ifCond .ne 4, 3) := by decide +kernel
theorem d_Chk_claimNode_4 : decode prog_2_method_23_code 4 = .ok (.return_, 1) := by decide +kernel
theorem d_Chk_claimNode_5 : decode prog_2_method_23_code 5 = .ok (.aload_n 0, 1) := by decide +kernel
theorem d_Chk_claimNode_6 : decode prog_2_method_23_code 6 = .ok (.getfield 19, 3) := by decide +kernel
theorem d_Chk_claimNode_9 : decode prog_2_method_23_code 9 = .ok (.iload_n 1, 1) := by decide +kernel
theorem d_Chk_claimNode_10 : decode prog_2_method_23_code 10 = .ok (.iconst 1, 1) := by decide +kernel
theorem d_Chk_claimNode_11 : decode prog_2_method_23_code 11 = .ok (.invokevirtual 194, 3) := by decide +kernel
theorem d_Chk_claimNode_14 : decode prog_2_method_23_code 14 = .ok (.aload_n 0, 1) := by decide +kernel
theorem d_Chk_claimNode_15 : decode prog_2_method_23_code 15 = .ok (.getfield 9, 3) := by decide +kernel
theorem d_Chk_claimNode_18 : decode prog_2_method_23_code 18 = .ok (.iload_n 1, 1) := by decide +kernel
theorem d_Chk_claimNode_19 : decode prog_2_method_23_code 19 = .ok (.bipush 58, 2) := by decide +kernel
theorem d_Chk_claimNode_21 : decode prog_2_method_23_code 21 = .ok (.invokevirtual 84, 3) := by decide +kernel
theorem d_Chk_claimNode_24 : decode prog_2_method_23_code 24 = .ok (.istore_n 2, 1) := by decide +kernel
theorem d_Chk_claimNode_25 : decode prog_2_method_23_code 25 = .ok (.iload_n 2, 1) := by decide +kernel
theorem d_Chk_claimNode_26 : decode prog_2_method_23_code 26 = .ok (.invokestatic 197, 3) := by decide +kernel
theorem d_Chk_claimNode_29 : decode prog_2_method_23_code 29 = .ok (.istore_n 3, 1) := by decide +kernel
theorem d_Chk_claimNode_30 : decode prog_2_method_23_code 30 = .ok (.iload_n 3, 1) := by decide +kernel
theorem d_Chk_claimNode_31 : decode prog_2_method_23_code 31 = .ok (.iload_n 2, 1) := by decide +kernel
theorem d_Chk_claimNode_32 : decode prog_2_method_23_code 32 = .ok (.aload_n 0, 1) := by decide +kernel
theorem d_Chk_claimNode_33 : decode prog_2_method_23_code 33 = .ok (.getfield 9, 3) := by decide +kernel
theorem d_Chk_claimNode_36 : decode prog_2_method_23_code 36 = .ok (.iload_n 1, 1) := by decide +kernel
theorem d_Chk_claimNode_37 : decode prog_2_method_23_code 37 = .ok (.iconst 0, 1) := by decide +kernel
theorem d_Chk_claimNode_38 : decode prog_2_method_23_code 38 = .ok (.invokevirtual 84, 3) := by decide +kernel
theorem d_Chk_claimNode_41 : decode prog_2_method_23_code 41 = .ok (.invokestatic 200, 3) := by decide +kernel
theorem d_Chk_claimNode_44 : decode prog_2_method_23_code 44 = .ok (.iadd, 1) := by decide +kernel
theorem d_Chk_claimNode_45 : decode prog_2_method_23_code 45 = .ok (.istore 4, 2) := by decide +kernel
theorem d_Chk_claimNode_47 : decode prog_2_method_23_code 47 = .ok (.iload_n 3, 1) := by decide +kernel
theorem d_Chk_claimNode_48 : decode prog_2_method_23_code 48 = .ok (.istore 5, 2) := by decide +kernel
theorem d_Chk_claimNode_50 : decode prog_2_method_23_code 50 = .ok (.iload 5, 2) := by decide +kernel
theorem d_Chk_claimNode_52 : decode prog_2_method_23_code 52 = .ok (.iload 4, 2) := by decide +kernel
theorem d_Chk_claimNode_54 : decode prog_2_method_23_code 54 = .ok (.if_icmp .ge 31, 3) := by decide +kernel
theorem d_Chk_claimNode_57 : decode prog_2_method_23_code 57 = .ok (.aload_n 0, 1) := by decide +kernel
theorem d_Chk_claimNode_58 : decode prog_2_method_23_code 58 = .ok (.getfield 19, 3) := by decide +kernel
theorem d_Chk_claimNode_61 : decode prog_2_method_23_code 61 = .ok (.aload_n 0, 1) := by decide +kernel
theorem d_Chk_claimNode_62 : decode prog_2_method_23_code 62 = .ok (.getfield 9, 3) := by decide +kernel
theorem d_Chk_claimNode_65 : decode prog_2_method_23_code 65 = .ok (.iload_n 1, 1) := by decide +kernel
theorem d_Chk_claimNode_66 : decode prog_2_method_23_code 66 = .ok (.iload 5, 2) := by decide +kernel
theorem d_Chk_claimNode_68 : decode prog_2_method_23_code 68 = .ok (.invokevirtual 84, 3) := by decide +kernel
theorem d_Chk_claimNode_71 : decode prog_2_method_23_code 71 = .ok (.sipush 4095, 3) := by decide +kernel
theorem d_Chk_claimNode_74 : decode prog_2_method_23_code 74 = .ok (.iand, 1) := by decide +kernel
theorem d_Chk_claimNode_75 : decode prog_2_method_23_code 75 = .ok (.iconst 2, 1) := by decide +kernel
theorem d_Chk_claimNode_76 : decode prog_2_method_23_code 76 = .ok (.invokevirtual 194, 3) := by decide +kernel
theorem d_Chk_claimNode_79 : decode prog_2_method_23_code 79 = .ok (.iinc 5 1, 3) := by decide +kernel
theorem d_Chk_claimNode_82 : decode prog_2_method_23_code 82 = .ok (.goto (-32), 3) := by decide +kernel
theorem d_Chk_claimNode_85 : decode prog_2_method_23_code 85 = .ok (.return_, 1) := by decide +kernel
set_option maxHeartbeats 4000000 in
set_option maxRecDepth 100000 in
theorem v_Chk_claimNode_50 {p : Program} {l : Launch} {e : Env} {s : State} {m : MethodId} {args : Array Value} {below : List Frame} {meth : Method} {c : Code} {D : va_G} {ad : Nat → Nat} {ca : Nat → ClassId} {A : Nat → Prop} {FU : Nat} {q : St} (X : FX p s m meth c prog_2_method_23_code 6 none "FlashFiles$Checkpoints" D (tyF ca) A) : ∀ (n : Nat), ∀ (y1 y4 y5 : Int32) (g : St) (H : Heap) (locs : List Loc) (ls : Array Slot), va_P D cls (wF ad ca g) H → va_D A (wF ad ca g) → va_S A s.heap H locs → lv_has ls 6 [(0, .ref (ad 9)), (1, .int y1), (4, .int y4), (5, .int y5)] → Chk_claimNode_b50 FU n y1 y4 y5 g = some q → W p l e (rmN 3) s m args below meth c H locs 0 0 (MQ below (fxQv D (tyF ca) A (wF ad ca q)) args s 0 0 A) (F0 m 50 ls []) := by
  have hx := X.1
  have hb := X.2.1
  intro n
  induction n with
  | zero =>
    intro y1 y4 y5 g H locs ls hP hD hS hl h
    cases h
  | succ n ih =>
    intro y1 y4 y5 g H locs ls hP hD hS hl h
    have h := h
    rw [Chk_claimNode_b50.eq_2] at h
    refine lv_iload hx hb d_Chk_claimNode_50 (lv_at hl 3 rfl) ?_
    refine lv_iload hx hb d_Chk_claimNode_52 (lv_at hl 2 rfl) ?_
    refine lv_icmp_ge (tgt := 85) hx hb d_Chk_claimNode_54 (by decide) (fun hc => ?_) (fun hc => ?_)
    · have h := if_t hc h
      cases h
      exact fx_vret X hP hD hS d_Chk_claimNode_85
    · have h := if_f hc h
      refine lv_aload_n hx hb d_Chk_claimNode_57 rfl (lv_at hl 0 rfl) ?_
      refine gF_chk_log X hP d_Chk_claimNode_58 ?_
      refine lv_aload_n hx hb d_Chk_claimNode_61 rfl (lv_at hl 0 rfl) ?_
      refine gF_chk_device X hP d_Chk_claimNode_62 ?_
      refine lv_iload_n hx hb d_Chk_claimNode_65 rfl (lv_at hl 1 rfl) ?_
      refine lv_iload hx hb d_Chk_claimNode_66 (lv_at hl 3 rfl) ?_
      obtain ⟨v1, e1, h⟩ := bd_some h
      refine fx_i X (fx_runV (As := [.int y1, .int y5]) X (m_Dev_word e1 _) hP hD kv_Chk_84 ⟨Nat.le_of_ble_eq_true rfl, Nat.le_of_ble_eq_true rfl⟩ 3 rfl rfl rfl hl.1 rfl (Nat.le_of_ble_eq_true rfl) d_Chk_claimNode_68) hD hS (fun H locs hP hD hS => ?_)
      refine lv_sipush (v := 4095) hx hb d_Chk_claimNode_71 (by decide) ?_
      refine lv_iand hx hb d_Chk_claimNode_74 ?_
      refine lv_iconst (v := 2) hx hb d_Chk_claimNode_75 (by decide) ?_
      obtain ⟨p2, e1, h⟩ := bd_some h
      refine fx_v X (fx_runV (As := [.int (v1 &&& (4095 : Int32)), .int (2 : Int32)]) X (m_Log_claim e1 _) hP hD kv_Chk_194 ⟨Nat.le_of_ble_eq_true rfl, Nat.le_of_ble_eq_true rfl⟩ 5 rfl rfl rfl hl.1 rfl (Nat.le_of_ble_eq_true rfl) d_Chk_claimNode_76) hD hS (fun H locs hP hD hS => ?_)
      refine lv_iinc (k := 3) (v := (y5 + (1 : Int32))) hx hb d_Chk_claimNode_79 hl rfl (oi_1 _) (by decide) rfl (fun ls hl => ?_)
      have hl : lv_has ls 6 [(5, .int (y5 + (1 : Int32))), (0, .ref (ad 9)), (1, .int y1), (4, .int y4)] := hl
      refine lv_goto (tgt := 50) hx hb d_Chk_claimNode_82 (by decide) ?_
      exact ih _ _ _ _ _ _ _ hP hD hS (lv_sub hl [1, 2, 3, 0] rfl) h
set_option maxHeartbeats 4000000 in
set_option maxRecDepth 100000 in
theorem m_Chk_claimNode {l : Launch} {D : va_G} {ad : Nat → Nat} {ca : Nat → ClassId} {FU : Nat} {x1 : Int32} {g : St} {q : St} (h : Chk_claimNode FU x1 g = some q) : CV l ⟨"FlashFiles$Checkpoints", "claimNode", "(I)V"⟩ prog_2_method_23_code 6 3 D (tyF ca) (wF ad ca g) [.ref (ad 9), .int x1] (wF ad ca q) := by
  intro sz
  refine Met.fx (Qc := fun A => fxQv D (tyF ca) A (wF ad ca q)) (by decide) (Nat.le_of_ble_eq_true rfl) ?_
  intro p e s m below meth c A ls X hP hD hl
  have hl : lv_has ls 6 [(0, .ref (ad 9)), (1, .int x1)] := hl
  have hS : va_S A s.heap s.heap [] := va_S.rf
  have hx := X.1
  have hb := X.2.1
  unfold Chk_claimNode at h
  refine lv_iload_n hx hb d_Chk_claimNode_0 rfl (lv_at hl 1 rfl) ?_
  refine lv_if_ne (tgt := 5) hx hb d_Chk_claimNode_1 (by decide) (fun hc => ?_) (fun hc => ?_)
  · have h := if_f hc h
    refine lv_aload_n hx hb d_Chk_claimNode_5 rfl (lv_at hl 0 rfl) ?_
    refine gF_chk_log X hP d_Chk_claimNode_6 ?_
    refine lv_iload_n hx hb d_Chk_claimNode_9 rfl (lv_at hl 1 rfl) ?_
    refine lv_iconst (v := 1) hx hb d_Chk_claimNode_10 (by decide) ?_
    obtain ⟨p3, e1, h⟩ := bd_some h
    refine fx_v X (fx_runV (As := [.int x1, .int (1 : Int32)]) X (m_Log_claim e1 _) hP hD kv_Chk_194 ⟨Nat.le_of_ble_eq_true rfl, Nat.le_of_ble_eq_true rfl⟩ 5 rfl rfl rfl hl.1 rfl (Nat.le_of_ble_eq_true rfl) d_Chk_claimNode_11) hD hS (fun H locs hP hD hS => ?_)
    refine lv_aload_n hx hb d_Chk_claimNode_14 rfl (lv_at hl 0 rfl) ?_
    refine gF_chk_device X hP d_Chk_claimNode_15 ?_
    refine lv_iload_n hx hb d_Chk_claimNode_18 rfl (lv_at hl 1 rfl) ?_
    refine lv_bipush (v := 58) hx hb d_Chk_claimNode_19 (by decide) ?_
    obtain ⟨v4, e1, h⟩ := bd_some h
    refine fx_i X (fx_runV (As := [.int x1, .int (58 : Int32)]) X (m_Dev_word e1 _) hP hD kv_Chk_84 ⟨Nat.le_of_ble_eq_true rfl, Nat.le_of_ble_eq_true rfl⟩ 3 rfl rfl rfl hl.1 rfl (Nat.le_of_ble_eq_true rfl) d_Chk_claimNode_21) hD hS (fun H locs hP hD hS => ?_)
    refine lv_istore_n hx hb d_Chk_claimNode_24 rfl hl (by decide) rfl (fun ls hl => ?_)
    have hl : lv_has ls 6 [(2, .int v4), (0, .ref (ad 9)), (1, .int x1)] := hl
    refine lv_iload_n hx hb d_Chk_claimNode_25 rfl (lv_at hl 0 rfl) ?_
    obtain ⟨v5, e1, h⟩ := bd_some h
    refine fx_i X (fx_runN X (m_FF_pointersFrom e1 _) (As := [.int v4]) hP hD kn_Chk_197 ⟨Nat.le_of_ble_eq_true rfl, Nat.le_of_ble_eq_true rfl⟩ rfl hl.1 rfl (Nat.le_of_ble_eq_true rfl) d_Chk_claimNode_26) hD hS (fun H locs hP hD hS => ?_)
    refine lv_istore_n hx hb d_Chk_claimNode_29 rfl hl (by decide) rfl (fun ls hl => ?_)
    have hl : lv_has ls 6 [(3, .int v5), (2, .int v4), (0, .ref (ad 9)), (1, .int x1)] := hl
    refine lv_iload_n hx hb d_Chk_claimNode_30 rfl (lv_at hl 0 rfl) ?_
    refine lv_iload_n hx hb d_Chk_claimNode_31 rfl (lv_at hl 1 rfl) ?_
    refine lv_aload_n hx hb d_Chk_claimNode_32 rfl (lv_at hl 2 rfl) ?_
    refine gF_chk_device X hP d_Chk_claimNode_33 ?_
    refine lv_iload_n hx hb d_Chk_claimNode_36 rfl (lv_at hl 3 rfl) ?_
    refine lv_iconst (v := 0) hx hb d_Chk_claimNode_37 (by decide) ?_
    obtain ⟨v6, e1, h⟩ := bd_some h
    refine fx_i X (fx_runV (As := [.int x1, .int (0 : Int32)]) X (m_Dev_word e1 _) hP hD kv_Chk_84 ⟨Nat.le_of_ble_eq_true rfl, Nat.le_of_ble_eq_true rfl⟩ 3 rfl rfl rfl hl.1 rfl (Nat.le_of_ble_eq_true rfl) d_Chk_claimNode_38) hD hS (fun H locs hP hD hS => ?_)
    obtain ⟨v7, e1, h⟩ := bd_some h
    refine fx_i X (fx_runN X (m_FF_pointersIn e1 _) (As := [.int v4, .int v6]) hP hD kn_Chk_200 ⟨Nat.le_of_ble_eq_true rfl, Nat.le_of_ble_eq_true rfl⟩ rfl hl.1 rfl (Nat.le_of_ble_eq_true rfl) d_Chk_claimNode_41) hD hS (fun H locs hP hD hS => ?_)
    refine lv_iadd hx hb d_Chk_claimNode_44 ?_
    refine lv_istore hx hb d_Chk_claimNode_45 hl (by decide) rfl (fun ls hl => ?_)
    have hl : lv_has ls 6 [(4, .int (v5 + v7)), (3, .int v5), (2, .int v4), (0, .ref (ad 9)), (1, .int x1)] := hl
    refine lv_iload_n hx hb d_Chk_claimNode_47 rfl (lv_at hl 1 rfl) ?_
    refine lv_istore hx hb d_Chk_claimNode_48 hl (by decide) rfl (fun ls hl => ?_)
    have hl : lv_has ls 6 [(5, .int v5), (4, .int (v5 + v7)), (3, .int v5), (2, .int v4), (0, .ref (ad 9)), (1, .int x1)] := hl
    exact v_Chk_claimNode_50 X  _ _ _ _ _ _ _ _ hP hD hS (lv_sub hl [4, 5, 1, 0] rfl) h
  · have h := if_t hc h
    cases h
    exact fx_vret X hP hD hS d_Chk_claimNode_4
theorem d_Chk_claimAll_0 : decode prog_2_method_22_code 0 = .ok (.aload_n 0, 1) := by decide +kernel
theorem d_Chk_claimAll_1 : decode prog_2_method_22_code 1 = .ok (.getfield 15, 3) := by decide +kernel
theorem d_Chk_claimAll_4 : decode prog_2_method_22_code 4 = .ok (.invokevirtual 182, 3) := by decide +kernel
theorem d_Chk_claimAll_7 : decode prog_2_method_22_code 7 = .ok (.iconst 1, 1) := by decide +kernel
theorem d_Chk_claimAll_8 : decode prog_2_method_22_code 8 = .ok (.istore_n 1, 1) := by decide +kernel
theorem d_Chk_claimAll_9 : decode prog_2_method_22_code 9 = .ok (.iload_n 1, 1) := by decide +kernel
theorem d_Chk_claimAll_10 : decode prog_2_method_22_code 10 = .ok (.sipush 250, 3) := by decide +kernel
theorem d_Chk_claimAll_13 : decode prog_2_method_22_code 13 = .ok (.if_icmp .gt 146, 3) := by decide +kernel
theorem d_Chk_claimAll_16 : decode prog_2_method_22_code 16 = .ok (.aload_n 0, 1) := by decide +kernel
theorem d_Chk_claimAll_17 : decode prog_2_method_22_code 17 = .ok (.getfield 15, 3) := by decide +kernel
theorem d_Chk_claimAll_20 : decode prog_2_method_22_code 20 = .ok (.iload_n 1, 1) := by decide +kernel
theorem d_Chk_claimAll_21 : decode prog_2_method_22_code 21 = .ok (.invokevirtual 185, 3) := by decide +kernel
theorem d_Chk_claimAll_24 : decode prog_2_method_22_code 24 = .ok (.istore_n 2, 1) := by decide +kernel
theorem d_Chk_claimAll_25 : decode prog_2_method_22_code 25 = .ok (.aload_n 0, 1) := by decide +kernel
theorem d_Chk_claimAll_26 : decode prog_2_method_22_code 26 = .ok (.iload_n 2, 1) := by decide +kernel
theorem d_Chk_claimAll_27 : decode prog_2_method_22_code 27 = .ok (.invokevirtual 188, 3) := by decide +kernel
theorem d_Chk_claimAll_30 : decode prog_2_method_22_code 30 = .ok (.aload_n 0, 1) := by decide +kernel
theorem d_Chk_claimAll_31 : decode prog_2_method_22_code 31 = .ok (.getfield 9, 3) := by decide +kernel
theorem d_Chk_claimAll_34 : decode prog_2_method_22_code 34 = .ok (.iload_n 2, 1) := by decide +kernel
theorem d_Chk_claimAll_35 : decode prog_2_method_22_code 35 = .ok (.iconst 0, 1) := by decide +kernel
theorem d_Chk_claimAll_36 : decode prog_2_method_22_code 36 = .ok (.invokevirtual 84, 3) := by decide +kernel
theorem d_Chk_claimAll_39 : decode prog_2_method_22_code 39 = .ok (.iconst 1, 1) := by decide +kernel
theorem d_Chk_claimAll_40 : decode prog_2_method_22_code 40 = .ok (.if_icmp .ne 113, 3) := by decide +kernel
theorem d_Chk_claimAll_43 : decode prog_2_method_22_code 43 = .ok (.iload_n 2, 1) := by decide +kernel
theorem d_Chk_claimAll_44 : decode prog_2_method_22_code 44 = .ok (.ifCond .eq 109, 3) := by decide +kernel
theorem d_Chk_claimAll_47 : decode prog_2_method_22_code 47 = .ok (.aload_n 0, 1) := by decide +kernel
theorem d_Chk_claimAll_48 : decode prog_2_method_22_code 48 = .ok (.aload_n 0, 1) := by decide +kernel
theorem d_Chk_claimAll_49 : decode prog_2_method_22_code 49 = .ok (.getfield 15, 3) := by decide +kernel
theorem d_Chk_claimAll_52 : decode prog_2_method_22_code 52 = .ok (.aload_n 0, 1) := by decide +kernel
theorem d_Chk_claimAll_53 : decode prog_2_method_22_code 53 = .ok (.getfield 9, 3) := by decide +kernel
theorem d_Chk_claimAll_56 : decode prog_2_method_22_code 56 = .ok (.iload_n 2, 1) := by decide +kernel
theorem d_Chk_claimAll_57 : decode prog_2_method_22_code 57 = .ok (.bipush 26, 2) := by decide +kernel
theorem d_Chk_claimAll_59 : decode prog_2_method_22_code 59 = .ok (.invokevirtual 84, 3) := by decide +kernel
theorem d_Chk_claimAll_62 : decode prog_2_method_22_code 62 = .ok (.invokevirtual 191, 3) := by decide +kernel
theorem d_Chk_claimAll_65 : decode prog_2_method_22_code 65 = .ok (.invokevirtual 188, 3) := by decide +kernel
theorem d_Chk_claimAll_68 : decode prog_2_method_22_code 68 = .ok (.aload_n 0, 1) := by decide +kernel
theorem d_Chk_claimAll_69 : decode prog_2_method_22_code 69 = .ok (.aload_n 0, 1) := by decide +kernel
theorem d_Chk_claimAll_70 : decode prog_2_method_22_code 70 = .ok (.getfield 15, 3) := by decide +kernel
theorem d_Chk_claimAll_73 : decode prog_2_method_22_code 73 = .ok (.aload_n 0, 1) := by decide +kernel
theorem d_Chk_claimAll_74 : decode prog_2_method_22_code 74 = .ok (.getfield 9, 3) := by decide +kernel
theorem d_Chk_claimAll_77 : decode prog_2_method_22_code 77 = .ok (.iload_n 2, 1) := by decide +kernel
theorem d_Chk_claimAll_78 : decode prog_2_method_22_code 78 = .ok (.bipush 27, 2) := by decide +kernel
theorem d_Chk_claimAll_80 : decode prog_2_method_22_code 80 = .ok (.invokevirtual 84, 3) := by decide +kernel
theorem d_Chk_claimAll_83 : decode prog_2_method_22_code 83 = .ok (.invokevirtual 191, 3) := by decide +kernel
theorem d_Chk_claimAll_86 : decode prog_2_method_22_code 86 = .ok (.invokevirtual 188, 3) := by decide +kernel
theorem d_Chk_claimAll_89 : decode prog_2_method_22_code 89 = .ok (.aload_n 0, 1) := by decide +kernel
theorem d_Chk_claimAll_90 : decode prog_2_method_22_code 90 = .ok (.getfield 15, 3) := by decide +kernel
theorem d_Chk_claimAll_93 : decode prog_2_method_22_code 93 = .ok (.aload_n 0, 1) := by decide +kernel
theorem d_Chk_claimAll_94 : decode prog_2_method_22_code 94 = .ok (.getfield 9, 3) := by decide +kernel
theorem d_Chk_claimAll_97 : decode prog_2_method_22_code 97 = .ok (.iload_n 2, 1) := by decide +kernel
theorem d_Chk_claimAll_98 : decode prog_2_method_22_code 98 = .ok (.bipush 28, 2) := by decide +kernel
theorem d_Chk_claimAll_100 : decode prog_2_method_22_code 100 = .ok (.invokevirtual 84, 3) := by decide +kernel
theorem d_Chk_claimAll_103 : decode prog_2_method_22_code 103 = .ok (.invokevirtual 191, 3) := by decide +kernel
theorem d_Chk_claimAll_106 : decode prog_2_method_22_code 106 = .ok (.istore_n 3, 1) := by decide +kernel
theorem d_Chk_claimAll_107 : decode prog_2_method_22_code 107 = .ok (.aload_n 0, 1) := by decide +kernel
theorem d_Chk_claimAll_108 : decode prog_2_method_22_code 108 = .ok (.iload_n 3, 1) := by decide +kernel
theorem d_Chk_claimAll_109 : decode prog_2_method_22_code 109 = .ok (.invokevirtual 188, 3) := by decide +kernel
theorem d_Chk_claimAll_112 : decode prog_2_method_22_code 112 = .ok (.iconst 0, 1) := by decide +kernel
theorem d_Chk_claimAll_113 : decode prog_2_method_22_code 113 = .ok (.istore 4, 2) := by decide +kernel
theorem d_Chk_claimAll_115 : decode prog_2_method_22_code 115 = .ok (.iload 4, 2) := by decide +kernel
theorem d_Chk_claimAll_117 : decode prog_2_method_22_code 117 = .ok (.bipush 56, 2) := by decide +kernel
theorem d_Chk_claimAll_119 : decode prog_2_method_22_code 119 = .ok (.if_icmp .ge 34, 3) := by decide +kernel
theorem d_Chk_claimAll_122 : decode prog_2_method_22_code 122 = .ok (.iload_n 3, 1) := by decide +kernel
theorem d_Chk_claimAll_123 : decode prog_2_method_22_code 123 = .ok (.ifCond .eq 30, 3) := by decide +kernel
theorem d_Chk_claimAll_126 : decode prog_2_method_22_code 126 = .ok (.aload_n 0, 1) := by decide +kernel
theorem d_Chk_claimAll_127 : decode prog_2_method_22_code 127 = .ok (.aload_n 0, 1) := by decide +kernel
theorem d_Chk_claimAll_128 : decode prog_2_method_22_code 128 = .ok (.getfield 15, 3) := by decide +kernel
theorem d_Chk_claimAll_131 : decode prog_2_method_22_code 131 = .ok (.aload_n 0, 1) := by decide +kernel
theorem d_Chk_claimAll_132 : decode prog_2_method_22_code 132 = .ok (.getfield 9, 3) := by decide +kernel
theorem d_Chk_claimAll_135 : decode prog_2_method_22_code 135 = .ok (.iload_n 3, 1) := by decide +kernel
theorem d_Chk_claimAll_136 : decode prog_2_method_22_code 136 = .ok (.iload 4, 2) := by decide +kernel
theorem d_Chk_claimAll_138 : decode prog_2_method_22_code 138 = .ok (.invokevirtual 84, 3) := by decide +kernel
theorem d_Chk_claimAll_141 : decode prog_2_method_22_code 141 = .ok (.invokevirtual 191, 3) := by decide +kernel
theorem d_Chk_claimAll_144 : decode prog_2_method_22_code 144 = .ok (.invokevirtual 188, 3) := by decide +kernel
theorem d_Chk_claimAll_147 : decode prog_2_method_22_code 147 = .ok (.iinc 4 1, 3) := by decide +kernel
theorem d_Chk_claimAll_150 : decode prog_2_method_22_code 150 = .ok (.goto (-35), 3) := by decide +kernel
theorem d_Chk_claimAll_153 : decode prog_2_method_22_code 153 = .ok (.iinc 1 1, 3) := by decide +kernel
theorem d_Chk_claimAll_156 : decode prog_2_method_22_code 156 = .ok (.goto (-147), 3) := by decide +kernel
theorem d_Chk_claimAll_159 : decode prog_2_method_22_code 159 = .ok (.return_, 1) := by decide +kernel
set_option maxHeartbeats 4000000 in
set_option maxRecDepth 100000 in
theorem v_Chk_claimAll_153 {p : Program} {l : Launch} {e : Env} {s : State} {m : MethodId} {args : Array Value} {below : List Frame} {meth : Method} {c : Code} {D : va_G} {ad : Nat → Nat} {ca : Nat → ClassId} {A : Nat → Prop} {FU : Nat} {q : St} (X : FX p s m meth c prog_2_method_22_code 5 none "FlashFiles$Checkpoints" D (tyF ca) A) {k9 : Int32 → St → Option (St)} (hk9 : ∀ (y1 : Int32) (g : St) (H : Heap) (locs : List Loc) (ls : Array Slot), va_P D cls (wF ad ca g) H → va_D A (wF ad ca g) → va_S A s.heap H locs → lv_has ls 5 [(0, .ref (ad 9)), (1, .int y1)] → k9 y1 g = some q → W p l e (rmN 5) s m args below meth c H locs 0 0 (MQ below (fxQv D (tyF ca) A (wF ad ca q)) args s 0 0 A) (F0 m 9 ls [])) {y1 : Int32} {g : St} {H : Heap} {locs : List Loc} {ls : Array Slot} (hP : va_P D cls (wF ad ca g) H) (hD : va_D A (wF ad ca g)) (hS : va_S A s.heap H locs) (hl : lv_has ls 5 [(0, .ref (ad 9)), (1, .int y1)]) (h : Chk_claimAll_b153 FU k9 y1 g = some q) : W p l e (rmN 5) s m args below meth c H locs 0 0 (MQ below (fxQv D (tyF ca) A (wF ad ca q)) args s 0 0 A) (F0 m 153 ls []) := by
  have hx := X.1
  have hb := X.2.1
  unfold Chk_claimAll_b153 at h
  refine lv_iinc (k := 1) (v := (y1 + (1 : Int32))) hx hb d_Chk_claimAll_153 hl rfl (oi_1 _) (by decide) rfl (fun ls hl => ?_)
  have hl : lv_has ls 5 [(1, .int (y1 + (1 : Int32))), (0, .ref (ad 9))] := hl
  refine lv_goto (tgt := 9) hx hb d_Chk_claimAll_156 (by decide) ?_
  exact hk9 _ _ _ _ _ hP hD hS (lv_sub hl [1, 0] rfl) h
set_option maxHeartbeats 4000000 in
set_option maxRecDepth 100000 in
theorem v_Chk_claimAll_115 {p : Program} {l : Launch} {e : Env} {s : State} {m : MethodId} {args : Array Value} {below : List Frame} {meth : Method} {c : Code} {D : va_G} {ad : Nat → Nat} {ca : Nat → ClassId} {A : Nat → Prop} {FU : Nat} {q : St} (X : FX p s m meth c prog_2_method_22_code 5 none "FlashFiles$Checkpoints" D (tyF ca) A) {k9 : Int32 → St → Option (St)} (hk9 : ∀ (y1 : Int32) (g : St) (H : Heap) (locs : List Loc) (ls : Array Slot), va_P D cls (wF ad ca g) H → va_D A (wF ad ca g) → va_S A s.heap H locs → lv_has ls 5 [(0, .ref (ad 9)), (1, .int y1)] → k9 y1 g = some q → W p l e (rmN 5) s m args below meth c H locs 0 0 (MQ below (fxQv D (tyF ca) A (wF ad ca q)) args s 0 0 A) (F0 m 9 ls [])) : ∀ (n : Nat), ∀ (y1 y3 y4 : Int32) (g : St) (H : Heap) (locs : List Loc) (ls : Array Slot), va_P D cls (wF ad ca g) H → va_D A (wF ad ca g) → va_S A s.heap H locs → lv_has ls 5 [(0, .ref (ad 9)), (1, .int y1), (3, .int y3), (4, .int y4)] → Chk_claimAll_b115 FU k9 n y1 y3 y4 g = some q → W p l e (rmN 5) s m args below meth c H locs 0 0 (MQ below (fxQv D (tyF ca) A (wF ad ca q)) args s 0 0 A) (F0 m 115 ls []) := by
  have hx := X.1
  have hb := X.2.1
  intro n
  induction n with
  | zero =>
    intro y1 y3 y4 g H locs ls hP hD hS hl h
    cases h
  | succ n ih =>
    intro y1 y3 y4 g H locs ls hP hD hS hl h
    have h := h
    rw [Chk_claimAll_b115.eq_2] at h
    refine lv_iload hx hb d_Chk_claimAll_115 (lv_at hl 3 rfl) ?_
    refine lv_bipush (v := 56) hx hb d_Chk_claimAll_117 (by decide) ?_
    refine lv_icmp_ge (tgt := 153) hx hb d_Chk_claimAll_119 (by decide) (fun hc => ?_) (fun hc => ?_)
    · have h := if_t hc h
      exact v_Chk_claimAll_153 X hk9 hP hD hS (lv_sub hl [0, 1] rfl) h
    · have h := if_f hc h
      refine lv_iload_n hx hb d_Chk_claimAll_122 rfl (lv_at hl 2 rfl) ?_
      refine lv_if_eq (tgt := 153) hx hb d_Chk_claimAll_123 (by decide) (fun hc => ?_) (fun hc => ?_)
      · have h := if_t hc h
        exact v_Chk_claimAll_153 X hk9 hP hD hS (lv_sub hl [0, 1] rfl) h
      · have h := if_f hc h
        refine lv_aload_n hx hb d_Chk_claimAll_126 rfl (lv_at hl 0 rfl) ?_
        refine lv_aload_n hx hb d_Chk_claimAll_127 rfl (lv_at hl 0 rfl) ?_
        refine gF_chk_table X hP d_Chk_claimAll_128 ?_
        refine lv_aload_n hx hb d_Chk_claimAll_131 rfl (lv_at hl 0 rfl) ?_
        refine gF_chk_device X hP d_Chk_claimAll_132 ?_
        refine lv_iload_n hx hb d_Chk_claimAll_135 rfl (lv_at hl 2 rfl) ?_
        refine lv_iload hx hb d_Chk_claimAll_136 (lv_at hl 3 rfl) ?_
        obtain ⟨v1, e1, h⟩ := bd_some h
        refine fx_i X (fx_runV (As := [.int y3, .int y4]) X (m_Dev_word e1 _) hP hD kv_Chk_84 ⟨Nat.le_of_ble_eq_true rfl, Nat.le_of_ble_eq_true rfl⟩ 3 rfl rfl rfl hl.1 rfl (Nat.le_of_ble_eq_true rfl) d_Chk_claimAll_138) hD hS (fun H locs hP hD hS => ?_)
        obtain ⟨p2, e1, h⟩ := bd_some h
        refine fx_i X (fx_runV (As := [.int v1]) X (m_Tab_takeUp e1 _) hP hD kv_Chk_191 ⟨Nat.le_of_ble_eq_true rfl, Nat.le_of_ble_eq_true rfl⟩ 4 rfl rfl rfl hl.1 rfl (Nat.le_of_ble_eq_true rfl) d_Chk_claimAll_141) hD hS (fun H locs hP hD hS => ?_)
        obtain ⟨p3, e1, h⟩ := bd_some h
        refine fx_v X (fx_runV (As := [.int p2.1]) X (m_Chk_claimNode e1 _) hP hD kv_Chk_188 ⟨Nat.le_of_ble_eq_true rfl, Nat.le_of_ble_eq_true rfl⟩ 9 rfl rfl rfl hl.1 rfl (Nat.le_of_ble_eq_true rfl) d_Chk_claimAll_144) hD hS (fun H locs hP hD hS => ?_)
        refine lv_iinc (k := 3) (v := (y4 + (1 : Int32))) hx hb d_Chk_claimAll_147 hl rfl (oi_1 _) (by decide) rfl (fun ls hl => ?_)
        have hl : lv_has ls 5 [(4, .int (y4 + (1 : Int32))), (0, .ref (ad 9)), (1, .int y1), (3, .int y3)] := hl
        refine lv_goto (tgt := 115) hx hb d_Chk_claimAll_150 (by decide) ?_
        exact ih _ _ _ _ _ _ _ hP hD hS (lv_sub hl [1, 2, 3, 0] rfl) h
set_option maxHeartbeats 4000000 in
set_option maxRecDepth 100000 in
theorem v_Chk_claimAll_9 {p : Program} {l : Launch} {e : Env} {s : State} {m : MethodId} {args : Array Value} {below : List Frame} {meth : Method} {c : Code} {D : va_G} {ad : Nat → Nat} {ca : Nat → ClassId} {A : Nat → Prop} {FU : Nat} {q : St} (X : FX p s m meth c prog_2_method_22_code 5 none "FlashFiles$Checkpoints" D (tyF ca) A) : ∀ (n : Nat), ∀ (y1 : Int32) (g : St) (H : Heap) (locs : List Loc) (ls : Array Slot), va_P D cls (wF ad ca g) H → va_D A (wF ad ca g) → va_S A s.heap H locs → lv_has ls 5 [(0, .ref (ad 9)), (1, .int y1)] → Chk_claimAll_b9 FU n y1 g = some q → W p l e (rmN 5) s m args below meth c H locs 0 0 (MQ below (fxQv D (tyF ca) A (wF ad ca q)) args s 0 0 A) (F0 m 9 ls []) := by
  have hx := X.1
  have hb := X.2.1
  intro n
  induction n with
  | zero =>
    intro y1 g H locs ls hP hD hS hl h
    cases h
  | succ n ih =>
    intro y1 g H locs ls hP hD hS hl h
    have h := h
    rw [Chk_claimAll_b9.eq_2] at h
    refine lv_iload_n hx hb d_Chk_claimAll_9 rfl (lv_at hl 1 rfl) ?_
    refine lv_sipush (v := 250) hx hb d_Chk_claimAll_10 (by decide) ?_
    refine lv_icmp_gt (tgt := 159) hx hb d_Chk_claimAll_13 (by decide) (fun hc => ?_) (fun hc => ?_)
    · have h := if_t hc h
      cases h
      exact fx_vret X hP hD hS d_Chk_claimAll_159
    · have h := if_f hc h
      refine lv_aload_n hx hb d_Chk_claimAll_16 rfl (lv_at hl 0 rfl) ?_
      refine gF_chk_table X hP d_Chk_claimAll_17 ?_
      refine lv_iload_n hx hb d_Chk_claimAll_20 rfl (lv_at hl 1 rfl) ?_
      obtain ⟨v4, e1, h⟩ := bd_some h
      refine fx_i X (fx_runV (As := [.int y1]) X (m_Tab_placeOf e1 _) hP hD kv_Chk_185 ⟨Nat.le_of_ble_eq_true rfl, Nat.le_of_ble_eq_true rfl⟩ 4 rfl rfl rfl hl.1 rfl (Nat.le_of_ble_eq_true rfl) d_Chk_claimAll_21) hD hS (fun H locs hP hD hS => ?_)
      refine lv_istore_n hx hb d_Chk_claimAll_24 rfl hl (by decide) rfl (fun ls hl => ?_)
      have hl : lv_has ls 5 [(2, .int v4), (0, .ref (ad 9)), (1, .int y1)] := hl
      refine lv_aload_n hx hb d_Chk_claimAll_25 rfl (lv_at hl 1 rfl) ?_
      refine lv_iload_n hx hb d_Chk_claimAll_26 rfl (lv_at hl 0 rfl) ?_
      obtain ⟨p5, e1, h⟩ := bd_some h
      refine fx_v X (fx_runV (As := [.int v4]) X (m_Chk_claimNode e1 _) hP hD kv_Chk_188 ⟨Nat.le_of_ble_eq_true rfl, Nat.le_of_ble_eq_true rfl⟩ 9 rfl rfl rfl hl.1 rfl (Nat.le_of_ble_eq_true rfl) d_Chk_claimAll_27) hD hS (fun H locs hP hD hS => ?_)
      refine lv_aload_n hx hb d_Chk_claimAll_30 rfl (lv_at hl 1 rfl) ?_
      refine gF_chk_device X hP d_Chk_claimAll_31 ?_
      refine lv_iload_n hx hb d_Chk_claimAll_34 rfl (lv_at hl 0 rfl) ?_
      refine lv_iconst (v := 0) hx hb d_Chk_claimAll_35 (by decide) ?_
      obtain ⟨v6, e1, h⟩ := bd_some h
      refine fx_i X (fx_runV (As := [.int v4, .int (0 : Int32)]) X (m_Dev_word e1 _) hP hD kv_Chk_84 ⟨Nat.le_of_ble_eq_true rfl, Nat.le_of_ble_eq_true rfl⟩ 3 rfl rfl rfl hl.1 rfl (Nat.le_of_ble_eq_true rfl) d_Chk_claimAll_36) hD hS (fun H locs hP hD hS => ?_)
      refine lv_iconst (v := 1) hx hb d_Chk_claimAll_39 (by decide) ?_
      refine lv_icmp_ne (tgt := 153) hx hb d_Chk_claimAll_40 (by decide) (fun hc => ?_) (fun hc => ?_)
      · have h := if_f hc h
        exact v_Chk_claimAll_153 X ih hP hD hS (lv_sub hl [1, 2] rfl) h
      · have h := if_t hc h
        refine lv_iload_n hx hb d_Chk_claimAll_43 rfl (lv_at hl 0 rfl) ?_
        refine lv_if_eq (tgt := 153) hx hb d_Chk_claimAll_44 (by decide) (fun hc => ?_) (fun hc => ?_)
        · have h := if_t hc h
          exact v_Chk_claimAll_153 X ih hP hD hS (lv_sub hl [1, 2] rfl) h
        · have h := if_f hc h
          refine lv_aload_n hx hb d_Chk_claimAll_47 rfl (lv_at hl 1 rfl) ?_
          refine lv_aload_n hx hb d_Chk_claimAll_48 rfl (lv_at hl 1 rfl) ?_
          refine gF_chk_table X hP d_Chk_claimAll_49 ?_
          refine lv_aload_n hx hb d_Chk_claimAll_52 rfl (lv_at hl 1 rfl) ?_
          refine gF_chk_device X hP d_Chk_claimAll_53 ?_
          refine lv_iload_n hx hb d_Chk_claimAll_56 rfl (lv_at hl 0 rfl) ?_
          refine lv_bipush (v := 26) hx hb d_Chk_claimAll_57 (by decide) ?_
          obtain ⟨v7, e1, h⟩ := bd_some h
          refine fx_i X (fx_runV (As := [.int v4, .int (26 : Int32)]) X (m_Dev_word e1 _) hP hD kv_Chk_84 ⟨Nat.le_of_ble_eq_true rfl, Nat.le_of_ble_eq_true rfl⟩ 3 rfl rfl rfl hl.1 rfl (Nat.le_of_ble_eq_true rfl) d_Chk_claimAll_59) hD hS (fun H locs hP hD hS => ?_)
          obtain ⟨p8, e1, h⟩ := bd_some h
          refine fx_i X (fx_runV (As := [.int v7]) X (m_Tab_takeUp e1 _) hP hD kv_Chk_191 ⟨Nat.le_of_ble_eq_true rfl, Nat.le_of_ble_eq_true rfl⟩ 4 rfl rfl rfl hl.1 rfl (Nat.le_of_ble_eq_true rfl) d_Chk_claimAll_62) hD hS (fun H locs hP hD hS => ?_)
          obtain ⟨p9, e1, h⟩ := bd_some h
          refine fx_v X (fx_runV (As := [.int p8.1]) X (m_Chk_claimNode e1 _) hP hD kv_Chk_188 ⟨Nat.le_of_ble_eq_true rfl, Nat.le_of_ble_eq_true rfl⟩ 9 rfl rfl rfl hl.1 rfl (Nat.le_of_ble_eq_true rfl) d_Chk_claimAll_65) hD hS (fun H locs hP hD hS => ?_)
          refine lv_aload_n hx hb d_Chk_claimAll_68 rfl (lv_at hl 1 rfl) ?_
          refine lv_aload_n hx hb d_Chk_claimAll_69 rfl (lv_at hl 1 rfl) ?_
          refine gF_chk_table X hP d_Chk_claimAll_70 ?_
          refine lv_aload_n hx hb d_Chk_claimAll_73 rfl (lv_at hl 1 rfl) ?_
          refine gF_chk_device X hP d_Chk_claimAll_74 ?_
          refine lv_iload_n hx hb d_Chk_claimAll_77 rfl (lv_at hl 0 rfl) ?_
          refine lv_bipush (v := 27) hx hb d_Chk_claimAll_78 (by decide) ?_
          obtain ⟨v10, e1, h⟩ := bd_some h
          refine fx_i X (fx_runV (As := [.int v4, .int (27 : Int32)]) X (m_Dev_word e1 _) hP hD kv_Chk_84 ⟨Nat.le_of_ble_eq_true rfl, Nat.le_of_ble_eq_true rfl⟩ 3 rfl rfl rfl hl.1 rfl (Nat.le_of_ble_eq_true rfl) d_Chk_claimAll_80) hD hS (fun H locs hP hD hS => ?_)
          obtain ⟨p11, e1, h⟩ := bd_some h
          refine fx_i X (fx_runV (As := [.int v10]) X (m_Tab_takeUp e1 _) hP hD kv_Chk_191 ⟨Nat.le_of_ble_eq_true rfl, Nat.le_of_ble_eq_true rfl⟩ 4 rfl rfl rfl hl.1 rfl (Nat.le_of_ble_eq_true rfl) d_Chk_claimAll_83) hD hS (fun H locs hP hD hS => ?_)
          obtain ⟨p12, e1, h⟩ := bd_some h
          refine fx_v X (fx_runV (As := [.int p11.1]) X (m_Chk_claimNode e1 _) hP hD kv_Chk_188 ⟨Nat.le_of_ble_eq_true rfl, Nat.le_of_ble_eq_true rfl⟩ 9 rfl rfl rfl hl.1 rfl (Nat.le_of_ble_eq_true rfl) d_Chk_claimAll_86) hD hS (fun H locs hP hD hS => ?_)
          refine lv_aload_n hx hb d_Chk_claimAll_89 rfl (lv_at hl 1 rfl) ?_
          refine gF_chk_table X hP d_Chk_claimAll_90 ?_
          refine lv_aload_n hx hb d_Chk_claimAll_93 rfl (lv_at hl 1 rfl) ?_
          refine gF_chk_device X hP d_Chk_claimAll_94 ?_
          refine lv_iload_n hx hb d_Chk_claimAll_97 rfl (lv_at hl 0 rfl) ?_
          refine lv_bipush (v := 28) hx hb d_Chk_claimAll_98 (by decide) ?_
          obtain ⟨v13, e1, h⟩ := bd_some h
          refine fx_i X (fx_runV (As := [.int v4, .int (28 : Int32)]) X (m_Dev_word e1 _) hP hD kv_Chk_84 ⟨Nat.le_of_ble_eq_true rfl, Nat.le_of_ble_eq_true rfl⟩ 3 rfl rfl rfl hl.1 rfl (Nat.le_of_ble_eq_true rfl) d_Chk_claimAll_100) hD hS (fun H locs hP hD hS => ?_)
          obtain ⟨p14, e1, h⟩ := bd_some h
          refine fx_i X (fx_runV (As := [.int v13]) X (m_Tab_takeUp e1 _) hP hD kv_Chk_191 ⟨Nat.le_of_ble_eq_true rfl, Nat.le_of_ble_eq_true rfl⟩ 4 rfl rfl rfl hl.1 rfl (Nat.le_of_ble_eq_true rfl) d_Chk_claimAll_103) hD hS (fun H locs hP hD hS => ?_)
          refine lv_istore_n hx hb d_Chk_claimAll_106 rfl hl (by decide) rfl (fun ls hl => ?_)
          have hl : lv_has ls 5 [(3, .int p14.1), (2, .int v4), (0, .ref (ad 9)), (1, .int y1)] := hl
          refine lv_aload_n hx hb d_Chk_claimAll_107 rfl (lv_at hl 2 rfl) ?_
          refine lv_iload_n hx hb d_Chk_claimAll_108 rfl (lv_at hl 0 rfl) ?_
          obtain ⟨p15, e1, h⟩ := bd_some h
          refine fx_v X (fx_runV (As := [.int p14.1]) X (m_Chk_claimNode e1 _) hP hD kv_Chk_188 ⟨Nat.le_of_ble_eq_true rfl, Nat.le_of_ble_eq_true rfl⟩ 9 rfl rfl rfl hl.1 rfl (Nat.le_of_ble_eq_true rfl) d_Chk_claimAll_109) hD hS (fun H locs hP hD hS => ?_)
          refine lv_iconst (v := 0) hx hb d_Chk_claimAll_112 (by decide) ?_
          refine lv_istore hx hb d_Chk_claimAll_113 hl (by decide) rfl (fun ls hl => ?_)
          have hl : lv_has ls 5 [(4, .int (0 : Int32)), (3, .int p14.1), (2, .int v4), (0, .ref (ad 9)), (1, .int y1)] := hl
          exact v_Chk_claimAll_115 X ih _ _ _ _ _ _ _ _ hP hD hS (lv_sub hl [3, 4, 1, 0] rfl) h
set_option maxHeartbeats 4000000 in
set_option maxRecDepth 100000 in
theorem m_Chk_claimAll {l : Launch} {D : va_G} {ad : Nat → Nat} {ca : Nat → ClassId} {FU : Nat} {g : St} {q : St} (h : Chk_claimAll FU  g = some q) : CV l ⟨"FlashFiles$Checkpoints", "claimAll", "()V"⟩ prog_2_method_22_code 5 5 D (tyF ca) (wF ad ca g) [.ref (ad 9)] (wF ad ca q) := by
  intro sz
  refine Met.fx (Qc := fun A => fxQv D (tyF ca) A (wF ad ca q)) (by decide) (Nat.le_of_ble_eq_true rfl) ?_
  intro p e s m below meth c A ls X hP hD hl
  have hl : lv_has ls 5 [(0, .ref (ad 9))] := hl
  have hS : va_S A s.heap s.heap [] := va_S.rf
  have hx := X.1
  have hb := X.2.1
  unfold Chk_claimAll at h
  refine lv_aload_n hx hb d_Chk_claimAll_0 rfl (lv_at hl 0 rfl) ?_
  refine gF_chk_table X hP d_Chk_claimAll_1 ?_
  obtain ⟨p16, e1, h⟩ := bd_some h
  refine fx_v X (fx_runV (As := []) X (m_Tab_setAside e1 _) hP hD kv_Chk_182 ⟨Nat.le_of_ble_eq_true rfl, Nat.le_of_ble_eq_true rfl⟩ 4 rfl rfl rfl hl.1 rfl (Nat.le_of_ble_eq_true rfl) d_Chk_claimAll_4) hD hS (fun H locs hP hD hS => ?_)
  refine lv_iconst (v := 1) hx hb d_Chk_claimAll_7 (by decide) ?_
  refine lv_istore_n hx hb d_Chk_claimAll_8 rfl hl (by decide) rfl (fun ls hl => ?_)
  have hl : lv_has ls 5 [(1, .int (1 : Int32)), (0, .ref (ad 9))] := hl
  exact v_Chk_claimAll_9 X  _ _ _ _ _ _ hP hD hS (lv_sub hl [1, 0] rfl) h
theorem d_Chk_findMarks_0 : decode prog_2_method_20_code 0 = .ok (.aload_n 0, 1) := by decide +kernel
theorem d_Chk_findMarks_1 : decode prog_2_method_20_code 1 = .ok (.getfield 35, 3) := by decide +kernel
theorem d_Chk_findMarks_4 : decode prog_2_method_20_code 4 = .ok (.iconst 0, 1) := by decide +kernel
theorem d_Chk_findMarks_5 : decode prog_2_method_20_code 5 = .ok (.invokestatic 56, 3) := by decide +kernel
theorem d_Chk_findMarks_8 : decode prog_2_method_20_code 8 = .ok (.iload_n 1, 1) := by decide +kernel
theorem d_Chk_findMarks_9 : decode prog_2_method_20_code 9 = .ok (.istore_n 2, 1) := by decide +kernel
theorem d_Chk_findMarks_10 : decode prog_2_method_20_code 10 = .ok (.iconst 0, 1) := by decide +kernel
theorem d_Chk_findMarks_11 : decode prog_2_method_20_code 11 = .ok (.istore_n 3, 1) := by decide +kernel
theorem d_Chk_findMarks_12 : decode prog_2_method_20_code 12 = .ok (.iconst 1, 1) := by decide +kernel
theorem d_Chk_findMarks_13 : decode prog_2_method_20_code 13 = .ok (.istore 4, 2) := by decide +kernel
theorem d_Chk_findMarks_15 : decode prog_2_method_20_code 15 = .ok (.iload 4, 2) := by decide +kernel
theorem d_Chk_findMarks_17 : decode prog_2_method_20_code 17 = .ok (.sipush 2117, 3) := by decide +kernel
theorem d_Chk_findMarks_20 : decode prog_2_method_20_code 20 = .ok (.if_icmp .gt 81, 3) := by decide +kernel
theorem d_Chk_findMarks_23 : decode prog_2_method_20_code 23 = .ok (.aload_n 0, 1) := by decide +kernel
theorem d_Chk_findMarks_24 : decode prog_2_method_20_code 24 = .ok (.iload_n 2, 1) := by decide +kernel
theorem d_Chk_findMarks_25 : decode prog_2_method_20_code 25 = .ok (.invokevirtual 179, 3) := by decide +kernel
theorem d_Chk_findMarks_28 : decode prog_2_method_20_code 28 = .ok (.ifCond .eq 73, 3) := by decide +kernel
theorem d_Chk_findMarks_31 : decode prog_2_method_20_code 31 = .ok (.aload_n 0, 1) := by decide +kernel
theorem d_Chk_findMarks_32 : decode prog_2_method_20_code 32 = .ok (.getfield 9, 3) := by decide +kernel
theorem d_Chk_findMarks_35 : decode prog_2_method_20_code 35 = .ok (.iload_n 2, 1) := by decide +kernel
theorem d_Chk_findMarks_36 : decode prog_2_method_20_code 36 = .ok (.bipush 59, 2) := by decide +kernel
theorem d_Chk_findMarks_38 : decode prog_2_method_20_code 38 = .ok (.invokevirtual 84, 3) := by decide +kernel
theorem d_Chk_findMarks_41 : decode prog_2_method_20_code 41 = .ok (.iconst 1, 1) := by decide +kernel
theorem d_Chk_findMarks_42 : decode prog_2_method_20_code 42 = .ok (.if_icmp .ne 42, 3) := by decide +kernel
theorem d_Chk_findMarks_45 : decode prog_2_method_20_code 45 = .ok (.aload_n 0, 1) := by decide +kernel
theorem d_Chk_findMarks_46 : decode prog_2_method_20_code 46 = .ok (.getfield 9, 3) := by decide +kernel
theorem d_Chk_findMarks_49 : decode prog_2_method_20_code 49 = .ok (.iload_n 2, 1) := by decide +kernel
theorem d_Chk_findMarks_50 : decode prog_2_method_20_code 50 = .ok (.bipush 61, 2) := by decide +kernel
theorem d_Chk_findMarks_52 : decode prog_2_method_20_code 52 = .ok (.invokevirtual 84, 3) := by decide +kernel
theorem d_Chk_findMarks_55 : decode prog_2_method_20_code 55 = .ok (.istore 5, 2) := by decide +kernel
theorem d_Chk_findMarks_57 : decode prog_2_method_20_code 57 = .ok (.iload_n 3, 1) := by decide +kernel
theorem d_Chk_findMarks_58 : decode prog_2_method_20_code 58 = .ok (.aload_n 0, 1) := by decide +kernel
theorem d_Chk_findMarks_59 : decode prog_2_method_20_code 59 = .ok (.getfield 35, 3) := by decide +kernel
theorem d_Chk_findMarks_62 : decode prog_2_method_20_code 62 = .ok (.iload 5, 2) := by decide +kernel
theorem d_Chk_findMarks_64 : decode prog_2_method_20_code 64 = .ok (.iaload, 1) := by decide +kernel
theorem d_Chk_findMarks_65 : decode prog_2_method_20_code 65 = .ok (.ifCond .ne 7, 3) := by decide +kernel
theorem d_Chk_findMarks_68 : decode prog_2_method_20_code 68 = .ok (.iconst 1, 1) := by decide +kernel
theorem d_Chk_findMarks_69 : decode prog_2_method_20_code 69 = .ok (.goto 4, 3) := by decide +kernel
theorem d_Chk_findMarks_72 : decode prog_2_method_20_code 72 = .ok (.iconst 0, 1) := by decide +kernel
theorem d_Chk_findMarks_73 : decode prog_2_method_20_code 73 = .ok (.iadd, 1) := by decide +kernel
theorem d_Chk_findMarks_74 : decode prog_2_method_20_code 74 = .ok (.istore_n 3, 1) := by decide +kernel
theorem d_Chk_findMarks_75 : decode prog_2_method_20_code 75 = .ok (.aload_n 0, 1) := by decide +kernel
theorem d_Chk_findMarks_76 : decode prog_2_method_20_code 76 = .ok (.getfield 35, 3) := by decide +kernel
theorem d_Chk_findMarks_79 : decode prog_2_method_20_code 79 = .ok (.iload 5, 2) := by decide +kernel
theorem d_Chk_findMarks_81 : decode prog_2_method_20_code 81 = .ok (.iload 4, 2) := by decide +kernel
theorem d_Chk_findMarks_83 : decode prog_2_method_20_code 83 = .ok (.iastore, 1) := by decide +kernel
theorem d_Chk_findMarks_84 : decode prog_2_method_20_code 84 = .ok (.aload_n 0, 1) := by decide +kernel
theorem d_Chk_findMarks_85 : decode prog_2_method_20_code 85 = .ok (.getfield 9, 3) := by decide +kernel
theorem d_Chk_findMarks_88 : decode prog_2_method_20_code 88 = .ok (.iload_n 2, 1) := by decide +kernel
theorem d_Chk_findMarks_89 : decode prog_2_method_20_code 89 = .ok (.bipush 63, 2) := by decide +kernel
theorem d_Chk_findMarks_91 : decode prog_2_method_20_code 91 = .ok (.invokevirtual 84, 3) := by decide +kernel
theorem d_Chk_findMarks_94 : decode prog_2_method_20_code 94 = .ok (.istore_n 2, 1) := by decide +kernel
theorem d_Chk_findMarks_95 : decode prog_2_method_20_code 95 = .ok (.iinc 4 1, 3) := by decide +kernel
theorem d_Chk_findMarks_98 : decode prog_2_method_20_code 98 = .ok (.goto (-83), 3) := by decide +kernel
theorem d_Chk_findMarks_101 : decode prog_2_method_20_code 101 = .ok (.iload_n 3, 1) := by decide +kernel
theorem d_Chk_findMarks_102 : decode prog_2_method_20_code 102 = .ok (.ireturn, 1) := by decide +kernel
set_option maxHeartbeats 4000000 in
set_option maxRecDepth 100000 in
theorem v_Chk_findMarks_84 {p : Program} {l : Launch} {e : Env} {s : State} {m : MethodId} {args : Array Value} {below : List Frame} {meth : Method} {c : Code} {D : va_G} {ad : Nat → Nat} {ca : Nat → ClassId} {A : Nat → Prop} {FU : Nat} {q : Int32 × St} (X : FX p s m meth c prog_2_method_20_code 6 (some .int) "FlashFiles$Checkpoints" D (tyF ca) A) {k15 : Int32 → Int32 → Int32 → St → Option (Int32 × St)} (hk15 : ∀ (y2 y3 y4 : Int32) (g : St) (H : Heap) (locs : List Loc) (ls : Array Slot), va_P D cls (wF ad ca g) H → va_D A (wF ad ca g) → va_S A s.heap H locs → lv_has ls 6 [(0, .ref (ad 9)), (2, .int y2), (3, .int y3), (4, .int y4)] → k15 y2 y3 y4 g = some q → W p l e (rmN 3) s m args below meth c H locs 0 0 (MQ below (fxQi D (tyF ca) A (wF ad ca q.2) q.1) args s 0 0 A) (F0 m 15 ls [])) {y2 : Int32} {y3 : Int32} {y4 : Int32} {g : St} {H : Heap} {locs : List Loc} {ls : Array Slot} (hP : va_P D cls (wF ad ca g) H) (hD : va_D A (wF ad ca g)) (hS : va_S A s.heap H locs) (hl : lv_has ls 6 [(0, .ref (ad 9)), (2, .int y2), (3, .int y3), (4, .int y4)]) (h : Chk_findMarks_b84 FU k15 y2 y3 y4 g = some q) : W p l e (rmN 3) s m args below meth c H locs 0 0 (MQ below (fxQi D (tyF ca) A (wF ad ca q.2) q.1) args s 0 0 A) (F0 m 84 ls []) := by
  have hx := X.1
  have hb := X.2.1
  unfold Chk_findMarks_b84 at h
  refine lv_aload_n hx hb d_Chk_findMarks_84 rfl (lv_at hl 0 rfl) ?_
  refine gF_chk_device X hP d_Chk_findMarks_85 ?_
  refine lv_iload_n hx hb d_Chk_findMarks_88 rfl (lv_at hl 1 rfl) ?_
  refine lv_bipush (v := 63) hx hb d_Chk_findMarks_89 (by decide) ?_
  obtain ⟨v1, e1, h⟩ := bd_some h
  refine fx_i X (fx_runV (As := [.int y2, .int (63 : Int32)]) X (m_Dev_word e1 _) hP hD kv_Chk_84 ⟨Nat.le_of_ble_eq_true rfl, Nat.le_of_ble_eq_true rfl⟩ 3 rfl rfl rfl hl.1 rfl (Nat.le_of_ble_eq_true rfl) d_Chk_findMarks_91) hD hS (fun H locs hP hD hS => ?_)
  refine lv_istore_n hx hb d_Chk_findMarks_94 rfl hl (by decide) rfl (fun ls hl => ?_)
  have hl : lv_has ls 6 [(2, .int v1), (0, .ref (ad 9)), (3, .int y3), (4, .int y4)] := hl
  refine lv_iinc (k := 3) (v := (y4 + (1 : Int32))) hx hb d_Chk_findMarks_95 hl rfl (oi_1 _) (by decide) rfl (fun ls hl => ?_)
  have hl : lv_has ls 6 [(4, .int (y4 + (1 : Int32))), (2, .int v1), (0, .ref (ad 9)), (3, .int y3)] := hl
  refine lv_goto (tgt := 15) hx hb d_Chk_findMarks_98 (by decide) ?_
  exact hk15 _ _ _ _ _ _ _ hP hD hS (lv_sub hl [2, 1, 3, 0] rfl) h
set_option maxHeartbeats 4000000 in
set_option maxRecDepth 100000 in
theorem v_Chk_findMarks_73 {p : Program} {l : Launch} {e : Env} {s : State} {m : MethodId} {args : Array Value} {below : List Frame} {meth : Method} {c : Code} {D : va_G} {ad : Nat → Nat} {ca : Nat → ClassId} {A : Nat → Prop} {FU : Nat} {q : Int32 × St} (X : FX p s m meth c prog_2_method_20_code 6 (some .int) "FlashFiles$Checkpoints" D (tyF ca) A) {k15 : Int32 → Int32 → Int32 → St → Option (Int32 × St)} (hk15 : ∀ (y2 y3 y4 : Int32) (g : St) (H : Heap) (locs : List Loc) (ls : Array Slot), va_P D cls (wF ad ca g) H → va_D A (wF ad ca g) → va_S A s.heap H locs → lv_has ls 6 [(0, .ref (ad 9)), (2, .int y2), (3, .int y3), (4, .int y4)] → k15 y2 y3 y4 g = some q → W p l e (rmN 3) s m args below meth c H locs 0 0 (MQ below (fxQi D (tyF ca) A (wF ad ca q.2) q.1) args s 0 0 A) (F0 m 15 ls [])) {y2 : Int32} {y4 : Int32} {y5 : Int32} {z0 : Int32} {z1 : Int32} {g : St} {H : Heap} {locs : List Loc} {ls : Array Slot} (hP : va_P D cls (wF ad ca g) H) (hD : va_D A (wF ad ca g)) (hS : va_S A s.heap H locs) (hl : lv_has ls 6 [(0, .ref (ad 9)), (2, .int y2), (4, .int y4), (5, .int y5)]) (h : Chk_findMarks_b73 FU k15 y2 y4 y5 z0 z1 g = some q) : W p l e (rmN 3) s m args below meth c H locs 0 0 (MQ below (fxQi D (tyF ca) A (wF ad ca q.2) q.1) args s 0 0 A) (F0 m 73 ls [.int z0, .int z1]) := by
  have hx := X.1
  have hb := X.2.1
  unfold Chk_findMarks_b73 at h
  refine lv_iadd hx hb d_Chk_findMarks_73 ?_
  refine lv_istore_n hx hb d_Chk_findMarks_74 rfl hl (by decide) rfl (fun ls hl => ?_)
  have hl : lv_has ls 6 [(3, .int (z1 + z0)), (0, .ref (ad 9)), (2, .int y2), (4, .int y4), (5, .int y5)] := hl
  refine lv_aload_n hx hb d_Chk_findMarks_75 rfl (lv_at hl 1 rfl) ?_
  refine gF_chk_lastMark X hP d_Chk_findMarks_76 ?_
  refine lv_iload hx hb d_Chk_findMarks_79 (lv_at hl 4 rfl) ?_
  refine lv_iload hx hb d_Chk_findMarks_81 (lv_at hl 3 rfl) ?_
  obtain ⟨g2, e1, h⟩ := bd_some h
  refine sF_23 X hP hD hS e1 d_Chk_findMarks_83 (fun H locs hP hD hS => ?_)
  exact v_Chk_findMarks_84 X hk15 hP hD hS (lv_sub hl [1, 2, 0, 3] rfl) h
set_option maxHeartbeats 4000000 in
set_option maxRecDepth 100000 in
theorem v_Chk_findMarks_15 {p : Program} {l : Launch} {e : Env} {s : State} {m : MethodId} {args : Array Value} {below : List Frame} {meth : Method} {c : Code} {D : va_G} {ad : Nat → Nat} {ca : Nat → ClassId} {A : Nat → Prop} {FU : Nat} {q : Int32 × St} (X : FX p s m meth c prog_2_method_20_code 6 (some .int) "FlashFiles$Checkpoints" D (tyF ca) A) : ∀ (n : Nat), ∀ (y2 y3 y4 : Int32) (g : St) (H : Heap) (locs : List Loc) (ls : Array Slot), va_P D cls (wF ad ca g) H → va_D A (wF ad ca g) → va_S A s.heap H locs → lv_has ls 6 [(0, .ref (ad 9)), (2, .int y2), (3, .int y3), (4, .int y4)] → Chk_findMarks_b15 FU n y2 y3 y4 g = some q → W p l e (rmN 3) s m args below meth c H locs 0 0 (MQ below (fxQi D (tyF ca) A (wF ad ca q.2) q.1) args s 0 0 A) (F0 m 15 ls []) := by
  have hx := X.1
  have hb := X.2.1
  intro n
  induction n with
  | zero =>
    intro y2 y3 y4 g H locs ls hP hD hS hl h
    cases h
  | succ n ih =>
    intro y2 y3 y4 g H locs ls hP hD hS hl h
    have h := h
    rw [Chk_findMarks_b15.eq_2] at h
    refine lv_iload hx hb d_Chk_findMarks_15 (lv_at hl 3 rfl) ?_
    refine lv_sipush (v := 2117) hx hb d_Chk_findMarks_17 (by decide) ?_
    refine lv_icmp_gt (tgt := 101) hx hb d_Chk_findMarks_20 (by decide) (fun hc => ?_) (fun hc => ?_)
    · have h := if_t hc h
      refine lv_iload_n hx hb d_Chk_findMarks_101 rfl (lv_at hl 2 rfl) ?_
      cases h
      exact fx_iret X hP hD hS d_Chk_findMarks_102
    · have h := if_f hc h
      refine lv_aload_n hx hb d_Chk_findMarks_23 rfl (lv_at hl 0 rfl) ?_
      refine lv_iload_n hx hb d_Chk_findMarks_24 rfl (lv_at hl 1 rfl) ?_
      obtain ⟨v3, e1, h⟩ := bd_some h
      refine fx_i X (fx_runV (As := [.int y2]) X (m_Chk_goesOn e1 _) hP hD kv_Chk_179 ⟨Nat.le_of_ble_eq_true rfl, Nat.le_of_ble_eq_true rfl⟩ 9 rfl rfl rfl hl.1 rfl (Nat.le_of_ble_eq_true rfl) d_Chk_findMarks_25) hD hS (fun H locs hP hD hS => ?_)
      refine lv_if_eq (tgt := 101) hx hb d_Chk_findMarks_28 (by decide) (fun hc => ?_) (fun hc => ?_)
      · have h := if_t hc h
        refine lv_iload_n hx hb d_Chk_findMarks_101 rfl (lv_at hl 2 rfl) ?_
        cases h
        exact fx_iret X hP hD hS d_Chk_findMarks_102
      · have h := if_f hc h
        refine lv_aload_n hx hb d_Chk_findMarks_31 rfl (lv_at hl 0 rfl) ?_
        refine gF_chk_device X hP d_Chk_findMarks_32 ?_
        refine lv_iload_n hx hb d_Chk_findMarks_35 rfl (lv_at hl 1 rfl) ?_
        refine lv_bipush (v := 59) hx hb d_Chk_findMarks_36 (by decide) ?_
        obtain ⟨v4, e1, h⟩ := bd_some h
        refine fx_i X (fx_runV (As := [.int y2, .int (59 : Int32)]) X (m_Dev_word e1 _) hP hD kv_Chk_84 ⟨Nat.le_of_ble_eq_true rfl, Nat.le_of_ble_eq_true rfl⟩ 3 rfl rfl rfl hl.1 rfl (Nat.le_of_ble_eq_true rfl) d_Chk_findMarks_38) hD hS (fun H locs hP hD hS => ?_)
        refine lv_iconst (v := 1) hx hb d_Chk_findMarks_41 (by decide) ?_
        refine lv_icmp_ne (tgt := 84) hx hb d_Chk_findMarks_42 (by decide) (fun hc => ?_) (fun hc => ?_)
        · have h := if_f hc h
          exact v_Chk_findMarks_84 X ih hP hD hS (lv_sub hl [0, 1, 2, 3] rfl) h
        · have h := if_t hc h
          refine lv_aload_n hx hb d_Chk_findMarks_45 rfl (lv_at hl 0 rfl) ?_
          refine gF_chk_device X hP d_Chk_findMarks_46 ?_
          refine lv_iload_n hx hb d_Chk_findMarks_49 rfl (lv_at hl 1 rfl) ?_
          refine lv_bipush (v := 61) hx hb d_Chk_findMarks_50 (by decide) ?_
          obtain ⟨v5, e1, h⟩ := bd_some h
          refine fx_i X (fx_runV (As := [.int y2, .int (61 : Int32)]) X (m_Dev_word e1 _) hP hD kv_Chk_84 ⟨Nat.le_of_ble_eq_true rfl, Nat.le_of_ble_eq_true rfl⟩ 3 rfl rfl rfl hl.1 rfl (Nat.le_of_ble_eq_true rfl) d_Chk_findMarks_52) hD hS (fun H locs hP hD hS => ?_)
          refine lv_istore hx hb d_Chk_findMarks_55 hl (by decide) rfl (fun ls hl => ?_)
          have hl : lv_has ls 6 [(5, .int v5), (0, .ref (ad 9)), (2, .int y2), (3, .int y3), (4, .int y4)] := hl
          refine lv_iload_n hx hb d_Chk_findMarks_57 rfl (lv_at hl 3 rfl) ?_
          refine lv_aload_n hx hb d_Chk_findMarks_58 rfl (lv_at hl 1 rfl) ?_
          refine gF_chk_lastMark X hP d_Chk_findMarks_59 ?_
          refine lv_iload hx hb d_Chk_findMarks_62 (lv_at hl 0 rfl) ?_
          obtain ⟨v6, e1, h⟩ := bd_some h
          refine rF_23 X hP e1 d_Chk_findMarks_64 ?_
          refine lv_if_ne (tgt := 72) hx hb d_Chk_findMarks_65 (by decide) (fun hc => ?_) (fun hc => ?_)
          · have h := if_f hc h
            refine lv_iconst (v := 0) hx hb d_Chk_findMarks_72 (by decide) ?_
            exact v_Chk_findMarks_73 X ih hP hD hS (lv_sub hl [1, 2, 4, 0] rfl) h
          · have h := if_t hc h
            refine lv_iconst (v := 1) hx hb d_Chk_findMarks_68 (by decide) ?_
            refine lv_goto (tgt := 73) hx hb d_Chk_findMarks_69 (by decide) ?_
            exact v_Chk_findMarks_73 X ih hP hD hS (lv_sub hl [1, 2, 4, 0] rfl) h
set_option maxHeartbeats 4000000 in
set_option maxRecDepth 100000 in
theorem m_Chk_findMarks {l : Launch} {D : va_G} {ad : Nat → Nat} {ca : Nat → ClassId} {FU : Nat} {x1 : Int32} {g : St} {q : Int32 × St} (h : Chk_findMarks FU x1 g = some q) : CI l ⟨"FlashFiles$Checkpoints", "findMarks", "(I)I"⟩ prog_2_method_20_code 6 3 (some .int) D (tyF ca) (wF ad ca g) [.ref (ad 9), .int x1] q.1 (wF ad ca q.2) := by
  intro sz
  refine Met.fx (Qc := fun A => fxQi D (tyF ca) A (wF ad ca q.2) q.1) (by decide) (Nat.le_of_ble_eq_true rfl) ?_
  intro p e s m below meth c A ls X hP hD hl
  have hl : lv_has ls 6 [(0, .ref (ad 9)), (1, .int x1)] := hl
  have hS : va_S A s.heap s.heap [] := va_S.rf
  have hx := X.1
  have hb := X.2.1
  unfold Chk_findMarks at h
  refine lv_aload_n hx hb d_Chk_findMarks_0 rfl (lv_at hl 0 rfl) ?_
  refine gF_chk_lastMark X hP d_Chk_findMarks_1 ?_
  refine lv_iconst (v := 0) hx hb d_Chk_findMarks_4 (by decide) ?_
  obtain ⟨p7, e1, h⟩ := bd_some h
  refine fx_v X (fx_runS X (m_Arr_fill_0_23 e1 _) (As := [.ref (ad 34), .int (0 : Int32)]) hP hD ks_Chk_56 ⟨Nat.le_of_ble_eq_true rfl, Nat.le_of_ble_eq_true rfl⟩ rfl hl.1 rfl (Nat.le_of_ble_eq_true rfl) d_Chk_findMarks_5) hD hS (fun H locs hP hD hS => ?_)
  refine lv_iload_n hx hb d_Chk_findMarks_8 rfl (lv_at hl 1 rfl) ?_
  refine lv_istore_n hx hb d_Chk_findMarks_9 rfl hl (by decide) rfl (fun ls hl => ?_)
  have hl : lv_has ls 6 [(2, .int x1), (0, .ref (ad 9)), (1, .int x1)] := hl
  refine lv_iconst (v := 0) hx hb d_Chk_findMarks_10 (by decide) ?_
  refine lv_istore_n hx hb d_Chk_findMarks_11 rfl hl (by decide) rfl (fun ls hl => ?_)
  have hl : lv_has ls 6 [(3, .int (0 : Int32)), (2, .int x1), (0, .ref (ad 9)), (1, .int x1)] := hl
  refine lv_iconst (v := 1) hx hb d_Chk_findMarks_12 (by decide) ?_
  refine lv_istore hx hb d_Chk_findMarks_13 hl (by decide) rfl (fun ls hl => ?_)
  have hl : lv_has ls 6 [(4, .int (1 : Int32)), (3, .int (0 : Int32)), (2, .int x1), (0, .ref (ad 9)), (1, .int x1)] := hl
  exact v_Chk_findMarks_15 X  _ _ _ _ _ _ _ _ hP hD hS (lv_sub hl [3, 2, 1, 0] rfl) h
theorem d_Chk_bringBack_0 : decode prog_2_method_18_code 0 = .ok (.aload_n 0, 1) := by decide +kernel
theorem d_Chk_bringBack_1 : decode prog_2_method_18_code 1 = .ok (.invokevirtual 75, 3) := by decide +kernel
theorem d_Chk_bringBack_4 : decode prog_2_method_18_code 4 = .ok (.aload_n 0, 1) := by decide +kernel
theorem d_Chk_bringBack_5 : decode prog_2_method_18_code 5 = .ok (.iconst 0, 1) := by decide +kernel
theorem d_Chk_bringBack_6 : decode prog_2_method_18_code 6 = .ok (.invokevirtual 158, 3) := by decide +kernel
theorem d_Chk_bringBack_9 : decode prog_2_method_18_code 9 = .ok (.aload_n 0, 1) := by decide +kernel
theorem d_Chk_bringBack_10 : decode prog_2_method_18_code 10 = .ok (.iconst 1, 1) := by decide +kernel
theorem d_Chk_bringBack_11 : decode prog_2_method_18_code 11 = .ok (.invokevirtual 158, 3) := by decide +kernel
theorem d_Chk_bringBack_14 : decode prog_2_method_18_code 14 = .ok (.invokestatic 116, 3) := by decide +kernel
theorem d_Chk_bringBack_17 : decode prog_2_method_18_code 17 = .ok (.istore_n 1, 1) := by decide +kernel
theorem d_Chk_bringBack_18 : decode prog_2_method_18_code 18 = .ok (.iload_n 1, 1) := by decide +kernel
theorem d_Chk_bringBack_19 : decode prog_2_method_18_code 19 = .ok (.invokestatic 136, 3) := by decide +kernel
theorem d_Chk_bringBack_22 : decode prog_2_method_18_code 22 = .ok (.istore_n 2, 1) := by decide +kernel
theorem d_Chk_bringBack_23 : decode prog_2_method_18_code 23 = .ok (.aload_n 0, 1) := by decide +kernel
theorem d_Chk_bringBack_24 : decode prog_2_method_18_code 24 = .ok (.getfield 19, 3) := by decide +kernel
theorem d_Chk_bringBack_27 : decode prog_2_method_18_code 27 = .ok (.iload_n 1, 1) := by decide +kernel
theorem d_Chk_bringBack_28 : decode prog_2_method_18_code 28 = .ok (.invokevirtual 130, 3) := by decide +kernel
theorem d_Chk_bringBack_31 : decode prog_2_method_18_code 31 = .ok (.aload_n 0, 1) := by decide +kernel
theorem d_Chk_bringBack_32 : decode prog_2_method_18_code 32 = .ok (.aload_n 0, 1) := by decide +kernel
theorem d_Chk_bringBack_33 : decode prog_2_method_18_code 33 = .ok (.getfield 9, 3) := by decide +kernel
theorem d_Chk_bringBack_36 : decode prog_2_method_18_code 36 = .ok (.iload_n 2, 1) := by decide +kernel
theorem d_Chk_bringBack_37 : decode prog_2_method_18_code 37 = .ok (.iconst 1, 1) := by decide +kernel
theorem d_Chk_bringBack_38 : decode prog_2_method_18_code 38 = .ok (.invokevirtual 84, 3) := by decide +kernel
theorem d_Chk_bringBack_41 : decode prog_2_method_18_code 41 = .ok (.putfield 45, 3) := by decide +kernel
theorem d_Chk_bringBack_44 : decode prog_2_method_18_code 44 = .ok (.iconst 1, 1) := by decide +kernel
theorem d_Chk_bringBack_45 : decode prog_2_method_18_code 45 = .ok (.istore_n 3, 1) := by decide +kernel
theorem d_Chk_bringBack_46 : decode prog_2_method_18_code 46 = .ok (.iload_n 3, 1) := by decide +kernel
theorem d_Chk_bringBack_47 : decode prog_2_method_18_code 47 = .ok (.sipush 2048, 3) := by decide +kernel
theorem d_Chk_bringBack_50 : decode prog_2_method_18_code 50 = .ok (.if_icmp .ge 36, 3) := by decide +kernel
theorem d_Chk_bringBack_53 : decode prog_2_method_18_code 53 = .ok (.aload_n 0, 1) := by decide +kernel
theorem d_Chk_bringBack_54 : decode prog_2_method_18_code 54 = .ok (.getfield 15, 3) := by decide +kernel
theorem d_Chk_bringBack_57 : decode prog_2_method_18_code 57 = .ok (.iload_n 3, 1) := by decide +kernel
theorem d_Chk_bringBack_58 : decode prog_2_method_18_code 58 = .ok (.aload_n 0, 1) := by decide +kernel
theorem d_Chk_bringBack_59 : decode prog_2_method_18_code 59 = .ok (.getfield 9, 3) := by decide +kernel
theorem d_Chk_bringBack_62 : decode prog_2_method_18_code 62 = .ok (.iload_n 2, 1) := by decide +kernel
theorem d_Chk_bringBack_63 : decode prog_2_method_18_code 63 = .ok (.iconst 1, 1) := by decide +kernel
theorem d_Chk_bringBack_64 : decode prog_2_method_18_code 64 = .ok (.iadd, 1) := by decide +kernel
theorem d_Chk_bringBack_65 : decode prog_2_method_18_code 65 = .ok (.iload_n 3, 1) := by decide +kernel
theorem d_Chk_bringBack_66 : decode prog_2_method_18_code 66 = .ok (.bipush 64, 2) := by decide +kernel
theorem d_Chk_bringBack_68 : decode prog_2_method_18_code 68 = .ok (.idiv, 1) := by decide +kernel
theorem d_Chk_bringBack_69 : decode prog_2_method_18_code 69 = .ok (.iadd, 1) := by decide +kernel
theorem d_Chk_bringBack_70 : decode prog_2_method_18_code 70 = .ok (.iload_n 3, 1) := by decide +kernel
theorem d_Chk_bringBack_71 : decode prog_2_method_18_code 71 = .ok (.bipush 64, 2) := by decide +kernel
theorem d_Chk_bringBack_73 : decode prog_2_method_18_code 73 = .ok (.irem, 1) := by decide +kernel
theorem d_Chk_bringBack_74 : decode prog_2_method_18_code 74 = .ok (.invokevirtual 84, 3) := by decide +kernel
theorem d_Chk_bringBack_77 : decode prog_2_method_18_code 77 = .ok (.invokevirtual 161, 3) := by decide +kernel
theorem d_Chk_bringBack_80 : decode prog_2_method_18_code 80 = .ok (.iinc 3 1, 3) := by decide +kernel
theorem d_Chk_bringBack_83 : decode prog_2_method_18_code 83 = .ok (.goto (-37), 3) := by decide +kernel
theorem d_Chk_bringBack_86 : decode prog_2_method_18_code 86 = .ok (.aload_n 0, 1) := by decide +kernel
theorem d_Chk_bringBack_87 : decode prog_2_method_18_code 87 = .ok (.aload_n 0, 1) := by decide +kernel
theorem d_Chk_bringBack_88 : decode prog_2_method_18_code 88 = .ok (.getfield 9, 3) := by decide +kernel
theorem d_Chk_bringBack_91 : decode prog_2_method_18_code 91 = .ok (.iload_n 2, 1) := by decide +kernel
theorem d_Chk_bringBack_92 : decode prog_2_method_18_code 92 = .ok (.iconst 2, 1) := by decide +kernel
theorem d_Chk_bringBack_93 : decode prog_2_method_18_code 93 = .ok (.invokevirtual 84, 3) := by decide +kernel
theorem d_Chk_bringBack_96 : decode prog_2_method_18_code 96 = .ok (.invokevirtual 164, 3) := by decide +kernel
theorem d_Chk_bringBack_99 : decode prog_2_method_18_code 99 = .ok (.istore_n 3, 1) := by decide +kernel
theorem d_Chk_bringBack_100 : decode prog_2_method_18_code 100 = .ok (.aload_n 0, 1) := by decide +kernel
theorem d_Chk_bringBack_101 : decode prog_2_method_18_code 101 = .ok (.aload_n 0, 1) := by decide +kernel
theorem d_Chk_bringBack_102 : decode prog_2_method_18_code 102 = .ok (.getfield 9, 3) := by decide +kernel
theorem d_Chk_bringBack_105 : decode prog_2_method_18_code 105 = .ok (.iload_n 2, 1) := by decide +kernel
theorem d_Chk_bringBack_106 : decode prog_2_method_18_code 106 = .ok (.iconst 2, 1) := by decide +kernel
theorem d_Chk_bringBack_107 : decode prog_2_method_18_code 107 = .ok (.invokevirtual 84, 3) := by decide +kernel
theorem d_Chk_bringBack_110 : decode prog_2_method_18_code 110 = .ok (.invokevirtual 167, 3) := by decide +kernel
theorem d_Chk_bringBack_113 : decode prog_2_method_18_code 113 = .ok (.aload_n 0, 1) := by decide +kernel
theorem d_Chk_bringBack_114 : decode prog_2_method_18_code 114 = .ok (.invokevirtual 170, 3) := by decide +kernel
theorem d_Chk_bringBack_117 : decode prog_2_method_18_code 117 = .ok (.iconst 0, 1) := by decide +kernel
theorem d_Chk_bringBack_118 : decode prog_2_method_18_code 118 = .ok (.istore 4, 2) := by decide +kernel
theorem d_Chk_bringBack_120 : decode prog_2_method_18_code 120 = .ok (.iload 4, 2) := by decide +kernel
theorem d_Chk_bringBack_122 : decode prog_2_method_18_code 122 = .ok (.aload_n 0, 1) := by decide +kernel
theorem d_Chk_bringBack_123 : decode prog_2_method_18_code 123 = .ok (.getfield 19, 3) := by decide +kernel
theorem d_Chk_bringBack_126 : decode prog_2_method_18_code 126 = .ok (.invokevirtual 147, 3) := by decide +kernel
theorem d_Chk_bringBack_129 : decode prog_2_method_18_code 129 = .ok (.if_icmp .ge 68, 3) := by decide +kernel
theorem d_Chk_bringBack_132 : decode prog_2_method_18_code 132 = .ok (.aload_n 0, 1) := by decide +kernel
theorem d_Chk_bringBack_133 : decode prog_2_method_18_code 133 = .ok (.getfield 9, 3) := by decide +kernel
theorem d_Chk_bringBack_136 : decode prog_2_method_18_code 136 = .ok (.iload_n 2, 1) := by decide +kernel
theorem d_Chk_bringBack_137 : decode prog_2_method_18_code 137 = .ok (.iconst 4, 1) := by decide +kernel
theorem d_Chk_bringBack_138 : decode prog_2_method_18_code 138 = .ok (.iload 4, 2) := by decide +kernel
theorem d_Chk_bringBack_140 : decode prog_2_method_18_code 140 = .ok (.iconst 5, 1) := by decide +kernel
theorem d_Chk_bringBack_141 : decode prog_2_method_18_code 141 = .ok (.ishr, 1) := by decide +kernel
theorem d_Chk_bringBack_142 : decode prog_2_method_18_code 142 = .ok (.iadd, 1) := by decide +kernel
theorem d_Chk_bringBack_143 : decode prog_2_method_18_code 143 = .ok (.invokevirtual 84, 3) := by decide +kernel
theorem d_Chk_bringBack_146 : decode prog_2_method_18_code 146 = .ok (.iload 4, 2) := by decide +kernel
theorem d_Chk_bringBack_148 : decode prog_2_method_18_code 148 = .ok (.bipush 31, 2) := by decide +kernel
theorem d_Chk_bringBack_150 : decode prog_2_method_18_code 150 = .ok (.iand, 1) := by decide +kernel
theorem d_Chk_bringBack_151 : decode prog_2_method_18_code 151 = .ok (.iushr, 1) := by decide +kernel
theorem d_Chk_bringBack_152 : decode prog_2_method_18_code 152 = .ok (.iconst 1, 1) := by decide +kernel
theorem d_Chk_bringBack_153 : decode prog_2_method_18_code 153 = .ok (.iand, 1) := by decide +kernel
theorem d_Chk_bringBack_154 : decode prog_2_method_18_code 154 = .ok (.iconst 1, 1) := by decide +kernel
theorem d_Chk_bringBack_155 : decode prog_2_method_18_code 155 = .ok (.if_icmp .ne 7, 3) := by decide +kernel
theorem d_Chk_bringBack_158 : decode prog_2_method_18_code 158 = .ok (.iconst 1, 1) := by decide +kernel
theorem d_Chk_bringBack_159 : decode prog_2_method_18_code 159 = .ok (.goto 4, 3) := by decide +kernel
theorem d_Chk_bringBack_162 : decode prog_2_method_18_code 162 = .ok (.iconst 0, 1) := by decide +kernel
theorem d_Chk_bringBack_163 : decode prog_2_method_18_code 163 = .ok (.istore 5, 2) := by decide +kernel
theorem d_Chk_bringBack_165 : decode prog_2_method_18_code 165 = .ok (.iload 5, 2) := by decide +kernel
theorem d_Chk_bringBack_167 : decode prog_2_method_18_code 167 = .ok (.ifCond .eq 24, 3) := by decide +kernel
theorem d_Chk_bringBack_170 : decode prog_2_method_18_code 170 = .ok (.aload_n 0, 1) := by decide +kernel
theorem d_Chk_bringBack_171 : decode prog_2_method_18_code 171 = .ok (.getfield 19, 3) := by decide +kernel
theorem d_Chk_bringBack_174 : decode prog_2_method_18_code 174 = .ok (.iload 4, 2) := by decide +kernel
theorem d_Chk_bringBack_176 : decode prog_2_method_18_code 176 = .ok (.invokevirtual 150, 3) := by decide +kernel
theorem d_Chk_bringBack_179 : decode prog_2_method_18_code 179 = .ok (.ifCond .eq 12, 3) := by decide +kernel
theorem d_Chk_bringBack_182 : decode prog_2_method_18_code 182 = .ok (.aload_n 0, 1) := by decide +kernel
theorem d_Chk_bringBack_183 : decode prog_2_method_18_code 183 = .ok (.getfield 19, 3) := by decide +kernel
theorem d_Chk_bringBack_186 : decode prog_2_method_18_code 186 = .ok (.iload 4, 2) := by decide +kernel
theorem d_Chk_bringBack_188 : decode prog_2_method_18_code 188 = .ok (.invokevirtual 173, 3) := by decide +kernel
theorem d_Chk_bringBack_191 : decode prog_2_method_18_code 191 = .ok (.iinc 4 1, 3) := by decide +kernel
theorem d_Chk_bringBack_194 : decode prog_2_method_18_code 194 = .ok (.goto (-74), 3) := by decide +kernel
theorem d_Chk_bringBack_197 : decode prog_2_method_18_code 197 = .ok (.aload_n 0, 1) := by decide +kernel
theorem d_Chk_bringBack_198 : decode prog_2_method_18_code 198 = .ok (.getfield 19, 3) := by decide +kernel
theorem d_Chk_bringBack_201 : decode prog_2_method_18_code 201 = .ok (.invokevirtual 81, 3) := by decide +kernel
theorem d_Chk_bringBack_204 : decode prog_2_method_18_code 204 = .ok (.iload_n 3, 1) := by decide +kernel
theorem d_Chk_bringBack_205 : decode prog_2_method_18_code 205 = .ok (.ireturn, 1) := by decide +kernel
set_option maxHeartbeats 4000000 in
set_option maxRecDepth 100000 in
theorem v_Chk_bringBack_191 {p : Program} {l : Launch} {e : Env} {s : State} {m : MethodId} {args : Array Value} {below : List Frame} {meth : Method} {c : Code} {D : va_G} {ad : Nat → Nat} {ca : Nat → ClassId} {A : Nat → Prop} {FU : Nat} {q : Int32 × St} (X : FX p s m meth c prog_2_method_18_code 6 (some .int) "FlashFiles$Checkpoints" D (tyF ca) A) {k120 : Int32 → Int32 → Int32 → St → Option (Int32 × St)} (hk120 : ∀ (y2 y3 y4 : Int32) (g : St) (H : Heap) (locs : List Loc) (ls : Array Slot), va_P D cls (wF ad ca g) H → va_D A (wF ad ca g) → va_S A s.heap H locs → lv_has ls 6 [(0, .ref (ad 9)), (2, .int y2), (3, .int y3), (4, .int y4)] → k120 y2 y3 y4 g = some q → W p l e (rmN 6) s m args below meth c H locs 0 0 (MQ below (fxQi D (tyF ca) A (wF ad ca q.2) q.1) args s 0 0 A) (F0 m 120 ls [])) {y2 : Int32} {y3 : Int32} {y4 : Int32} {g : St} {H : Heap} {locs : List Loc} {ls : Array Slot} (hP : va_P D cls (wF ad ca g) H) (hD : va_D A (wF ad ca g)) (hS : va_S A s.heap H locs) (hl : lv_has ls 6 [(0, .ref (ad 9)), (2, .int y2), (3, .int y3), (4, .int y4)]) (h : Chk_bringBack_b191 FU k120 y2 y3 y4 g = some q) : W p l e (rmN 6) s m args below meth c H locs 0 0 (MQ below (fxQi D (tyF ca) A (wF ad ca q.2) q.1) args s 0 0 A) (F0 m 191 ls []) := by
  have hx := X.1
  have hb := X.2.1
  unfold Chk_bringBack_b191 at h
  refine lv_iinc (k := 3) (v := (y4 + (1 : Int32))) hx hb d_Chk_bringBack_191 hl rfl (oi_1 _) (by decide) rfl (fun ls hl => ?_)
  have hl : lv_has ls 6 [(4, .int (y4 + (1 : Int32))), (0, .ref (ad 9)), (2, .int y2), (3, .int y3)] := hl
  refine lv_goto (tgt := 120) hx hb d_Chk_bringBack_194 (by decide) ?_
  exact hk120 _ _ _ _ _ _ _ hP hD hS (lv_sub hl [1, 2, 3, 0] rfl) h
set_option maxHeartbeats 4000000 in
set_option maxRecDepth 100000 in
theorem v_Chk_bringBack_163 {p : Program} {l : Launch} {e : Env} {s : State} {m : MethodId} {args : Array Value} {below : List Frame} {meth : Method} {c : Code} {D : va_G} {ad : Nat → Nat} {ca : Nat → ClassId} {A : Nat → Prop} {FU : Nat} {q : Int32 × St} (X : FX p s m meth c prog_2_method_18_code 6 (some .int) "FlashFiles$Checkpoints" D (tyF ca) A) {k120 : Int32 → Int32 → Int32 → St → Option (Int32 × St)} (hk120 : ∀ (y2 y3 y4 : Int32) (g : St) (H : Heap) (locs : List Loc) (ls : Array Slot), va_P D cls (wF ad ca g) H → va_D A (wF ad ca g) → va_S A s.heap H locs → lv_has ls 6 [(0, .ref (ad 9)), (2, .int y2), (3, .int y3), (4, .int y4)] → k120 y2 y3 y4 g = some q → W p l e (rmN 6) s m args below meth c H locs 0 0 (MQ below (fxQi D (tyF ca) A (wF ad ca q.2) q.1) args s 0 0 A) (F0 m 120 ls [])) {y2 : Int32} {y3 : Int32} {y4 : Int32} {z0 : Int32} {g : St} {H : Heap} {locs : List Loc} {ls : Array Slot} (hP : va_P D cls (wF ad ca g) H) (hD : va_D A (wF ad ca g)) (hS : va_S A s.heap H locs) (hl : lv_has ls 6 [(0, .ref (ad 9)), (2, .int y2), (3, .int y3), (4, .int y4)]) (h : Chk_bringBack_b163 FU k120 y2 y3 y4 z0 g = some q) : W p l e (rmN 6) s m args below meth c H locs 0 0 (MQ below (fxQi D (tyF ca) A (wF ad ca q.2) q.1) args s 0 0 A) (F0 m 163 ls [.int z0]) := by
  have hx := X.1
  have hb := X.2.1
  unfold Chk_bringBack_b163 at h
  refine lv_istore hx hb d_Chk_bringBack_163 hl (by decide) rfl (fun ls hl => ?_)
  have hl : lv_has ls 6 [(5, .int z0), (0, .ref (ad 9)), (2, .int y2), (3, .int y3), (4, .int y4)] := hl
  refine lv_iload hx hb d_Chk_bringBack_165 (lv_at hl 0 rfl) ?_
  refine lv_if_eq (tgt := 191) hx hb d_Chk_bringBack_167 (by decide) (fun hc => ?_) (fun hc => ?_)
  · have h := if_t hc h
    exact v_Chk_bringBack_191 X hk120 hP hD hS (lv_sub hl [1, 2, 3, 4] rfl) h
  · have h := if_f hc h
    refine lv_aload_n hx hb d_Chk_bringBack_170 rfl (lv_at hl 1 rfl) ?_
    refine gF_chk_log X hP d_Chk_bringBack_171 ?_
    refine lv_iload hx hb d_Chk_bringBack_174 (lv_at hl 4 rfl) ?_
    obtain ⟨v1, e1, h⟩ := bd_some h
    refine fx_i X (fx_runV (As := [.int y4]) X (m_Log_isDead e1 _) hP hD kv_Chk_150 ⟨Nat.le_of_ble_eq_true rfl, Nat.le_of_ble_eq_true rfl⟩ 5 rfl rfl rfl hl.1 rfl (Nat.le_of_ble_eq_true rfl) d_Chk_bringBack_176) hD hS (fun H locs hP hD hS => ?_)
    refine lv_if_eq (tgt := 191) hx hb d_Chk_bringBack_179 (by decide) (fun hc => ?_) (fun hc => ?_)
    · have h := if_t hc h
      exact v_Chk_bringBack_191 X hk120 hP hD hS (lv_sub hl [1, 2, 3, 4] rfl) h
    · have h := if_f hc h
      refine lv_aload_n hx hb d_Chk_bringBack_182 rfl (lv_at hl 1 rfl) ?_
      refine gF_chk_log X hP d_Chk_bringBack_183 ?_
      refine lv_iload hx hb d_Chk_bringBack_186 (lv_at hl 4 rfl) ?_
      obtain ⟨p2, e1, h⟩ := bd_some h
      refine fx_v X (fx_runV (As := [.int y4]) X (m_Log_setFree e1 _) hP hD kv_Chk_173 ⟨Nat.le_of_ble_eq_true rfl, Nat.le_of_ble_eq_true rfl⟩ 5 rfl rfl rfl hl.1 rfl (Nat.le_of_ble_eq_true rfl) d_Chk_bringBack_188) hD hS (fun H locs hP hD hS => ?_)
      exact v_Chk_bringBack_191 X hk120 hP hD hS (lv_sub hl [1, 2, 3, 4] rfl) h
set_option maxHeartbeats 4000000 in
set_option maxRecDepth 100000 in
theorem v_Chk_bringBack_120 {p : Program} {l : Launch} {e : Env} {s : State} {m : MethodId} {args : Array Value} {below : List Frame} {meth : Method} {c : Code} {D : va_G} {ad : Nat → Nat} {ca : Nat → ClassId} {A : Nat → Prop} {FU : Nat} {q : Int32 × St} (X : FX p s m meth c prog_2_method_18_code 6 (some .int) "FlashFiles$Checkpoints" D (tyF ca) A) : ∀ (n : Nat), ∀ (y2 y3 y4 : Int32) (g : St) (H : Heap) (locs : List Loc) (ls : Array Slot), va_P D cls (wF ad ca g) H → va_D A (wF ad ca g) → va_S A s.heap H locs → lv_has ls 6 [(0, .ref (ad 9)), (2, .int y2), (3, .int y3), (4, .int y4)] → Chk_bringBack_b120 FU n y2 y3 y4 g = some q → W p l e (rmN 6) s m args below meth c H locs 0 0 (MQ below (fxQi D (tyF ca) A (wF ad ca q.2) q.1) args s 0 0 A) (F0 m 120 ls []) := by
  have hx := X.1
  have hb := X.2.1
  intro n
  induction n with
  | zero =>
    intro y2 y3 y4 g H locs ls hP hD hS hl h
    cases h
  | succ n ih =>
    intro y2 y3 y4 g H locs ls hP hD hS hl h
    have h := h
    rw [Chk_bringBack_b120.eq_2] at h
    refine lv_iload hx hb d_Chk_bringBack_120 (lv_at hl 3 rfl) ?_
    refine lv_aload_n hx hb d_Chk_bringBack_122 rfl (lv_at hl 0 rfl) ?_
    refine gF_chk_log X hP d_Chk_bringBack_123 ?_
    obtain ⟨v3, e1, h⟩ := bd_some h
    refine fx_i X (fx_runV (As := []) X (m_Log_segments e1 _) hP hD kv_Chk_147 ⟨Nat.le_of_ble_eq_true rfl, Nat.le_of_ble_eq_true rfl⟩ 5 rfl rfl rfl hl.1 rfl (Nat.le_of_ble_eq_true rfl) d_Chk_bringBack_126) hD hS (fun H locs hP hD hS => ?_)
    refine lv_icmp_ge (tgt := 197) hx hb d_Chk_bringBack_129 (by decide) (fun hc => ?_) (fun hc => ?_)
    · have h := if_t hc h
      refine lv_aload_n hx hb d_Chk_bringBack_197 rfl (lv_at hl 0 rfl) ?_
      refine gF_chk_log X hP d_Chk_bringBack_198 ?_
      obtain ⟨p4, e1, h⟩ := bd_some h
      refine fx_v X (fx_runV (As := []) X (m_Log_openEnds e1 _) hP hD kv_Chk_81 ⟨Nat.le_of_ble_eq_true rfl, Nat.le_of_ble_eq_true rfl⟩ 5 rfl rfl rfl hl.1 rfl (Nat.le_of_ble_eq_true rfl) d_Chk_bringBack_201) hD hS (fun H locs hP hD hS => ?_)
      refine lv_iload_n hx hb d_Chk_bringBack_204 rfl (lv_at hl 2 rfl) ?_
      cases h
      exact fx_iret X hP hD hS d_Chk_bringBack_205
    · have h := if_f hc h
      refine lv_aload_n hx hb d_Chk_bringBack_132 rfl (lv_at hl 0 rfl) ?_
      refine gF_chk_device X hP d_Chk_bringBack_133 ?_
      refine lv_iload_n hx hb d_Chk_bringBack_136 rfl (lv_at hl 1 rfl) ?_
      refine lv_iconst (v := 4) hx hb d_Chk_bringBack_137 (by decide) ?_
      refine lv_iload hx hb d_Chk_bringBack_138 (lv_at hl 3 rfl) ?_
      refine lv_iconst (v := 5) hx hb d_Chk_bringBack_140 (by decide) ?_
      refine lv_ishr hx hb d_Chk_bringBack_141 ?_
      refine lv_iadd hx hb d_Chk_bringBack_142 ?_
      obtain ⟨v5, e1, h⟩ := bd_some h
      refine fx_i X (fx_runV (As := [.int y2, .int ((4 : Int32) + (y4 >>> ((5 : Int32) &&& 31)))]) X (m_Dev_word e1 _) hP hD kv_Chk_84 ⟨Nat.le_of_ble_eq_true rfl, Nat.le_of_ble_eq_true rfl⟩ 3 rfl rfl rfl hl.1 rfl (Nat.le_of_ble_eq_true rfl) d_Chk_bringBack_143) hD hS (fun H locs hP hD hS => ?_)
      refine lv_iload hx hb d_Chk_bringBack_146 (lv_at hl 3 rfl) ?_
      refine lv_bipush (v := 31) hx hb d_Chk_bringBack_148 (by decide) ?_
      refine lv_iand hx hb d_Chk_bringBack_150 ?_
      refine lv_iushr (v := ush v5 (y4 &&& (31 : Int32))) hx hb d_Chk_bringBack_151 rfl ?_
      refine lv_iconst (v := 1) hx hb d_Chk_bringBack_152 (by decide) ?_
      refine lv_iand hx hb d_Chk_bringBack_153 ?_
      refine lv_iconst (v := 1) hx hb d_Chk_bringBack_154 (by decide) ?_
      refine lv_icmp_ne (tgt := 162) hx hb d_Chk_bringBack_155 (by decide) (fun hc => ?_) (fun hc => ?_)
      · have h := if_f hc h
        refine lv_iconst (v := 0) hx hb d_Chk_bringBack_162 (by decide) ?_
        exact v_Chk_bringBack_163 X ih hP hD hS (lv_sub hl [0, 1, 2, 3] rfl) h
      · have h := if_t hc h
        refine lv_iconst (v := 1) hx hb d_Chk_bringBack_158 (by decide) ?_
        refine lv_goto (tgt := 163) hx hb d_Chk_bringBack_159 (by decide) ?_
        exact v_Chk_bringBack_163 X ih hP hD hS (lv_sub hl [0, 1, 2, 3] rfl) h
set_option maxHeartbeats 4000000 in
set_option maxRecDepth 100000 in
theorem v_Chk_bringBack_46 {p : Program} {l : Launch} {e : Env} {s : State} {m : MethodId} {args : Array Value} {below : List Frame} {meth : Method} {c : Code} {D : va_G} {ad : Nat → Nat} {ca : Nat → ClassId} {A : Nat → Prop} {FU : Nat} {q : Int32 × St} (X : FX p s m meth c prog_2_method_18_code 6 (some .int) "FlashFiles$Checkpoints" D (tyF ca) A) : ∀ (n : Nat), ∀ (y2 y3 : Int32) (g : St) (H : Heap) (locs : List Loc) (ls : Array Slot), va_P D cls (wF ad ca g) H → va_D A (wF ad ca g) → va_S A s.heap H locs → lv_has ls 6 [(0, .ref (ad 9)), (2, .int y2), (3, .int y3)] → Chk_bringBack_b46 FU n y2 y3 g = some q → W p l e (rmN 6) s m args below meth c H locs 0 0 (MQ below (fxQi D (tyF ca) A (wF ad ca q.2) q.1) args s 0 0 A) (F0 m 46 ls []) := by
  have hx := X.1
  have hb := X.2.1
  intro n
  induction n with
  | zero =>
    intro y2 y3 g H locs ls hP hD hS hl h
    cases h
  | succ n ih =>
    intro y2 y3 g H locs ls hP hD hS hl h
    have h := h
    rw [Chk_bringBack_b46.eq_2] at h
    refine lv_iload_n hx hb d_Chk_bringBack_46 rfl (lv_at hl 2 rfl) ?_
    refine lv_sipush (v := 2048) hx hb d_Chk_bringBack_47 (by decide) ?_
    refine lv_icmp_ge (tgt := 86) hx hb d_Chk_bringBack_50 (by decide) (fun hc => ?_) (fun hc => ?_)
    · have h := if_t hc h
      refine lv_aload_n hx hb d_Chk_bringBack_86 rfl (lv_at hl 0 rfl) ?_
      refine lv_aload_n hx hb d_Chk_bringBack_87 rfl (lv_at hl 0 rfl) ?_
      refine gF_chk_device X hP d_Chk_bringBack_88 ?_
      refine lv_iload_n hx hb d_Chk_bringBack_91 rfl (lv_at hl 1 rfl) ?_
      refine lv_iconst (v := 2) hx hb d_Chk_bringBack_92 (by decide) ?_
      obtain ⟨v6, e1, h⟩ := bd_some h
      refine fx_i X (fx_runV (As := [.int y2, .int (2 : Int32)]) X (m_Dev_word e1 _) hP hD kv_Chk_84 ⟨Nat.le_of_ble_eq_true rfl, Nat.le_of_ble_eq_true rfl⟩ 3 rfl rfl rfl hl.1 rfl (Nat.le_of_ble_eq_true rfl) d_Chk_bringBack_93) hD hS (fun H locs hP hD hS => ?_)
      obtain ⟨p7, e1, h⟩ := bd_some h
      refine fx_i X (fx_runV (As := [.int v6]) X (m_Chk_findMarks e1 _) hP hD kv_Chk_164 ⟨Nat.le_of_ble_eq_true rfl, Nat.le_of_ble_eq_true rfl⟩ 9 rfl rfl rfl hl.1 rfl (Nat.le_of_ble_eq_true rfl) d_Chk_bringBack_96) hD hS (fun H locs hP hD hS => ?_)
      refine lv_istore_n hx hb d_Chk_bringBack_99 rfl hl (by decide) rfl (fun ls hl => ?_)
      have hl : lv_has ls 6 [(3, .int p7.1), (0, .ref (ad 9)), (2, .int y2)] := hl
      refine lv_aload_n hx hb d_Chk_bringBack_100 rfl (lv_at hl 1 rfl) ?_
      refine lv_aload_n hx hb d_Chk_bringBack_101 rfl (lv_at hl 1 rfl) ?_
      refine gF_chk_device X hP d_Chk_bringBack_102 ?_
      refine lv_iload_n hx hb d_Chk_bringBack_105 rfl (lv_at hl 2 rfl) ?_
      refine lv_iconst (v := 2) hx hb d_Chk_bringBack_106 (by decide) ?_
      obtain ⟨v8, e1, h⟩ := bd_some h
      refine fx_i X (fx_runV (As := [.int y2, .int (2 : Int32)]) X (m_Dev_word e1 _) hP hD kv_Chk_84 ⟨Nat.le_of_ble_eq_true rfl, Nat.le_of_ble_eq_true rfl⟩ 3 rfl rfl rfl hl.1 rfl (Nat.le_of_ble_eq_true rfl) d_Chk_bringBack_107) hD hS (fun H locs hP hD hS => ?_)
      obtain ⟨p9, e1, h⟩ := bd_some h
      refine fx_v X (fx_runV (As := [.int v8]) X (m_Chk_bringForward e1 _) hP hD kv_Chk_167 ⟨Nat.le_of_ble_eq_true rfl, Nat.le_of_ble_eq_true rfl⟩ 9 rfl rfl rfl hl.1 rfl (Nat.le_of_ble_eq_true rfl) d_Chk_bringBack_110) hD hS (fun H locs hP hD hS => ?_)
      refine lv_aload_n hx hb d_Chk_bringBack_113 rfl (lv_at hl 1 rfl) ?_
      obtain ⟨p10, e1, h⟩ := bd_some h
      refine fx_v X (fx_runV (As := []) X (m_Chk_claimAll e1 _) hP hD kv_Chk_170 ⟨Nat.le_of_ble_eq_true rfl, Nat.le_of_ble_eq_true rfl⟩ 9 rfl rfl rfl hl.1 rfl (Nat.le_of_ble_eq_true rfl) d_Chk_bringBack_114) hD hS (fun H locs hP hD hS => ?_)
      refine lv_iconst (v := 0) hx hb d_Chk_bringBack_117 (by decide) ?_
      refine lv_istore hx hb d_Chk_bringBack_118 hl (by decide) rfl (fun ls hl => ?_)
      have hl : lv_has ls 6 [(4, .int (0 : Int32)), (3, .int p7.1), (0, .ref (ad 9)), (2, .int y2)] := hl
      exact v_Chk_bringBack_120 X  _ _ _ _ _ _ _ _ hP hD hS (lv_sub hl [2, 3, 1, 0] rfl) h
    · have h := if_f hc h
      refine lv_aload_n hx hb d_Chk_bringBack_53 rfl (lv_at hl 0 rfl) ?_
      refine gF_chk_table X hP d_Chk_bringBack_54 ?_
      refine lv_iload_n hx hb d_Chk_bringBack_57 rfl (lv_at hl 2 rfl) ?_
      refine lv_aload_n hx hb d_Chk_bringBack_58 rfl (lv_at hl 0 rfl) ?_
      refine gF_chk_device X hP d_Chk_bringBack_59 ?_
      refine lv_iload_n hx hb d_Chk_bringBack_62 rfl (lv_at hl 1 rfl) ?_
      refine lv_iconst (v := 1) hx hb d_Chk_bringBack_63 (by decide) ?_
      refine lv_iadd hx hb d_Chk_bringBack_64 ?_
      refine lv_iload_n hx hb d_Chk_bringBack_65 rfl (lv_at hl 2 rfl) ?_
      refine lv_bipush (v := 64) hx hb d_Chk_bringBack_66 (by decide) ?_
      refine lv_idiv hx hb d_Chk_bringBack_68 (by decide) ?_
      refine lv_iadd hx hb d_Chk_bringBack_69 ?_
      refine lv_iload_n hx hb d_Chk_bringBack_70 rfl (lv_at hl 2 rfl) ?_
      refine lv_bipush (v := 64) hx hb d_Chk_bringBack_71 (by decide) ?_
      refine lv_irem hx hb d_Chk_bringBack_73 (by decide) ?_
      obtain ⟨v11, e1, h⟩ := bd_some h
      refine fx_i X (fx_runV (As := [.int ((y2 + (1 : Int32)) + (y3 / (64 : Int32))), .int (y3 - y3 / (64 : Int32) * (64 : Int32))]) X (m_Dev_word e1 _) hP hD kv_Chk_84 ⟨Nat.le_of_ble_eq_true rfl, Nat.le_of_ble_eq_true rfl⟩ 3 rfl rfl rfl hl.1 rfl (Nat.le_of_ble_eq_true rfl) d_Chk_bringBack_74) hD hS (fun H locs hP hD hS => ?_)
      obtain ⟨p12, e1, h⟩ := bd_some h
      refine fx_v X (fx_runV (As := [.int y3, .int v11]) X (m_Tab_setPlace e1 _) hP hD kv_Chk_161 ⟨Nat.le_of_ble_eq_true rfl, Nat.le_of_ble_eq_true rfl⟩ 4 rfl rfl rfl hl.1 rfl (Nat.le_of_ble_eq_true rfl) d_Chk_bringBack_77) hD hS (fun H locs hP hD hS => ?_)
      refine lv_iinc (k := 2) (v := (y3 + (1 : Int32))) hx hb d_Chk_bringBack_80 hl rfl (oi_1 _) (by decide) rfl (fun ls hl => ?_)
      have hl : lv_has ls 6 [(3, .int (y3 + (1 : Int32))), (0, .ref (ad 9)), (2, .int y2)] := hl
      refine lv_goto (tgt := 46) hx hb d_Chk_bringBack_83 (by decide) ?_
      exact ih _ _ _ _ _ _ hP hD hS (lv_sub hl [1, 2, 0] rfl) h
set_option maxHeartbeats 4000000 in
set_option maxRecDepth 100000 in
theorem m_Chk_bringBack {l : Launch} {D : va_G} {ad : Nat → Nat} {ca : Nat → ClassId} {FU : Nat} {g : St} {q : Int32 × St} (h : Chk_bringBack FU  g = some q) : CI l ⟨"FlashFiles$Checkpoints", "bringBack", "()I"⟩ prog_2_method_18_code 6 6 (some .int) D (tyF ca) (wF ad ca g) [.ref (ad 9)] q.1 (wF ad ca q.2) := by
  intro sz
  refine Met.fx (Qc := fun A => fxQi D (tyF ca) A (wF ad ca q.2) q.1) (by decide) (Nat.le_of_ble_eq_true rfl) ?_
  intro p e s m below meth c A ls X hP hD hl
  have hl : lv_has ls 6 [(0, .ref (ad 9))] := hl
  have hS : va_S A s.heap s.heap [] := va_S.rf
  have hx := X.1
  have hb := X.2.1
  unfold Chk_bringBack at h
  refine lv_aload_n hx hb d_Chk_bringBack_0 rfl (lv_at hl 0 rfl) ?_
  obtain ⟨p13, e1, h⟩ := bd_some h
  refine fx_v X (fx_runV (As := []) X (m_Chk_readSuper e1 _) hP hD kv_Chk_75 ⟨Nat.le_of_ble_eq_true rfl, Nat.le_of_ble_eq_true rfl⟩ 9 rfl rfl rfl hl.1 rfl (Nat.le_of_ble_eq_true rfl) d_Chk_bringBack_1) hD hS (fun H locs hP hD hS => ?_)
  refine lv_aload_n hx hb d_Chk_bringBack_4 rfl (lv_at hl 0 rfl) ?_
  refine lv_iconst (v := 0) hx hb d_Chk_bringBack_5 (by decide) ?_
  obtain ⟨v14, e1, h⟩ := bd_some h
  refine fx_i X (fx_runV (As := [.int (0 : Int32)]) X (m_Chk_wholeSerial e1 _) hP hD kv_Chk_158 ⟨Nat.le_of_ble_eq_true rfl, Nat.le_of_ble_eq_true rfl⟩ 9 rfl rfl rfl hl.1 rfl (Nat.le_of_ble_eq_true rfl) d_Chk_bringBack_6) hD hS (fun H locs hP hD hS => ?_)
  refine lv_aload_n hx hb d_Chk_bringBack_9 rfl (lv_at hl 0 rfl) ?_
  refine lv_iconst (v := 1) hx hb d_Chk_bringBack_10 (by decide) ?_
  obtain ⟨v15, e1, h⟩ := bd_some h
  refine fx_i X (fx_runV (As := [.int (1 : Int32)]) X (m_Chk_wholeSerial e1 _) hP hD kv_Chk_158 ⟨Nat.le_of_ble_eq_true rfl, Nat.le_of_ble_eq_true rfl⟩ 9 rfl rfl rfl hl.1 rfl (Nat.le_of_ble_eq_true rfl) d_Chk_bringBack_11) hD hS (fun H locs hP hD hS => ?_)
  refine va_mmax hx hb (X.2.2.1.trans hl.1.symm) X.2.2.2.2.2.1 (X.2.2.2.2.2.2.1.use q4_147) (X.2.2.2.2.2.2.1.use q2_190) (X.2.2.2.2.2.2.1.use q1_16) (X.2.2.2.2.2.2.1.use math_max) (Nat.le_of_ble_eq_true rfl) (Nat.le_of_ble_eq_true rfl) (Nat.zero_le _) (Nat.zero_le _) d_Chk_bringBack_14 ?_
  refine lv_istore_n hx hb d_Chk_bringBack_17 rfl hl (by decide) rfl (fun ls hl => ?_)
  have hl : lv_has ls 6 [(1, .int (if v14 < v15 then v15 else v14)), (0, .ref (ad 9))] := hl
  refine lv_iload_n hx hb d_Chk_bringBack_18 rfl (lv_at hl 0 rfl) ?_
  obtain ⟨v16, e1, h⟩ := bd_some h
  refine fx_i X (fx_runN X (m_FF_beginOfPack e1 _) (As := [.int (if v14 < v15 then v15 else v14)]) hP hD kn_Chk_136 ⟨Nat.le_of_ble_eq_true rfl, Nat.le_of_ble_eq_true rfl⟩ rfl hl.1 rfl (Nat.le_of_ble_eq_true rfl) d_Chk_bringBack_19) hD hS (fun H locs hP hD hS => ?_)
  refine lv_istore_n hx hb d_Chk_bringBack_22 rfl hl (by decide) rfl (fun ls hl => ?_)
  have hl : lv_has ls 6 [(2, .int v16), (1, .int (if v14 < v15 then v15 else v14)), (0, .ref (ad 9))] := hl
  refine lv_aload_n hx hb d_Chk_bringBack_23 rfl (lv_at hl 2 rfl) ?_
  refine gF_chk_log X hP d_Chk_bringBack_24 ?_
  refine lv_iload_n hx hb d_Chk_bringBack_27 rfl (lv_at hl 1 rfl) ?_
  obtain ⟨p17, e1, h⟩ := bd_some h
  refine fx_v X (fx_runV (As := [.int (if v14 < v15 then v15 else v14)]) X (m_Log_setSerial e1 _) hP hD kv_Chk_130 ⟨Nat.le_of_ble_eq_true rfl, Nat.le_of_ble_eq_true rfl⟩ 5 rfl rfl rfl hl.1 rfl (Nat.le_of_ble_eq_true rfl) d_Chk_bringBack_28) hD hS (fun H locs hP hD hS => ?_)
  refine lv_aload_n hx hb d_Chk_bringBack_31 rfl (lv_at hl 2 rfl) ?_
  refine lv_aload_n hx hb d_Chk_bringBack_32 rfl (lv_at hl 2 rfl) ?_
  refine gF_chk_device X hP d_Chk_bringBack_33 ?_
  refine lv_iload_n hx hb d_Chk_bringBack_36 rfl (lv_at hl 0 rfl) ?_
  refine lv_iconst (v := 1) hx hb d_Chk_bringBack_37 (by decide) ?_
  obtain ⟨v18, e1, h⟩ := bd_some h
  refine fx_i X (fx_runV (As := [.int v16, .int (1 : Int32)]) X (m_Dev_word e1 _) hP hD kv_Chk_84 ⟨Nat.le_of_ble_eq_true rfl, Nat.le_of_ble_eq_true rfl⟩ 3 rfl rfl rfl hl.1 rfl (Nat.le_of_ble_eq_true rfl) d_Chk_bringBack_38) hD hS (fun H locs hP hD hS => ?_)
  obtain ⟨g19, e1, h⟩ := nx_some h
  refine uF_chk_taken X hP hD hS e1 d_Chk_bringBack_41 (fun H locs hP hD hS => ?_)
  refine lv_iconst (v := 1) hx hb d_Chk_bringBack_44 (by decide) ?_
  refine lv_istore_n hx hb d_Chk_bringBack_45 rfl hl (by decide) rfl (fun ls hl => ?_)
  have hl : lv_has ls 6 [(3, .int (1 : Int32)), (2, .int v16), (1, .int (if v14 < v15 then v15 else v14)), (0, .ref (ad 9))] := hl
  exact v_Chk_bringBack_46 X  _ _ _ _ _ _ _ hP hD hS (lv_sub hl [3, 1, 0] rfl) h
